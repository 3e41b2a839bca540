/-! The reference: is the protocol sound. -/
def bnd (F : Nat → Nat → Int32) (v : Int32) : List (Nat × Bool) → Bool → Bool
  | [], _ => false
  | (k, b) :: ks, msg => if b = false ∧ F 62 k = v then msg else bnd F v ks (msg || b)
def sng (F : Nat → Nat → Int32) (v : Int32) : List (Nat × Bool) → Bool
  | [] => true
  | (k, b) :: ks => if b = false ∧ F 62 k = v then false else sng F v ks
def aptB (F : Nat → Nat → Int32) (k : Nat) : Nat → Nat → Bool
  | 0, _ => true
  | m + 1, q => if q ≠ k ∧ F 64 q = F 64 k ∧ F 65 q = F 65 k then false else aptB F k m (q + 1)
theorem aptB_iff (F : Nat → Nat → Int32) (k : Nat) : ∀ m q, aptB F k m q = true ↔ ∀ i, q ≤ i → i < q + m → i ≠ k → F 64 i = F 64 k → F 65 i ≠ F 65 k
  | 0, q => by
    unfold aptB
    exact ⟨fun _ i h1 h2 => absurd h1 (by omega), fun _ => rfl⟩
  | m + 1, q => by
    unfold aptB
    by_cases h : q ≠ k ∧ F 64 q = F 64 k ∧ F 65 q = F 65 k
    · rw [if_pos h]
      exact ⟨(fun z => by cases z), fun z => absurd h.2.2 (z q (Nat.le_refl _) (by omega) h.1 h.2.1)⟩
    · rw [if_neg h, aptB_iff F k m (q + 1)]
      refine ⟨fun z i h1 h2 h3 h4 h5 => ?_, fun z i h1 h2 => z i (by omega) (by omega)⟩
      by_cases hi : i = q
      · subst hi
        exact h ⟨h3, h4, h5⟩
      · exact z i (by omega) (by omega) h3 h4 h5
theorem bnd_t {F : Nat → Nat → Int32} {v : Int32} {k : Nat} {ks : List (Nat × Bool)} {msg : Bool} : bnd F v ((k, true) :: ks) msg = bnd F v ks (msg || true) := by
  rw [bnd, if_neg (fun z => absurd z.1 (by decide))]
theorem bnd_n {F : Nat → Nat → Int32} {v : Int32} {k : Nat} {ks : List (Nat × Bool)} {msg : Bool} (h : ¬ F 62 k = v) : bnd F v ((k, false) :: ks) msg = bnd F v ks (msg || false) := by
  rw [bnd, if_neg (fun z => h z.2)]
theorem bnd_e {F : Nat → Nat → Int32} {v : Int32} {k : Nat} {ks : List (Nat × Bool)} {msg : Bool} (h : F 62 k = v) : bnd F v ((k, false) :: ks) msg = msg := by
  rw [bnd, if_pos ⟨rfl, h⟩]
theorem sng_t {F : Nat → Nat → Int32} {v : Int32} {k : Nat} {ks : List (Nat × Bool)} : sng F v ((k, true) :: ks) = sng F v ks := by
  rw [sng, if_neg (fun z => absurd z.1 (by decide))]
theorem sng_n {F : Nat → Nat → Int32} {v : Int32} {k : Nat} {ks : List (Nat × Bool)} (h : ¬ F 62 k = v) : sng F v ((k, false) :: ks) = sng F v ks := by
  rw [sng, if_neg (fun z => h z.2)]
theorem sng_e {F : Nat → Nat → Int32} {v : Int32} {k : Nat} {ks : List (Nat × Bool)} (h : F 62 k = v) : sng F v ((k, false) :: ks) = false := by
  rw [sng, if_pos ⟨rfl, h⟩]
def okA (F : Nat → Nat → Int32) (n k : Nat) : Prop := ∀ ks, ch F n ks (F 64 k) → (F 61 k = 1 → bnd F (F 62 k) ks false = true) ∧ (F 61 k = 2 → sng F (F 62 k) ks = true) ∧ (F 61 k = 3 → F 62 k ≠ F 63 k)
def okB (F : Nat → Nat → Int32) (n k : Nat) : Prop := ∀ j, j < n → F 64 k = nI j → F 61 j = 3 → aptB F k n 0 = true
theorem ch_u {F : Nat → Nat → Int32} {n : Nat} (hn : n ≤ 60) : ∀ ks ks' x, ch F n ks x → ch F n ks' x → ks = ks'
  | [], [], _, _, _ => rfl
  | [], (k, b) :: ks, x, c, c' => absurd (c.symm.trans c'.1) (fun z => nI_m1 (show k < 2 ^ 31 by have := c'.2.1; omega) z.symm)
  | (k, b) :: ks, [], x, c, c' => absurd (c'.symm.trans c.1) (fun z => nI_m1 (show k < 2 ^ 31 by have := c.2.1; omega) z.symm)
  | (k, b) :: ks, (k', b') :: ks', x, c, c' => by
    obtain ⟨c1, c2, c3, c4⟩ := c
    obtain ⟨d1, d2, d3, d4⟩ := c'
    have : k = k' := (nI_eq (by omega) (by omega)).mp (c1.symm.trans d1)
    subst this
    have hb : b = b' := by
      have := c3.symm.trans d3
      cases b <;> cases b' <;> first | rfl | exact absurd this (by decide)
    subst hb
    rw [ch_u hn ks ks' _ c4 d4]
section MSD
variable {d : Nat} {h : ax_H} {n0 ms mv : Int32} {th ru : Bool} {F : Nat → Nat → Int32} {n : Nat}
theorem mbd_loop {k : Nat} (hn : n ≤ 60) (hk : k < n) (m : mo h n0 (nI n) th ms ru mv) (A : MA h F) : ∀ ks x (msg : Bool), ch F n ks x → Ev d 84 7 [some (.inr (some 59)), some (.inl (nI k)), some (.inl (bi msg)), some (.inl x)] [] h (some (.inl (bi (bnd F (F 62 k) ks msg)))) h := by
  unfold mo at m
  have h61 := A.a61
  have h62 := A.a62
  have h64 := A.a64
  intro ks
  induction ks with
  | nil =>
    intro x msg c
    rw [show x = -1 from c]
    (repeat (first | refine ax_st rfl ?_ | (apply ev_get rfl; assumption; rfl))); try dsimp only
    exact ax_rt rfl
  | cons kb ks ih =>
    obtain ⟨q, b⟩ := kb
    intro x msg c
    obtain ⟨rfl, c2, c3, c4⟩ := c
    have e1 := fun msg => ih _ msg c4
    (repeat (first | refine ax_st rfl ?_ | (apply ev_get rfl; assumption; rfl))); try dsimp only
    refine ev_f (nI_pos (by omega)) ?_
    (repeat (first | refine ax_st rfl ?_ | (apply ev_get rfl; assumption; rfl))); try dsimp only
    refine ev_ald rfl h61 ?_ ?_; exact in_nI (by omega) (by decide)
    rw [nI_clamp (by omega), c3]
    have fin : ∀ (msg' : Bool), msg' = (msg || b) → Ev d 84 38 [some (.inr (some 59)), some (.inl (nI k)), some (.inl (bi msg')), some (.inl (nI q))] [] h (some (.inl (bi (bnd F (F 62 k) ks (msg || b))))) h := by
      intro msg' hm
      subst hm
      have e2 := e1 (msg || b)
      (repeat (first | refine ax_st rfl ?_ | (apply ev_get rfl; assumption; rfl))); try dsimp only
      refine ev_ald rfl h64 ?_ ?_; exact in_nI (by omega) (by decide)
      rw [nI_clamp (by omega)]
      repeat (first | (exact e2) | refine ax_st rfl ?_ | (apply ev_get rfl; assumption; rfl))
    have fin2 : Ev d 84 26 [some (.inr (some 59)), some (.inl (nI k)), some (.inl (bi msg)), some (.inl (nI q))] [] h (some (.inl (bi (bnd F (F 62 k) ks (msg || b))))) h := by
      cases msg with
      | true =>
        have e2 := fin true (by simp)
        repeat (first | (exact e2) | refine ax_st rfl ?_ | (apply ev_get rfl; assumption; rfl))
      | false =>
        (repeat (first | refine ax_st rfl ?_ | (apply ev_get rfl; assumption; rfl))); try dsimp only
        refine ev_ald rfl h61 ?_ ?_; exact in_nI (by omega) (by decide)
        rw [nI_clamp (by omega), c3]
        cases b with
        | true =>
          have e2 := fin true (by simp)
          repeat (first | (exact e2) | refine ax_st rfl ?_ | (apply ev_get rfl; assumption; rfl))
        | false =>
          have e2 := fin false (by simp)
          repeat (first | (exact e2) | refine ax_st rfl ?_ | (apply ev_get rfl; assumption; rfl))
    cases b with
    | true =>
      rw [bnd_t]
      repeat (first | (exact fin2) | refine ax_st rfl ?_ | (apply ev_get rfl; assumption; rfl))
    | false =>
      (repeat (first | refine ax_st rfl ?_ | (apply ev_get rfl; assumption; rfl))); try dsimp only
      refine ev_ald rfl h62 ?_ ?_; exact in_nI (by omega) (by decide)
      rw [nI_clamp (by omega)]
      (repeat (first | refine ax_st rfl ?_ | (apply ev_get rfl; assumption; rfl))); try dsimp only
      refine ev_ald rfl h62 ?_ ?_; exact in_nI (by omega) (by decide)
      rw [nI_clamp (by omega)]
      (repeat (first | refine ax_st rfl ?_ | (apply ev_get rfl; assumption; rfl))); try dsimp only
      refine ev_if (fun c1 => ?_) (fun c1 => ?_)
      · rw [bnd_n c1]
        exact fin2
      · rw [bnd_e (Decidable.not_not.mp c1)]
        cases msg with
        | true =>
          (repeat (first | refine ax_st rfl ?_ | (apply ev_get rfl; assumption; rfl))); try dsimp only
          exact ax_rt rfl
        | false =>
          (repeat (first | refine ax_st rfl ?_ | (apply ev_get rfl; assumption; rfl))); try dsimp only
          exact ax_rt rfl
theorem m_bound {k : Nat} (hn : n ≤ 60) (hk : k < n) (m : mo h n0 (nI n) th ms ru mv) (A : MA h F) {ks : List (Nat × Bool)} (c : ch F n ks (F 64 k)) : mt d 84 [.inr (some 59), .inl (nI k)] h (some (.inl (bi (bnd F (F 62 k) ks false)))) h := by
  have e1 := mbd_loop (d := d) hn hk m A ks _ false c
  have h64 := A.a64
  unfold mo at m
  (repeat (first | refine ax_st rfl ?_ | (apply ev_get rfl; assumption; rfl))); try dsimp only
  refine ev_ald rfl h64 ?_ ?_; exact in_nI (by omega) (by decide)
  rw [nI_clamp (by omega)]
  repeat (first | (exact e1) | refine ax_st rfl ?_ | (apply ev_get rfl; assumption; rfl))
theorem msg_loop {k : Nat} (hn : n ≤ 60) (hk : k < n) (m : mo h n0 (nI n) th ms ru mv) (A : MA h F) : ∀ ks x, ch F n ks x → Ev d 85 5 [some (.inr (some 59)), some (.inl (nI k)), some (.inl x)] [] h (some (.inl (bi (sng F (F 62 k) ks)))) h := by
  unfold mo at m
  have h61 := A.a61
  have h62 := A.a62
  have h64 := A.a64
  intro ks
  induction ks with
  | nil =>
    intro x c
    rw [show x = -1 from c]
    (repeat (first | refine ax_st rfl ?_ | (apply ev_get rfl; assumption; rfl))); try dsimp only
    exact ax_rt rfl
  | cons kb ks ih =>
    obtain ⟨q, b⟩ := kb
    intro x c
    obtain ⟨rfl, c2, c3, c4⟩ := c
    have e1 := ih _ c4
    (repeat (first | refine ax_st rfl ?_ | (apply ev_get rfl; assumption; rfl))); try dsimp only
    refine ev_f (nI_pos (by omega)) ?_
    (repeat (first | refine ax_st rfl ?_ | (apply ev_get rfl; assumption; rfl))); try dsimp only
    refine ev_ald rfl h61 ?_ ?_; exact in_nI (by omega) (by decide)
    rw [nI_clamp (by omega), c3]
    have fin2 : Ev d 85 24 [some (.inr (some 59)), some (.inl (nI k)), some (.inl (nI q))] [] h (some (.inl (bi (sng F (F 62 k) ks)))) h := by
      (repeat (first | refine ax_st rfl ?_ | (apply ev_get rfl; assumption; rfl))); try dsimp only
      refine ev_ald rfl h64 ?_ ?_; exact in_nI (by omega) (by decide)
      rw [nI_clamp (by omega)]
      repeat (first | (exact e1) | refine ax_st rfl ?_ | (apply ev_get rfl; assumption; rfl))
    cases b with
    | true =>
      rw [sng_t]
      repeat (first | (exact fin2) | refine ax_st rfl ?_ | (apply ev_get rfl; assumption; rfl))
    | false =>
      (repeat (first | refine ax_st rfl ?_ | (apply ev_get rfl; assumption; rfl))); try dsimp only
      refine ev_ald rfl h62 ?_ ?_; exact in_nI (by omega) (by decide)
      rw [nI_clamp (by omega)]
      (repeat (first | refine ax_st rfl ?_ | (apply ev_get rfl; assumption; rfl))); try dsimp only
      refine ev_ald rfl h62 ?_ ?_; exact in_nI (by omega) (by decide)
      rw [nI_clamp (by omega)]
      (repeat (first | refine ax_st rfl ?_ | (apply ev_get rfl; assumption; rfl))); try dsimp only
      refine ev_if (fun c1 => ?_) (fun c1 => ?_)
      · rw [sng_n c1]
        exact fin2
      · rw [sng_e (Decidable.not_not.mp c1)]
        (repeat (first | refine ax_st rfl ?_ | (apply ev_get rfl; assumption; rfl))); try dsimp only
        exact ax_rt rfl
theorem m_single {k : Nat} (hn : n ≤ 60) (hk : k < n) (m : mo h n0 (nI n) th ms ru mv) (A : MA h F) {ks : List (Nat × Bool)} (c : ch F n ks (F 64 k)) : mt d 85 [.inr (some 59), .inl (nI k)] h (some (.inl (bi (sng F (F 62 k) ks)))) h := by
  have e1 := msg_loop (d := d) hn hk m A ks _ c
  have h64 := A.a64
  unfold mo at m
  (repeat (first | refine ax_st rfl ?_ | (apply ev_get rfl; assumption; rfl))); try dsimp only
  refine ev_ald rfl h64 ?_ ?_; exact in_nI (by omega) (by decide)
  rw [nI_clamp (by omega)]
  repeat (first | (exact e1) | refine ax_st rfl ?_ | (apply ev_get rfl; assumption; rfl))
theorem map_loop {k : Nat} (hn : n ≤ 60) (hk : k < n) (m : mo h n0 (nI n) th ms ru mv) (A : MA h F) : ∀ g q, q + g = n → Ev d 86 2 [some (.inr (some 59)), some (.inl (nI k)), some (.inl (nI q))] [] h (some (.inl (bi (aptB F k g q)))) h := by
  unfold mo at m
  have h64 := A.a64
  have h65 := A.a65
  intro g
  induction g with
  | zero =>
    intro q hq
    (repeat (first | refine ax_st rfl ?_ | (apply ev_get rfl; assumption; rfl))); try dsimp only
    refine ev_t ((nI_leI (by omega) (by omega)).mpr (by omega)) ?_
    (repeat (first | refine ax_st rfl ?_ | (apply ev_get rfl; assumption; rfl))); try dsimp only
    exact ax_rt rfl
  | succ g ih =>
    intro q hq
    have e1 := ih (q + 1) (by omega)
    rw [← nI_1 q] at e1
    unfold aptB
    (repeat (first | refine ax_st rfl ?_ | (apply ev_get rfl; assumption; rfl))); try dsimp only
    refine ev_f (fun z => absurd ((nI_leI (by omega) (by omega)).mp z) (by omega)) ?_
    (repeat (first | refine ax_st rfl ?_ | (apply ev_get rfl; assumption; rfl))); try dsimp only
    refine ev_if (fun c1 => ?_) (fun c1 => ?_)
    · rw [if_neg (fun z => z.1 ((nI_eq (by omega) (by omega)).mp c1))]
      repeat (first | (exact e1) | refine ax_st rfl ?_ | (apply ev_get rfl; assumption; rfl))
    · (repeat (first | refine ax_st rfl ?_ | (apply ev_get rfl; assumption; rfl))); try dsimp only
      refine ev_ald rfl h64 ?_ ?_; exact in_nI (by omega) (by decide)
      rw [nI_clamp (by omega)]
      (repeat (first | refine ax_st rfl ?_ | (apply ev_get rfl; assumption; rfl))); try dsimp only
      refine ev_ald rfl h64 ?_ ?_; exact in_nI (by omega) (by decide)
      rw [nI_clamp (by omega)]
      (repeat (first | refine ax_st rfl ?_ | (apply ev_get rfl; assumption; rfl))); try dsimp only
      refine ev_if (fun c2 => ?_) (fun c2 => ?_)
      · rw [if_neg (fun z => c2 z.2.1)]
        repeat (first | (exact e1) | refine ax_st rfl ?_ | (apply ev_get rfl; assumption; rfl))
      · (repeat (first | refine ax_st rfl ?_ | (apply ev_get rfl; assumption; rfl))); try dsimp only
        refine ev_ald rfl h65 ?_ ?_; exact in_nI (by omega) (by decide)
        rw [nI_clamp (by omega)]
        (repeat (first | refine ax_st rfl ?_ | (apply ev_get rfl; assumption; rfl))); try dsimp only
        refine ev_ald rfl h65 ?_ ?_; exact in_nI (by omega) (by decide)
        rw [nI_clamp (by omega)]
        (repeat (first | refine ax_st rfl ?_ | (apply ev_get rfl; assumption; rfl))); try dsimp only
        refine ev_if (fun c3 => ?_) (fun c3 => ?_)
        · rw [if_neg (fun z => c3 z.2.2)]
          repeat (first | (exact e1) | refine ax_st rfl ?_ | (apply ev_get rfl; assumption; rfl))
        · rw [if_pos ⟨fun z => c1 (by rw [z]), Decidable.not_not.mp c2, Decidable.not_not.mp c3⟩]
          (repeat (first | refine ax_st rfl ?_ | (apply ev_get rfl; assumption; rfl))); try dsimp only
          exact ax_rt rfl
theorem m_apart {k : Nat} (hn : n ≤ 60) (hk : k < n) (m : mo h n0 (nI n) th ms ru mv) (A : MA h F) : mt d 86 [.inr (some 59), .inl (nI k)] h (some (.inl (bi (aptB F k n 0)))) h := by
  have e1 := map_loop (d := d) hn hk m A n 0 (by omega)
  repeat (first | (exact e1) | refine ax_st rfl ?_ | (apply ev_get rfl; assumption; rfl))
theorem mso_loop (hn : n ≤ 60) (m : mo h n0 (nI n) th ms ru mv) (A : MA h F) (hC : ∀ k, k < n → ∃ ks, ch F n ks (F 64 k)) : ∀ g k, k + g = n → ∃ b, Ev (d + 1) 87 2 [some (.inr (some 59)), some (.inl (nI k))] [] h (some (.inl (bi b))) h ∧ (b = true ↔ ∀ i, k ≤ i → i < n → okA F n i ∧ okB F n i) := by
  have m0 := m
  unfold mo at m
  have h61 := A.a61
  have h62 := A.a62
  have h63 := A.a63
  have h64 := A.a64
  intro g
  induction g with
  | zero =>
    intro k hk
    refine ⟨true, ?_, fun _ i h1 h2 => absurd h1 (by omega), fun _ => rfl⟩
    (repeat (first | refine ax_st rfl ?_ | (apply ev_get rfl; assumption; rfl))); try dsimp only
    refine ev_t ((nI_leI (by omega) (by omega)).mpr (by omega)) ?_
    (repeat (first | refine ax_st rfl ?_ | (apply ev_get rfl; assumption; rfl))); try dsimp only
    exact ax_rt rfl
  | succ g ih =>
    intro k hk
    obtain ⟨b, e1, hb⟩ := ih (k + 1) (by omega)
    rw [← nI_1 k] at e1
    have hkn : k < n := by omega
    obtain ⟨ks, ck⟩ := hC k hkn
    have pre : ∀ {res : Int32}, Ev (d + 1) 87 11 [some (.inr (some 59)), some (.inl (nI k))] [.inl 1, .inl (F 61 k)] h (some (.inl res)) h → Ev (d + 1) 87 2 [some (.inr (some 59)), some (.inl (nI k))] [] h (some (.inl res)) h := by
      intro res e
      (repeat (first | refine ax_st rfl ?_ | (apply ev_get rfl; assumption; rfl))); try dsimp only
      refine ev_f (fun z => absurd ((nI_leI (by omega) (by omega)).mp z) (by omega)) ?_
      (repeat (first | refine ax_st rfl ?_ | (apply ev_get rfl; assumption; rfl))); try dsimp only
      refine ev_ald rfl h61 ?_ ?_; exact in_nI (by omega) (by decide)
      rw [nI_clamp (by omega)]
      repeat (first | (exact e) | refine ax_st rfl ?_ | (apply ev_get rfl; assumption; rfl))
    have bad : Ev (d + 1) 87 41 [some (.inr (some 59)), some (.inl (nI k))] [] h (some (.inl (bi false))) h := by
      (repeat (first | refine ax_st rfl ?_ | (apply ev_get rfl; assumption; rfl))); try dsimp only
      exact ax_rt rfl
    -- the last test
    have s4 : ∃ b', Ev (d + 1) 87 43 [some (.inr (some 59)), some (.inl (nI k))] [] h (some (.inl (bi b'))) h ∧ (b' = true ↔ okB F n k ∧ ∀ i, k + 1 ≤ i → i < n → okA F n i ∧ okB F n i) := by
      cases ks with
      | nil =>
        have ck : F 64 k = -1 := ck
        refine ⟨b, ?_, hb.trans ⟨fun z => ⟨fun j hj hh => absurd (ck.symm.trans hh) (fun z => nI_m1 (show j < 2 ^ 31 by omega) z.symm), z⟩, fun z => z.2⟩⟩
        (repeat (first | refine ax_st rfl ?_ | (apply ev_get rfl; assumption; rfl))); try dsimp only
        refine ev_ald rfl h64 ?_ ?_; exact in_nI (by omega) (by decide)
        rw [nI_clamp (by omega), ck]
        repeat (first | (exact e1) | refine ax_st rfl ?_ | (apply ev_get rfl; assumption; rfl))
      | cons qb ks =>
        obtain ⟨q, bb⟩ := qb
        obtain ⟨c1, c2, c3, c4⟩ := ck
        have pre4 : ∀ {res : Int32}, Ev (d + 1) 87 56 [some (.inr (some 59)), some (.inl (nI k))] [.inl 3, .inl (F 61 q)] h (some (.inl res)) h → Ev (d + 1) 87 43 [some (.inr (some 59)), some (.inl (nI k))] [] h (some (.inl res)) h := by
          intro res e
          (repeat (first | refine ax_st rfl ?_ | (apply ev_get rfl; assumption; rfl))); try dsimp only
          refine ev_ald rfl h64 ?_ ?_; exact in_nI (by omega) (by decide)
          rw [nI_clamp (by omega), c1]
          refine ax_st rfl ?_
          dsimp only
          refine ev_f (nI_pos (by omega)) ?_
          (repeat (first | refine ax_st rfl ?_ | (apply ev_get rfl; assumption; rfl))); try dsimp only
          refine ev_ald rfl h64 ?_ ?_; exact in_nI (by omega) (by decide)
          rw [nI_clamp (by omega), c1]
          refine ev_ald rfl h61 ?_ ?_; exact in_nI (by omega) (by decide)
          rw [nI_clamp (by omega)]
          repeat (first | (exact e) | refine ax_st rfl ?_ | (apply ev_get rfl; assumption; rfl))
        cases bb with
        | false =>
          refine ⟨b, pre4 ?_, hb.trans ⟨fun z => ⟨fun j hj hh hj3 => ?_, z⟩, fun z => z.2⟩⟩
          · rw [c3]
            repeat (first | (exact e1) | refine ax_st rfl ?_ | (apply ev_get rfl; assumption; rfl))
          · have : q = j := (nI_eq (by omega) (by omega)).mp (c1.symm.trans hh)
            rw [← this, c3] at hj3
            exact absurd hj3 (by decide)
        | true =>
          cases hq : aptB F k n 0 with
          | false =>
            refine ⟨false, pre4 ?_, (fun z => by cases z), fun z => absurd (z.1 q c2 c1 c3) (by rw [hq]; decide)⟩
            rw [c3]
            (repeat (first | refine ax_st rfl ?_ | (apply ev_get rfl; assumption; rfl))); try dsimp only
            refine ev_callV rfl m ⟨rfl, rfl, Nat.le_of_ble_eq_true rfl, Nat.le_of_ble_eq_true rfl⟩ (m_apart hn hkn m0 A) ?_
            rw [hq]
            (repeat (first | refine ax_st rfl ?_ | (apply ev_get rfl; assumption; rfl))); try dsimp only
            exact ax_rt rfl
          | true =>
            refine ⟨b, pre4 ?_, hb.trans ⟨fun z => ⟨fun j hj hh hj3 => hq, z⟩, fun z => z.2⟩⟩
            rw [c3]
            (repeat (first | refine ax_st rfl ?_ | (apply ev_get rfl; assumption; rfl))); try dsimp only
            refine ev_callV rfl m ⟨rfl, rfl, Nat.le_of_ble_eq_true rfl, Nat.le_of_ble_eq_true rfl⟩ (m_apart hn hkn m0 A) ?_
            rw [hq]
            repeat (first | (exact e1) | refine ax_st rfl ?_ | (apply ev_get rfl; assumption; rfl))
    obtain ⟨b4, e4, h4⟩ := s4
    have s3 : ∃ b', Ev (d + 1) 87 26 [some (.inr (some 59)), some (.inl (nI k))] [] h (some (.inl (bi b'))) h ∧ (b' = true ↔ (F 61 k = 3 → F 62 k ≠ F 63 k) ∧ okB F n k ∧ ∀ i, k + 1 ≤ i → i < n → okA F n i ∧ okB F n i) := by
      by_cases h3 : F 61 k = 3
      · by_cases h5 : F 62 k = F 63 k
        · refine ⟨false, ?_, (fun z => by cases z), fun z => absurd h5 (z.1 h3)⟩
          (repeat (first | refine ax_st rfl ?_ | (apply ev_get rfl; assumption; rfl))); try dsimp only
          refine ev_ald rfl h61 ?_ ?_; exact in_nI (by omega) (by decide)
          rw [nI_clamp (by omega), h3]
          (repeat (first | refine ax_st rfl ?_ | (apply ev_get rfl; assumption; rfl))); try dsimp only
          refine ev_ald rfl h62 ?_ ?_; exact in_nI (by omega) (by decide)
          rw [nI_clamp (by omega)]
          (repeat (first | refine ax_st rfl ?_ | (apply ev_get rfl; assumption; rfl))); try dsimp only
          refine ev_ald rfl h63 ?_ ?_; exact in_nI (by omega) (by decide)
          rw [nI_clamp (by omega)]
          (repeat (first | refine ax_st rfl ?_ | (apply ev_get rfl; assumption; rfl))); try dsimp only
          refine ev_f (fun z => z h5) ?_
          exact bad
        · refine ⟨b4, ?_, h4.trans ⟨fun z => ⟨fun _ => h5, z⟩, fun z => z.2⟩⟩
          (repeat (first | refine ax_st rfl ?_ | (apply ev_get rfl; assumption; rfl))); try dsimp only
          refine ev_ald rfl h61 ?_ ?_; exact in_nI (by omega) (by decide)
          rw [nI_clamp (by omega), h3]
          (repeat (first | refine ax_st rfl ?_ | (apply ev_get rfl; assumption; rfl))); try dsimp only
          refine ev_ald rfl h62 ?_ ?_; exact in_nI (by omega) (by decide)
          rw [nI_clamp (by omega)]
          (repeat (first | refine ax_st rfl ?_ | (apply ev_get rfl; assumption; rfl))); try dsimp only
          refine ev_ald rfl h63 ?_ ?_; exact in_nI (by omega) (by decide)
          rw [nI_clamp (by omega)]
          (repeat (first | refine ax_st rfl ?_ | (apply ev_get rfl; assumption; rfl))); try dsimp only
          refine ev_t h5 ?_
          exact e4
      · refine ⟨b4, ?_, h4.trans ⟨fun z => ⟨fun q => absurd q h3, z⟩, fun z => z.2⟩⟩
        (repeat (first | refine ax_st rfl ?_ | (apply ev_get rfl; assumption; rfl))); try dsimp only
        refine ev_ald rfl h61 ?_ ?_; exact in_nI (by omega) (by decide)
        rw [nI_clamp (by omega)]
        (repeat (first | refine ax_st rfl ?_ | (apply ev_get rfl; assumption; rfl))); try dsimp only
        refine ev_t h3 ?_
        exact e4
    obtain ⟨b3, e3, h3⟩ := s3
    have s2 : ∃ b', Ev (d + 1) 87 16 [some (.inr (some 59)), some (.inl (nI k))] [] h (some (.inl (bi b'))) h ∧ (b' = true ↔ (F 61 k = 2 → sng F (F 62 k) ks = true) ∧ (F 61 k = 3 → F 62 k ≠ F 63 k) ∧ okB F n k ∧ ∀ i, k + 1 ≤ i → i < n → okA F n i ∧ okB F n i) := by
      by_cases h2 : F 61 k = 2
      · cases h5 : sng F (F 62 k) ks with
        | false =>
          refine ⟨false, ?_, (fun z => by cases z), fun z => absurd (z.1 h2) (by decide)⟩
          (repeat (first | refine ax_st rfl ?_ | (apply ev_get rfl; assumption; rfl))); try dsimp only
          refine ev_ald rfl h61 ?_ ?_; exact in_nI (by omega) (by decide)
          rw [nI_clamp (by omega), h2]
          (repeat (first | refine ax_st rfl ?_ | (apply ev_get rfl; assumption; rfl))); try dsimp only
          refine ev_callV rfl m ⟨rfl, rfl, Nat.le_of_ble_eq_true rfl, Nat.le_of_ble_eq_true rfl⟩ (m_single hn hkn m0 A ck) ?_
          rw [h5]
          repeat (first | (exact bad) | refine ax_st rfl ?_ | (apply ev_get rfl; assumption; rfl))
        | true =>
          refine ⟨b3, ?_, h3.trans ⟨fun z => ⟨fun _ => rfl, z⟩, fun z => z.2⟩⟩
          (repeat (first | refine ax_st rfl ?_ | (apply ev_get rfl; assumption; rfl))); try dsimp only
          refine ev_ald rfl h61 ?_ ?_; exact in_nI (by omega) (by decide)
          rw [nI_clamp (by omega), h2]
          (repeat (first | refine ax_st rfl ?_ | (apply ev_get rfl; assumption; rfl))); try dsimp only
          refine ev_callV rfl m ⟨rfl, rfl, Nat.le_of_ble_eq_true rfl, Nat.le_of_ble_eq_true rfl⟩ (m_single hn hkn m0 A ck) ?_
          rw [h5]
          repeat (first | (exact e3) | refine ax_st rfl ?_ | (apply ev_get rfl; assumption; rfl))
      · refine ⟨b3, ?_, h3.trans ⟨fun z => ⟨fun q => absurd q h2, z⟩, fun z => z.2⟩⟩
        (repeat (first | refine ax_st rfl ?_ | (apply ev_get rfl; assumption; rfl))); try dsimp only
        refine ev_ald rfl h61 ?_ ?_; exact in_nI (by omega) (by decide)
        rw [nI_clamp (by omega)]
        (repeat (first | refine ax_st rfl ?_ | (apply ev_get rfl; assumption; rfl))); try dsimp only
        refine ev_t h2 ?_
        exact e3
    obtain ⟨b2, e2, h2⟩ := s2
    have s1 : ∃ b', Ev (d + 1) 87 11 [some (.inr (some 59)), some (.inl (nI k))] [.inl 1, .inl (F 61 k)] h (some (.inl (bi b'))) h ∧ (b' = true ↔ (F 61 k = 1 → bnd F (F 62 k) ks false = true) ∧ (F 61 k = 2 → sng F (F 62 k) ks = true) ∧ (F 61 k = 3 → F 62 k ≠ F 63 k) ∧ okB F n k ∧ ∀ i, k + 1 ≤ i → i < n → okA F n i ∧ okB F n i) := by
      by_cases h1 : F 61 k = 1
      · cases h5 : bnd F (F 62 k) ks false with
        | false =>
          refine ⟨false, ?_, (fun z => by cases z), fun z => absurd (z.1 h1) (by decide)⟩
          rw [h1]
          (repeat (first | refine ax_st rfl ?_ | (apply ev_get rfl; assumption; rfl))); try dsimp only
          refine ev_callV rfl m ⟨rfl, rfl, Nat.le_of_ble_eq_true rfl, Nat.le_of_ble_eq_true rfl⟩ (m_bound hn hkn m0 A ck) ?_
          rw [h5]
          repeat (first | (exact bad) | refine ax_st rfl ?_ | (apply ev_get rfl; assumption; rfl))
        | true =>
          refine ⟨b2, ?_, h2.trans ⟨fun z => ⟨fun _ => rfl, z⟩, fun z => z.2⟩⟩
          rw [h1]
          (repeat (first | refine ax_st rfl ?_ | (apply ev_get rfl; assumption; rfl))); try dsimp only
          refine ev_callV rfl m ⟨rfl, rfl, Nat.le_of_ble_eq_true rfl, Nat.le_of_ble_eq_true rfl⟩ (m_bound hn hkn m0 A ck) ?_
          rw [h5]
          repeat (first | (exact e2) | refine ax_st rfl ?_ | (apply ev_get rfl; assumption; rfl))
      · refine ⟨b2, ?_, h2.trans ⟨fun z => ⟨fun q => absurd q h1, z⟩, fun z => z.2⟩⟩
        refine ax_st rfl ?_
        dsimp only
        refine ev_t h1 ?_
        exact e2
    obtain ⟨b1, e1', h1⟩ := s1
    refine ⟨b1, pre e1', h1.trans ⟨fun z i i1 i2 => ?_, fun z => ?_⟩⟩
    · by_cases hi : i = k
      · subst hi
        refine ⟨fun ks' c' => ?_, z.2.2.2.1⟩
        rw [ch_u hn ks' ks _ c' ck]
        exact ⟨z.1, z.2.1, z.2.2.1⟩
      · exact z.2.2.2.2 i (by omega) i2
    · have hz := z k (Nat.le_refl _) hkn
      have ha := hz.1 ks ck
      exact ⟨ha.1, ha.2.1, ha.2.2, hz.2, fun i i1 i2 => z i (by omega) i2⟩
theorem m_sound (hn : n ≤ 60) (m : mo h n0 (nI n) th ms ru mv) (A : MA h F) (hC : ∀ k, k < n → ∃ ks, ch F n ks (F 64 k)) : ∃ b, mt (d + 1) 87 [.inr (some 59)] h (some (.inl (bi b))) h ∧ (b = true ↔ ∀ i, i < n → okA F n i ∧ okB F n i) := by
  obtain ⟨b, e, hb⟩ := mso_loop (d := d) hn m A hC n 0 (Nat.zero_add n)
  refine ⟨b, ?_, hb.trans ⟨fun z i => z i (Nat.zero_le _), fun z i _ => z i⟩⟩
  repeat (first | (exact e) | refine ax_st rfl ?_ | (apply ev_get rfl; assumption; rfl))
end MSD
