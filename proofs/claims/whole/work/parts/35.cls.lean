/-! RoleParts itself: its cells, and the methods that only look. -/
def rob (h : ax_H) (mc : Int32) (run : Bool) (mv : Int32) : Prop := ob h 1 6 [.inr (some 2), .inr (some 4), .inr (some 5), .inr (some 8), .inr (some 9), .inr (some 10), .inl mc, .inl (bi run), .inl mv]
def RA (h : ax_H) : Prop := (∃ f, aq h 8 2 4 f ∧ ∀ r, r < 4 → f r = some (13 + 4 * r)) ∧ (∃ f, aq h 9 3 4 f ∧ ∀ r, r < 4 → f r = some (14 + 4 * r)) ∧ ∃ f, aq h 10 4 16 f ∧ ∀ k, k < 16 → f k = some (27 + 2 * k)
def RG (h : ax_H) : Prop := (∃ u v, ob h 4 0 [.inl u, .inl v]) ∧ ∃ n lo f g, sn h n lo f g
def RR (h : ax_H) (r : Nat) (P : Option Tr) (p : Nat) : Prop := (∃ b, tx h (11 + 4 * r) (12 + 4 * r) b ∧ ∀ l, P = some l → b = rn l false) ∧ pl h (13 + 4 * r) (11 + 4 * r) P.isSome p ∧ ∃ q, wr h (14 + 4 * r) (11 + 4 * r) (65 + r) q
def RC (h : ax_H) (tp : List Nat) (mc : Int32) (P : Nat → Option Tr) (run : Bool) (pc : Nat → Nat) (rws : Nat → List Int32) (mv : Int32) : Prop := rob h mc run mv ∧ RA h ∧ RG h ∧ tx h 2 3 tp ∧ (∀ r, r < 4 → RR h r (P r) (pc r)) ∧ ∀ k, k < 16 → rw0 h (27 + 2 * k) (28 + 2 * k) (rws k)
section CLS
variable {d : Nat} {h : ax_H} {tp : List Nat} {mc mv : Int32} {P : Nat → Option Tr} {run : Bool} {pc : Nat → Nat} {rws : Nat → List Int32}
theorem c_player (A : RA h) {r : Nat} (hr : r < 4) {j i nx : Nat} {L : ax_L} {st : List ax_V} {res : Option ax_V} {h' : ax_H} {D : Nat} (hP : ax_P j i = ax_aald nx) (kk : Ev D j nx L (.inr (some (13 + 4 * r)) :: st) h res h') : Ev D j i L (.inl (nI r) :: .inr (some 8) :: st) h res h' := by
  obtain ⟨⟨f, hf, hv⟩, -, -⟩ := A
  refine ev_aald hP hf ⟨by decide, by decide⟩ (in_nI hr (by decide)) ?_
  rw [nI_clamp (by omega), hv r hr]
  exact kk
theorem c_writer (A : RA h) {r : Nat} (hr : r < 4) {j i nx : Nat} {L : ax_L} {st : List ax_V} {res : Option ax_V} {h' : ax_H} {D : Nat} (hP : ax_P j i = ax_aald nx) (kk : Ev D j nx L (.inr (some (14 + 4 * r)) :: st) h res h') : Ev D j i L (.inl (nI r) :: .inr (some 9) :: st) h res h' := by
  obtain ⟨-, ⟨f, hf, hv⟩, -⟩ := A
  refine ev_aald hP hf ⟨by decide, by decide⟩ (in_nI hr (by decide)) ?_
  rw [nI_clamp (by omega), hv r hr]
  exact kk
theorem c_row (A : RA h) {r : Nat} (hr : r < 16) {j i nx : Nat} {L : ax_L} {st : List ax_V} {res : Option ax_V} {h' : ax_H} {D : Nat} (hP : ax_P j i = ax_aald nx) (kk : Ev D j nx L (.inr (some (27 + 2 * r)) :: st) h res h') : Ev D j i L (.inl (nI r) :: .inr (some 10) :: st) h res h' := by
  obtain ⟨-, -, ⟨f, hf, hv⟩⟩ := A
  refine ev_aald hP hf ⟨by decide, by decide⟩ (in_nI hr (by decide)) ?_
  rw [nI_clamp (by omega), hv r hr]
  exact kk
theorem isN_f {x : Int32} (h : ¬ isN x = true) : isN x = false := by simpa using h
theorem c_hasN {x : Int32} (a : rob h mc run mv) (hx : isN x = false) : mt (d + 1) 65 [.inr (some 1), .inl x] h (some (.inl 0)) h := by
  unfold rob at a
  (repeat (first | refine ax_st rfl ?_ | (apply ev_get rfl; assumption; rfl))); try dsimp only
  refine ev_callS rfl ⟨rfl, rfl, Nat.le_of_ble_eq_true rfl, Nat.le_of_ble_eq_true rfl⟩ (p_isRoleNumber x) ?_
  rw [hx]
  (repeat (first | refine ax_st rfl ?_ | (apply ev_get rfl; assumption; rfl))); try dsimp only
  exact ax_rt rfl
theorem c_has {r : Nat} (R : RC h tp mc P run pc rws mv) (hr : r < 4) : mt (d + 1) 65 [.inr (some 1), .inl (nI r)] h (some (.inl (bi (P r).isSome))) h := by
  obtain ⟨a, A, -, -, R, -⟩ := R
  obtain ⟨-, hp, -⟩ := R r hr
  unfold rob at a
  unfold pl at hp
  (repeat (first | refine ax_st rfl ?_ | (apply ev_get rfl; assumption; rfl))); try dsimp only
  refine ev_callS rfl ⟨rfl, rfl, Nat.le_of_ble_eq_true rfl, Nat.le_of_ble_eq_true rfl⟩ (p_isRoleNumber (nI r)) ?_
  rw [isN_iff.mpr ⟨r, hr, rfl⟩]
  (repeat (first | refine ax_st rfl ?_ | (apply ev_get rfl; assumption; rfl))); try dsimp only
  refine c_player A hr rfl ?_
  (repeat (first | refine ax_st rfl ?_ | (apply ev_get rfl; assumption; rfl))); try dsimp only
  cases hq : (P r).isSome with
  | true =>
    (repeat (first | refine ax_st rfl ?_ | (apply ev_get rfl; assumption; rfl))); try dsimp only
    exact ax_rt rfl
  | false =>
    (repeat (first | refine ax_st rfl ?_ | (apply ev_get rfl; assumption; rfl))); try dsimp only
    exact ax_rt rfl
theorem c_playN {x : Int32} (a : rob h mc run mv) (hx : run = false ∨ isN x = false) : mt (d + 1) 66 [.inr (some 1), .inl x] h (some (.inr none)) h := by
  unfold rob at a
  cases run with
  | false =>
    (repeat (first | refine ax_st rfl ?_ | (apply ev_get rfl; assumption; rfl))); try dsimp only
    exact ax_rt rfl
  | true =>
    have hx := hx.resolve_left (by decide)
    (repeat (first | refine ax_st rfl ?_ | (apply ev_get rfl; assumption; rfl))); try dsimp only
    refine ev_callS rfl ⟨rfl, rfl, Nat.le_of_ble_eq_true rfl, Nat.le_of_ble_eq_true rfl⟩ (p_isRoleNumber x) ?_
    rw [hx]
    (repeat (first | refine ax_st rfl ?_ | (apply ev_get rfl; assumption; rfl))); try dsimp only
    exact ax_rt rfl
theorem c_play {r : Nat} (a : rob h mc true mv) (A : RA h) (hr : r < 4) : mt (d + 1) 66 [.inr (some 1), .inl (nI r)] h (some (.inr (some (13 + 4 * r)))) h := by
  unfold rob at a
  (repeat (first | refine ax_st rfl ?_ | (apply ev_get rfl; assumption; rfl))); try dsimp only
  refine ev_callS rfl ⟨rfl, rfl, Nat.le_of_ble_eq_true rfl, Nat.le_of_ble_eq_true rfl⟩ (p_isRoleNumber (nI r)) ?_
  rw [isN_iff.mpr ⟨r, hr, rfl⟩]
  (repeat (first | refine ax_st rfl ?_ | (apply ev_get rfl; assumption; rfl))); try dsimp only
  refine c_player A hr rfl ?_
  (repeat (first | refine ax_st rfl ?_ | (apply ev_get rfl; assumption; rfl))); try dsimp only
  exact ax_rt rfl
theorem c_rowN {x y : Int32} (a : rob h mc run mv) (hx : run = false ∨ isN x = false ∨ isN y = false) : mt (d + 1) 67 [.inr (some 1), .inl x, .inl y] h (some (.inr none)) h := by
  unfold rob at a
  cases run with
  | false =>
    (repeat (first | refine ax_st rfl ?_ | (apply ev_get rfl; assumption; rfl))); try dsimp only
    exact ax_rt rfl
  | true =>
    have hx := hx.resolve_left (by decide)
    (repeat (first | refine ax_st rfl ?_ | (apply ev_get rfl; assumption; rfl))); try dsimp only
    refine ev_callS rfl ⟨rfl, rfl, Nat.le_of_ble_eq_true rfl, Nat.le_of_ble_eq_true rfl⟩ (p_isRoleNumber x) ?_
    cases hq : isN x with
    | false =>
      (repeat (first | refine ax_st rfl ?_ | (apply ev_get rfl; assumption; rfl))); try dsimp only
      exact ax_rt rfl
    | true =>
      have hx := hx.resolve_left (by rw [hq]; decide)
      (repeat (first | refine ax_st rfl ?_ | (apply ev_get rfl; assumption; rfl))); try dsimp only
      refine ev_callS rfl ⟨rfl, rfl, Nat.le_of_ble_eq_true rfl, Nat.le_of_ble_eq_true rfl⟩ (p_isRoleNumber y) ?_
      rw [hx]
      (repeat (first | refine ax_st rfl ?_ | (apply ev_get rfl; assumption; rfl))); try dsimp only
      exact ax_rt rfl
theorem c_rowY {r s : Nat} (a : rob h mc true mv) (A : RA h) (hr : r < 4) (hs : s < 4) : mt (d + 1) 67 [.inr (some 1), .inl (nI r), .inl (nI s)] h (some (.inr (some (27 + 2 * (4 * r + s))))) h := by
  unfold rob at a
  (repeat (first | refine ax_st rfl ?_ | (apply ev_get rfl; assumption; rfl))); try dsimp only
  refine ev_callS rfl ⟨rfl, rfl, Nat.le_of_ble_eq_true rfl, Nat.le_of_ble_eq_true rfl⟩ (p_isRoleNumber (nI r)) ?_
  rw [isN_iff.mpr ⟨r, hr, rfl⟩]
  (repeat (first | refine ax_st rfl ?_ | (apply ev_get rfl; assumption; rfl))); try dsimp only
  refine ev_callS rfl ⟨rfl, rfl, Nat.le_of_ble_eq_true rfl, Nat.le_of_ble_eq_true rfl⟩ (p_isRoleNumber (nI s)) ?_
  rw [isN_iff.mpr ⟨s, hs, rfl⟩]
  (repeat (first | refine ax_st rfl ?_ | (apply ev_get rfl; assumption; rfl))); try dsimp only
  rw [show nI r * 4 = nI (r * 4) from pk_mul r 4, nI_add, show r * 4 + s = 4 * r + s by omega]
  refine c_row A (by omega) rfl ?_
  (repeat (first | refine ax_st rfl ?_ | (apply ev_get rfl; assumption; rfl))); try dsimp only
  exact ax_rt rfl
/-- what the calls answer -/
def qLen (P : Nat → Option Tr) (x : Int32) : Int32 := if isN x = true then (match P x.toNatClampNeg with | some l => nI (rn l false).length | none => -1) else -1
def qChr (P : Nat → Option Tr) (x k : Int32) : Int32 := if isN x = true then (match P x.toNatClampNeg with | some l => (if k < 0 then -1 else if nI (rn l false).length ≤ k then -1 else nI (tg (rn l false) k)) | none => -1) else -1
theorem c_type {x : Nat} (hx : x < 65536) (R : RC h tp mc P run pc rws mv) : ∃ h', mt (d + 2) 47 [.inr (some 1), .inl (nI x)] h (some (.inl (bi (decide (32 ≤ x ∧ x ≤ 126 ∧ tp.length < 60))))) h' ∧ RC h' (if 32 ≤ x ∧ x ≤ 126 ∧ tp.length < 60 then tp ++ [x] else tp) mc P run pc rws mv ∧ fr h h' (fun q => 0 < q ∧ q < 59) := by
  obtain ⟨a, A, G, T, RRs, W⟩ := id R
  have ho := T.ob
  have hl := T.len
  have a0 := a
  unfold rob at a
  by_cases h1 : 32 ≤ x ∧ x ≤ 126
  · by_cases h2 : tp.length < 60
    · rw [if_pos ⟨h1.1, h1.2, h2⟩, decide_eq_true ⟨h1.1, h1.2, h2⟩]
      obtain ⟨h', e1, t1, f1⟩ := tx_append (d := d) T hx h2
      refine ⟨h', ?_, ⟨a0.fr f1 (by decide), ?_, ?_, t1, fun r hr => ?_, fun k hk => (W k hk).fr f1 (by omega) (by omega)⟩, f1.wk (fun q z => by omega)⟩
      · (repeat (first | refine ax_st rfl ?_ | (apply ev_get rfl; assumption; rfl))); try dsimp only
        refine ev_f (fun q => absurd ((nI_ltI (b := 32) (by omega) (by decide)).mp q) (by omega)) ?_
        (repeat (first | refine ax_st rfl ?_ | (apply ev_get rfl; assumption; rfl))); try dsimp only
        refine ev_f (fun q => absurd ((nI_ltI (a := 126) (by decide) (by omega)).mp q) (by omega)) ?_
        (repeat (first | refine ax_st rfl ?_ | (apply ev_get rfl; assumption; rfl))); try dsimp only
        refine ev_callV rfl ho ⟨rfl, rfl, Nat.le_of_ble_eq_true rfl, Nat.le_of_ble_eq_true rfl⟩ (e1) ?_
        (repeat (first | refine ax_st rfl ?_ | (apply ev_get rfl; assumption; rfl))); try dsimp only
        exact ax_rt rfl
      · obtain ⟨⟨f, q1, q2⟩, ⟨g, q3, q4⟩, ⟨k, q5, q6⟩⟩ := A
        exact ⟨⟨f, q1.fr f1 (by decide), q2⟩, ⟨g, q3.fr f1 (by decide), q4⟩, ⟨k, q5.fr f1 (by decide), q6⟩⟩
      · obtain ⟨⟨u, v, q1⟩, n, lo, f, g, q2, q3, q4⟩ := G
        exact ⟨⟨u, v, q1.fr f1 (by decide)⟩, n, lo, f, g, q2.fr f1 (by decide), q3.fr f1 (by decide), q4.fr f1 (by decide)⟩
      · obtain ⟨⟨b, q1, q2⟩, q3, q, q4⟩ := RRs r hr
        exact ⟨⟨b, q1.fr f1 (by omega) (by omega), q2⟩, q3.fr f1 (by omega), q, q4.fr f1 (by omega)⟩
    · rw [if_neg (fun q => h2 q.2.2), decide_eq_false (fun q => h2 q.2.2)]
      refine ⟨h, ?_, R, fr.rf⟩
      have e1 := tx_appendF (d := d) T (nI x) (by omega)
      (repeat (first | refine ax_st rfl ?_ | (apply ev_get rfl; assumption; rfl))); try dsimp only
      refine ev_f (fun q => absurd ((nI_ltI (b := 32) (by omega) (by decide)).mp q) (by omega)) ?_
      (repeat (first | refine ax_st rfl ?_ | (apply ev_get rfl; assumption; rfl))); try dsimp only
      refine ev_f (fun q => absurd ((nI_ltI (a := 126) (by decide) (by omega)).mp q) (by omega)) ?_
      (repeat (first | refine ax_st rfl ?_ | (apply ev_get rfl; assumption; rfl))); try dsimp only
      refine ev_callV rfl ho ⟨rfl, rfl, Nat.le_of_ble_eq_true rfl, Nat.le_of_ble_eq_true rfl⟩ (e1) ?_
      (repeat (first | refine ax_st rfl ?_ | (apply ev_get rfl; assumption; rfl))); try dsimp only
      exact ax_rt rfl
  · rw [if_neg (fun q => h1 ⟨q.1, q.2.1⟩), decide_eq_false (fun q => h1 ⟨q.1, q.2.1⟩)]
    refine ⟨h, ?_, R, fr.rf⟩
    (repeat (first | refine ax_st rfl ?_ | (apply ev_get rfl; assumption; rfl))); try dsimp only
    refine ev_if (fun c1 => ?_) (fun c1 => ?_)
    · (repeat (first | refine ax_st rfl ?_ | (apply ev_get rfl; assumption; rfl))); try dsimp only
      exact ax_rt rfl
    · have c1 : ¬ x < 32 := fun q => c1 ((nI_ltI (b := 32) (by omega) (by decide)).mpr q)
      (repeat (first | refine ax_st rfl ?_ | (apply ev_get rfl; assumption; rfl))); try dsimp only
      refine ev_t ((nI_ltI (a := 126) (by decide) (by omega)).mpr (by omega)) ?_
      (repeat (first | refine ax_st rfl ?_ | (apply ev_get rfl; assumption; rfl))); try dsimp only
      exact ax_rt rfl
theorem c_messages (R : RC h tp mc P run pc rws mv) : mt d 49 [.inr (some 1)] h (some (.inl mc)) h := by
  obtain ⟨a, -⟩ := R
  unfold rob at a
  (repeat (first | refine ax_st rfl ?_ | (apply ev_get rfl; assumption; rfl))); try dsimp only
  exact ax_rt rfl
theorem c_moves (R : RC h tp mc P run pc rws mv) : mt d 60 [.inr (some 1)] h (some (.inl (if run = true then mv else -1))) h := by
  obtain ⟨a, -⟩ := R
  unfold rob at a
  cases run with
  | true =>
    (repeat (first | refine ax_st rfl ?_ | (apply ev_get rfl; assumption; rfl))); try dsimp only
    exact ax_rt rfl
  | false =>
    (repeat (first | refine ax_st rfl ?_ | (apply ev_get rfl; assumption; rfl))); try dsimp only
    exact ax_rt rfl
theorem c_length {x : Int32} (R : RC h tp mc P run pc rws mv) : mt (d + 2) 50 [.inr (some 1), .inl x] h (some (.inl (qLen P x))) h := by
  obtain ⟨a, A, G, T, RRs, W⟩ := id R
  have a0 := a
  unfold rob at a
  unfold qLen
  by_cases hN : isN x = true
  · obtain ⟨r, hr, rfl⟩ := isN_iff.mp hN
    rw [if_pos hN, nI_clamp (by omega)]
    obtain ⟨⟨b, q1, q2⟩, q3, -⟩ := RRs r hr
    unfold pl at q3
    have hob := q1.ob
    (repeat (first | refine ax_st rfl ?_ | (apply ev_get rfl; assumption; rfl))); try dsimp only
    refine ev_callV rfl a ⟨rfl, rfl, Nat.le_of_ble_eq_true rfl, Nat.le_of_ble_eq_true rfl⟩ (c_has R hr) ?_
    cases hP : P r with
    | none =>
      (repeat (first | refine ax_st rfl ?_ | (apply ev_get rfl; assumption; rfl))); try dsimp only
      exact ax_rt rfl
    | some l =>
      have := q2 l hP
      subst this
      rw [hP] at q3
      (repeat (first | refine ax_st rfl ?_ | (apply ev_get rfl; assumption; rfl))); try dsimp only
      refine c_player A hr rfl ?_
      (repeat (first | refine ax_st rfl ?_ | (apply ev_get rfl; assumption; rfl))); try dsimp only
      refine ev_callV rfl hob ⟨rfl, rfl, Nat.le_of_ble_eq_true rfl, Nat.le_of_ble_eq_true rfl⟩ (tx_size q1) ?_
      (repeat (first | refine ax_st rfl ?_ | (apply ev_get rfl; assumption; rfl))); try dsimp only
      exact ax_rt rfl
  · rw [if_neg hN]
    (repeat (first | refine ax_st rfl ?_ | (apply ev_get rfl; assumption; rfl))); try dsimp only
    refine ev_callV rfl a ⟨rfl, rfl, Nat.le_of_ble_eq_true rfl, Nat.le_of_ble_eq_true rfl⟩ (c_hasN a0 (isN_f hN)) ?_
    (repeat (first | refine ax_st rfl ?_ | (apply ev_get rfl; assumption; rfl))); try dsimp only
    exact ax_rt rfl
theorem c_charAt {x k : Int32} (R : RC h tp mc P run pc rws mv) : mt (d + 2) 51 [.inr (some 1), .inl x, .inl k] h (some (.inl (qChr P x k))) h := by
  obtain ⟨a, A, G, T, RRs, W⟩ := id R
  have a0 := a
  unfold rob at a
  unfold qChr
  by_cases hN : isN x = true
  · obtain ⟨r, hr, rfl⟩ := isN_iff.mp hN
    rw [if_pos hN, nI_clamp (by omega)]
    obtain ⟨⟨b, q1, q2⟩, q3, -⟩ := RRs r hr
    unfold pl at q3
    have hob := q1.ob
    (repeat (first | refine ax_st rfl ?_ | (apply ev_get rfl; assumption; rfl))); try dsimp only
    refine ev_callV rfl a ⟨rfl, rfl, Nat.le_of_ble_eq_true rfl, Nat.le_of_ble_eq_true rfl⟩ (c_has R hr) ?_
    cases hP : P r with
    | none =>
      (repeat (first | refine ax_st rfl ?_ | (apply ev_get rfl; assumption; rfl))); try dsimp only
      exact ax_rt rfl
    | some l =>
      have := q2 l hP
      subst this
      rw [hP] at q3
      (repeat (first | refine ax_st rfl ?_ | (apply ev_get rfl; assumption; rfl))); try dsimp only
      refine ev_if (fun c1 => ?_) (fun c1 => ?_)
      · rw [if_pos c1]
        (repeat (first | refine ax_st rfl ?_ | (apply ev_get rfl; assumption; rfl))); try dsimp only
        exact ax_rt rfl
      · rw [if_neg c1]
        (repeat (first | refine ax_st rfl ?_ | (apply ev_get rfl; assumption; rfl))); try dsimp only
        refine c_player A hr rfl ?_
        (repeat (first | refine ax_st rfl ?_ | (apply ev_get rfl; assumption; rfl))); try dsimp only
        refine ev_callV rfl hob ⟨rfl, rfl, Nat.le_of_ble_eq_true rfl, Nat.le_of_ble_eq_true rfl⟩ (tx_size q1) ?_
        (repeat (first | refine ax_st rfl ?_ | (apply ev_get rfl; assumption; rfl))); try dsimp only
        refine ev_if (fun c2 => ?_) (fun c2 => ?_)
        · rw [if_neg (fun q => absurd c2 (Int32.not_lt.mpr q))]
          (repeat (first | refine ax_st rfl ?_ | (apply ev_get rfl; assumption; rfl))); try dsimp only
          refine c_player A hr rfl ?_
          (repeat (first | refine ax_st rfl ?_ | (apply ev_get rfl; assumption; rfl))); try dsimp only
          refine ev_callV rfl hob ⟨rfl, rfl, Nat.le_of_ble_eq_true rfl, Nat.le_of_ble_eq_true rfl⟩ (tx_get q1 k) ?_
          exact ax_rt rfl
        · rw [if_pos (Int32.not_lt.mp c2)]
          (repeat (first | refine ax_st rfl ?_ | (apply ev_get rfl; assumption; rfl))); try dsimp only
          exact ax_rt rfl
  · rw [if_neg hN]
    (repeat (first | refine ax_st rfl ?_ | (apply ev_get rfl; assumption; rfl))); try dsimp only
    refine ev_callV rfl a ⟨rfl, rfl, Nat.le_of_ble_eq_true rfl, Nat.le_of_ble_eq_true rfl⟩ (c_hasN a0 (isN_f hN)) ?_
    (repeat (first | refine ax_st rfl ?_ | (apply ev_get rfl; assumption; rfl))); try dsimp only
    exact ax_rt rfl
end CLS
