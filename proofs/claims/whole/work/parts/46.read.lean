/-! The reference: reading the text into pieces. -/
def pu (F : Nat → Nat → Int32) (n : Nat) (k a b i l : Int32) : Nat → Nat → Int32 := va_up (va_up (va_up (va_up (va_up F 61 (upd (F 61) n k)) 62 (upd (F 62) n a)) 63 (upd (F 63) n b)) 64 (upd (F 64) n i)) 65 (upd (F 65) n l)
theorem pu_ne {F : Nat → Nat → Int32} {n : Nat} {k a b i l : Int32} {q : Nat} (h : q < 61 ∨ 65 < q) : pu F n k a b i l q = F q := by
  unfold pu
  rw [va_up_ne _ _ (by omega), va_up_ne _ _ (by omega), va_up_ne _ _ (by omega), va_up_ne _ _ (by omega), va_up_ne _ _ (by omega)]
theorem pu_61 {F : Nat → Nat → Int32} {n : Nat} {k a b i l : Int32} : pu F n k a b i l 61 = upd (F 61) n k := by
  unfold pu
  rw [va_up_ne _ _ (by decide), va_up_ne _ _ (by decide), va_up_ne _ _ (by decide), va_up_ne _ _ (by decide), va_up_self]
theorem pu_62 {F : Nat → Nat → Int32} {n : Nat} {k a b i l : Int32} : pu F n k a b i l 62 = upd (F 62) n a := by
  unfold pu
  rw [va_up_ne _ _ (by decide), va_up_ne _ _ (by decide), va_up_ne _ _ (by decide), va_up_self]
theorem pu_63 {F : Nat → Nat → Int32} {n : Nat} {k a b i l : Int32} : pu F n k a b i l 63 = upd (F 63) n b := by
  unfold pu
  rw [va_up_ne _ _ (by decide), va_up_ne _ _ (by decide), va_up_self]
theorem pu_64 {F : Nat → Nat → Int32} {n : Nat} {k a b i l : Int32} : pu F n k a b i l 64 = upd (F 64) n i := by
  unfold pu
  rw [va_up_ne _ _ (by decide), va_up_self]
theorem pu_65 {F : Nat → Nat → Int32} {n : Nat} {k a b i l : Int32} : pu F n k a b i l 65 = upd (F 65) n l := by
  unfold pu
  rw [va_up_self]
theorem upd_s {f : Nat → Int32} {n : Nat} {x : Int32} : upd f n x n = x := by
  unfold upd
  rw [if_pos rfl]
theorem upd_n {f : Nat → Int32} {n k : Nat} {x : Int32} (h : k ≠ n) : upd f n x k = f k := by
  unfold upd
  rw [if_neg h]
/-- below n nothing changes, and nothing but the pieces -/
def kp (F F' : Nat → Nat → Int32) (n : Nat) : Prop := (∀ q, q < 61 ∨ 65 < q → F' q = F q) ∧ ∀ q i, i < n → F' q i = F q i
theorem kp.rf {F : Nat → Nat → Int32} {n : Nat} : kp F F n := ⟨fun _ _ => rfl, fun _ _ _ => rfl⟩
theorem kp.tr {F F' F'' : Nat → Nat → Int32} {n n' : Nat} (a : kp F F' n) (b : kp F' F'' n') (h : n ≤ n') : kp F F'' n := ⟨fun q hq => (b.1 q hq).trans (a.1 q hq), fun q i hi => (b.2 q i (by omega)).trans (a.2 q i hi)⟩
theorem kp_pu {F : Nat → Nat → Int32} {n : Nat} {k a b i l : Int32} : kp F (pu F n k a b i l) n := by
  refine ⟨fun q hq => pu_ne hq, fun q j hj => ?_⟩
  by_cases hq : q < 61 ∨ 65 < q
  · rw [pu_ne hq]
  · have : q = 61 ∨ q = 62 ∨ q = 63 ∨ q = 64 ∨ q = 65 := by omega
    rcases this with rfl | rfl | rfl | rfl | rfl
    · rw [pu_61, upd_n (by omega)]
    · rw [pu_62, upd_n (by omega)]
    · rw [pu_63, upd_n (by omega)]
    · rw [pu_64, upd_n (by omega)]
    · rw [pu_65, upd_n (by omega)]
/-- the pieces around a place -/
def ch (F : Nat → Nat → Int32) (n : Nat) : List (Nat × Bool) → Int32 → Prop
  | [], x => x = -1
  | (k, b) :: ks, x => x = nI k ∧ k < n ∧ F 61 k = (if b = true then 3 else 2) ∧ ch F n ks (F 64 k)
def dl : List (Nat × Bool) → List (Nat × Bool)
  | [] => []
  | (k, b) :: ks => if b = true then (k, b) :: ks else dl ks
def hd : List (Nat × Bool) → Int32
  | [] => -1
  | (k, _) :: _ => nI k
def cm : List (Nat × Bool) → Nat
  | [] => 0
  | (_, b) :: ks => (if b = true then 1 else 0) + cm ks
theorem ch_kp {F F' : Nat → Nat → Int32} {n n' : Nat} (h : kp F F' n) (hn : n ≤ n') : ∀ ks x, ch F n ks x → ch F' n' ks x
  | [], x, c => c
  | (k, b) :: ks, x, ⟨c1, c2, c3, c4⟩ => ⟨c1, by omega, by rw [h.2 61 k c2]; exact c3, by rw [h.2 64 k c2]; exact ch_kp h hn ks _ c4⟩
theorem ch_hd {F : Nat → Nat → Int32} {n : Nat} : ∀ {ks x}, ch F n ks x → x = hd ks
  | [], _, c => c
  | (_, _) :: _, _, c => c.1
theorem ch_dl {F : Nat → Nat → Int32} {n : Nat} : ∀ ks x, ch F n ks x → ch F n (dl ks) (hd (dl ks))
  | [], x, c => rfl
  | (k, b) :: ks, x, c => by
    cases b with
    | true => exact ⟨rfl, c.2⟩
    | false => exact ch_dl ks _ c.2.2.2
theorem cm_dl : ∀ ks, cm (dl ks) = cm ks
  | [] => rfl
  | (k, b) :: ks => by
    cases b with
    | true => rfl
    | false =>
      show cm (dl ks) = 0 + cm ks
      rw [cm_dl ks, Nat.zero_add]
/-- behind dl: nothing, or a message -/
theorem dl_head : ∀ ks, dl ks = [] ∨ ∃ k ks', dl ks = (k, true) :: ks'
  | [] => Or.inl rfl
  | (k, b) :: ks => by
    cases b with
    | true => exact Or.inr ⟨k, ks, rfl⟩
    | false => exact dl_head ks
section RD
variable {d : Nat} {h : ax_H} {n0 pcs ms mv : Int32} {th ru : Bool} {F : Nat → Nat → Int32} {tp : List Nat}
theorem m_piece {n : Nat} (hn : n < 60) (k a b i l : Int32) (m : mo h n0 (nI n) th ms ru mv) (A : MA h F) : ∃ h', mt d 80 [.inr (some 59), .inl k, .inl a, .inl b, .inl i, .inl l] h (some (.inl (nI n))) h' ∧ mo h' n0 (nI (n + 1)) th ms ru mv ∧ MA h' (pu F n k a b i l) ∧ fr h h' (fun q => 59 ≤ q) := by
  have A1 := A.s61 (upd (F 61) n k)
  have m1 := m.s 61 (by decide) (.inl (0, 60, .inl (upd (F 61) n k)))
  have A2 := A1.s62 (upd (F 62) n a)
  have m2 := m1.s 62 (by decide) (.inl (0, 60, .inl (upd (F 62) n a)))
  have A3 := A2.s63 (upd (F 63) n b)
  have m3 := m2.s 63 (by decide) (.inl (0, 60, .inl (upd (F 63) n b)))
  have A4 := A3.s64 (upd (F 64) n i)
  have m4 := m3.s 64 (by decide) (.inl (0, 60, .inl (upd (F 64) n i)))
  have A5 := A4.s65 (upd (F 65) n l)
  have m5 := m4.s 65 (by decide) (.inl (0, 60, .inl (upd (F 65) n l)))
  have m6 := m5.o n0 (nI (n + 1)) th ms ru mv
  have A6 := A5.o (moC n0 (nI (n + 1)) th ms ru mv)
  refine ⟨_, ?_, m6, A6, fr.tr (A := fun q => 59 ≤ q) (fr.tr (A := fun q => 59 ≤ q) (fr.tr (A := fun q => 59 ≤ q) (fr.tr (A := fun q => 59 ≤ q) (fr.tr (A := fun q => 59 ≤ q) (fr.st (by decide)) (fr.st (by decide))) (fr.st (by decide))) (fr.st (by decide))) (fr.st (by decide))) (fr.st (by decide))⟩
  have h61 := A.a61
  have h62 := A1.a62
  have h63 := A2.a63
  have h64 := A3.a64
  have h65 := A4.a65
  rw [va_up_ne _ _ (by decide)] at h62
  rw [va_up_ne _ _ (by decide), va_up_ne _ _ (by decide)] at h63
  rw [va_up_ne _ _ (by decide), va_up_ne _ _ (by decide), va_up_ne _ _ (by decide)] at h64
  rw [va_up_ne _ _ (by decide), va_up_ne _ _ (by decide), va_up_ne _ _ (by decide), va_up_ne _ _ (by decide)] at h65
  unfold mo at m m1 m2 m3 m4 m5 m6
  (repeat (first | refine ax_st rfl ?_ | (apply ev_get rfl; assumption; rfl))); try dsimp only
  refine ev_ast rfl h61 ?_ ?_; exact in_nI (by omega) (by decide)
  rw [if_neg (by decide), nI_clamp (by omega)]
  (repeat (first | refine ax_st rfl ?_ | (apply ev_get rfl; assumption; rfl))); try dsimp only
  refine ev_ast rfl h62 ?_ ?_; exact in_nI (by omega) (by decide)
  rw [if_neg (by decide), nI_clamp (by omega)]
  (repeat (first | refine ax_st rfl ?_ | (apply ev_get rfl; assumption; rfl))); try dsimp only
  refine ev_ast rfl h63 ?_ ?_; exact in_nI (by omega) (by decide)
  rw [if_neg (by decide), nI_clamp (by omega)]
  (repeat (first | refine ax_st rfl ?_ | (apply ev_get rfl; assumption; rfl))); try dsimp only
  refine ev_ast rfl h64 ?_ ?_; exact in_nI (by omega) (by decide)
  rw [if_neg (by decide), nI_clamp (by omega)]
  (repeat (first | refine ax_st rfl ?_ | (apply ev_get rfl; assumption; rfl))); try dsimp only
  refine ev_ast rfl h65 ?_ ?_; exact in_nI (by omega) (by decide)
  rw [if_neg (by decide), nI_clamp (by omega)]
  (repeat (first | refine ax_st rfl ?_ | (apply ev_get rfl; assumption; rfl))); try dsimp only
  rw [nI_1 n]
  refine ev_put rfl m5 ?_ ?_ ?_; exact Nat.le_of_ble_eq_true rfl; rfl
  unfold moC at m6
  (repeat (first | refine ax_st rfl ?_ | (apply ev_get rfl; assumption; rfl))); try dsimp only
  rw [nI_pred]
  exact ax_rt rfl
theorem me_loop {n : Nat} (hn : n ≤ 60) (m : mo h n0 pcs th ms ru mv) (A : MA h F) {x0 : Int32} : ∀ ks x, ch F n ks x → Ev d 81 2 [some (.inr (some 59)), some (.inl x0), some (.inl x)] [] h (some (.inl (hd (dl ks)))) h := by
  unfold mo at m
  have h61 := A.a61
  have h64 := A.a64
  intro ks
  induction ks with
  | nil =>
    intro x c
    rw [show x = -1 from c]
    (repeat (first | refine ax_st rfl ?_ | (apply ev_get rfl; assumption; rfl))); try dsimp only
    exact ax_rt rfl
  | cons kb ks ih =>
    obtain ⟨k, b⟩ := kb
    intro x c
    obtain ⟨rfl, c2, c3, c4⟩ := c
    have e1 := ih _ c4
    (repeat (first | refine ax_st rfl ?_ | (apply ev_get rfl; assumption; rfl))); try dsimp only
    refine ev_f (nI_pos (by omega)) ?_
    (repeat (first | refine ax_st rfl ?_ | (apply ev_get rfl; assumption; rfl))); try dsimp only
    refine ev_ald rfl h61 ?_ ?_; exact in_nI (by omega) (by decide)
    rw [nI_clamp (by omega), c3]
    cases b with
    | true =>
      (repeat (first | refine ax_st rfl ?_ | (apply ev_get rfl; assumption; rfl))); try dsimp only
      exact ax_rt rfl
    | false =>
      (repeat (first | refine ax_st rfl ?_ | (apply ev_get rfl; assumption; rfl))); try dsimp only
      refine ev_ald rfl h64 ?_ ?_; exact in_nI (by omega) (by decide)
      rw [nI_clamp (by omega)]
      repeat (first | (exact e1) | refine ax_st rfl ?_ | (apply ev_get rfl; assumption; rfl))
theorem m_ended {n : Nat} (hn : n ≤ 60) (m : mo h n0 pcs th ms ru mv) (A : MA h F) {ks : List (Nat × Bool)} {x : Int32} (c : ch F n ks x) : mt d 81 [.inr (some 59), .inl x] h (some (.inl (hd (dl ks)))) h := by
  have e1 := me_loop (d := d) (x0 := x) hn m A ks x c
  repeat (first | (exact e1) | refine ax_st rfl ?_ | (apply ev_get rfl; assumption; rfl))
def aSt (c : Nat) : Int32 := if c = 101 ∨ isV c = true then 6 else if c = 109 then 1 else if isR c = true then 3 else -1
theorem m_afterStart {c : Nat} (hc : c < 65536) : mt (d + 1) 82 [.inl (nI c)] h (some (.inl (aSt c))) h := by
  unfold aSt
  (repeat (first | refine ax_st rfl ?_ | (apply ev_get rfl; assumption; rfl))); try dsimp only
  by_cases h1 : c = 101
  · rw [if_pos (Or.inl h1)]
    refine ev_t (by rw [h1]; rfl) ?_
    (repeat (first | refine ax_st rfl ?_ | (apply ev_get rfl; assumption; rfl))); try dsimp only
    exact ax_rt rfl
  · refine ev_f (fun z => h1 ((nI_eq (b := 101) (by omega) (by decide)).mp z)) ?_
    (repeat (first | refine ax_st rfl ?_ | (apply ev_get rfl; assumption; rfl))); try dsimp only
    refine ev_callS rfl ⟨rfl, rfl, Nat.le_of_ble_eq_true rfl, Nat.le_of_ble_eq_true rfl⟩ (m_isVariable hc) ?_
    cases h2 : isV c with
    | true =>
      rw [if_pos (Or.inr rfl)]
      (repeat (first | refine ax_st rfl ?_ | (apply ev_get rfl; assumption; rfl))); try dsimp only
      exact ax_rt rfl
    | false =>
      rw [if_neg (fun z => z.elim h1 (by decide))]
      (repeat (first | refine ax_st rfl ?_ | (apply ev_get rfl; assumption; rfl))); try dsimp only
      by_cases h3 : c = 109
      · rw [if_pos h3]
        refine ev_f (fun z => z (by rw [h3]; rfl)) ?_
        (repeat (first | refine ax_st rfl ?_ | (apply ev_get rfl; assumption; rfl))); try dsimp only
        exact ax_rt rfl
      · rw [if_neg h3]
        refine ev_t (fun z => h3 ((nI_eq (b := 109) (by omega) (by decide)).mp z)) ?_
        (repeat (first | refine ax_st rfl ?_ | (apply ev_get rfl; assumption; rfl))); try dsimp only
        refine ev_callS rfl ⟨rfl, rfl, Nat.le_of_ble_eq_true rfl, Nat.le_of_ble_eq_true rfl⟩ (m_isRole hc) ?_
        cases h4 : isR c with
        | true =>
          rw [if_pos rfl]
          (repeat (first | refine ax_st rfl ?_ | (apply ev_get rfl; assumption; rfl))); try dsimp only
          exact ax_rt rfl
        | false =>
          rw [if_neg (by decide)]
          (repeat (first | refine ax_st rfl ?_ | (apply ev_get rfl; assumption; rfl))); try dsimp only
          exact ax_rt rfl
end RD
