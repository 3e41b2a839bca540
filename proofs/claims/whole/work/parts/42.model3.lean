/-! The reference: settling, sending, receiving. -/
def lof (P : List Nat) (v : Nat) : Nat → Int32 → Bool → Nat
  | 0, _, _ => 0
  | k + 1, ins, bes => if P.getD k 0 = 125 then lof P v k (ins + 1) bes else if P.getD k 0 = 123 ∧ ¬ ins ≤ 0 then lof P v k (ins + (-1)) bes else if P.getD k 0 = 123 then lof P v k ins false else if P.getD k 0 = 44 ∧ ins = 0 then lof P v k ins true else if P.getD k 0 = 109 ∧ ins = 0 ∧ bes = false ∧ P.getD (k + 1) 0 = v then k else lof P v k ins bes
def stl (P : List Nat) : Nat → Nat → Nat
  | 0, p => p
  | n + 1, p => stl P n (if P.getD p 0 = 109 then p + 3 else if isV (P.getD p 0) = true then lof P (P.getD p 0) p 0 false else p)
theorem lof_le (P : List Nat) (v : Nat) : ∀ k ins bes, lof P v k ins bes ≤ k
  | 0, _, _ => Nat.le_refl _
  | k + 1, ins, bes => by
    unfold lof
    have h1 := lof_le P v k (ins + 1) bes
    have h2 := lof_le P v k (ins + (-1)) bes
    have h3 := lof_le P v k ins false
    have h4 := lof_le P v k ins true
    have h5 := lof_le P v k ins bes
    repeat' split
    all_goals omega
theorem MT.c {F F' : Nat → Nat → Int32} {tp : List Nat} (h : F' 60 = F 60) (m : MT F tp) : MT F' tp := by
  unfold MT at *
  rw [h]
  exact m
theorem MP1.c {F F' : Nat → Nat → Int32} {r : Nat} {Q : Option Tr} (h : F' 68 = F 68) (h2 : F' 69 = F 69) (m : MP1 F r Q) : MP1 F' r Q := by
  unfold MP1 at *
  rw [h, h2]
  exact m
theorem MW1.c {F F' : Nat → Nat → Int32} {k : Nat} {row : List Int32} (h : ∀ i, i < row.length → F' 71 (3 * k + i) = F 71 (3 * k + i)) (h2 : F' 72 k = F 72 k) (m : MW1 F k row) : MW1 F' k row := by
  obtain ⟨a, b, c⟩ := m
  exact ⟨h2.trans a, b, fun i hi => (h i hi).trans (c i hi)⟩
theorem mS.c {F F' : Nat → Nat → Int32} {r : Nat} {T : List Nat} (h : F' 68 = F 68) (h2 : F' 69 = F 69) (m : mS F r T) : mS F' r T := by
  unfold mS at *
  rw [h, h2]
  exact m
section MD3
variable {d : Nat} {h : ax_H} {n0 pcs ms mv : Int32} {th ru : Bool} {F : Nat → Nat → Int32}
theorem ml_loop {r v : Nat} {T : List Nat} {p : Int32} (m : mo h n0 pcs th ms ru mv) (A : MA h F) (S : mS F r T) (hr : r < 4) (hv : v < 65536) : ∀ (k : Nat) (ins : Int32) (bes : Bool) (w : Option ax_V), k < 2 ^ 29 →
    Ev (d + 1) 100 8 [some (.inr (some 59)), some (.inl (nI r)), some (.inl p), some (.inl (nI v)), some (.inl ins), some (.inl (bi bes)), some (.inl (nI k - 1)), w] [] h (some (.inl (nI (lof T v k ins bes)))) h := by
  have m0 := m
  unfold mo at m
  have s3 := S.2.2.1
  intro k
  induction k with
  | zero =>
    intro ins bes w hk
    (repeat (first | refine ax_st rfl ?_ | (apply ev_get rfl; assumption; rfl))); try dsimp only
    exact ax_rt rfl
  | succ k ih =>
    intro ins bes w hk
    have hc1 := lt_of_all s3 k
    have hc2 := lt_of_all s3 (k + 1)
    have e1 := fun i' b' => ih i' b' (some (.inl (nI (T.getD k 0)))) (by omega)
    simp only [Int32.sub_eq_add_neg] at e1
    rw [nI_pred]
    (repeat (first | refine ax_st rfl ?_ | (apply ev_get rfl; assumption; rfl))); try dsimp only
    refine ev_f (nI_pos (by omega)) ?_
    (repeat (first | refine ax_st rfl ?_ | (apply ev_get rfl; assumption; rfl))); try dsimp only
    refine ev_callV rfl m ⟨rfl, rfl, Nat.le_of_ble_eq_true rfl, Nat.le_of_ble_eq_true rfl⟩ (m_sign m0 A S hr (by omega)) ?_
    (repeat (first | refine ax_st rfl ?_ | (apply ev_get rfl; assumption; rfl))); try dsimp only
    have n125 : ¬ T.getD k 0 = 125 → ¬ nI (T.getD k 0) = 125 := fun u z => u ((nI_eq (b := 125) (by omega) (by decide)).mp z)
    have n123 : ¬ T.getD k 0 = 123 → ¬ nI (T.getD k 0) = 123 := fun u z => u ((nI_eq (b := 123) (by omega) (by decide)).mp z)
    have n44 : ¬ T.getD k 0 = 44 → ¬ nI (T.getD k 0) = 44 := fun u z => u ((nI_eq (b := 44) (by omega) (by decide)).mp z)
    have n109 : ¬ T.getD k 0 = 109 → ¬ nI (T.getD k 0) = 109 := fun u z => u ((nI_eq (b := 109) (by omega) (by decide)).mp z)
    rw [lof]
    by_cases h1 : T.getD k 0 = 125
    · rw [if_pos h1]
      have e2 := e1 (ins + 1) bes
      refine ev_f (fun z => z (by rw [h1]; rfl)) ?_
      repeat (first | (exact e2) | refine ax_st rfl ?_ | (apply ev_get rfl; assumption; rfl))
    · rw [if_neg h1]
      refine ev_t (n125 h1) ?_
      (repeat (first | refine ax_st rfl ?_ | (apply ev_get rfl; assumption; rfl))); try dsimp only
      by_cases h2 : T.getD k 0 = 123
      · have hs : nI (T.getD k 0) = 123 := by rw [h2]; rfl
        refine ev_f (fun z => z hs) ?_
        (repeat (first | refine ax_st rfl ?_ | (apply ev_get rfl; assumption; rfl))); try dsimp only
        refine ev_if (fun c1 => ?_) (fun c1 => ?_)
        · rw [if_neg (fun z => z.2 c1), if_pos h2]
          have e2 := e1 ins false
          (repeat (first | refine ax_st rfl ?_ | (apply ev_get rfl; assumption; rfl))); try dsimp only
          refine ev_f (fun z => z hs) ?_
          repeat (first | (exact e2) | refine ax_st rfl ?_ | (apply ev_get rfl; assumption; rfl))
        · rw [if_pos ⟨h2, c1⟩]
          have e2 := e1 (ins + (-1)) bes
          repeat (first | (exact e2) | refine ax_st rfl ?_ | (apply ev_get rfl; assumption; rfl))
      · rw [if_neg (fun z => h2 z.1), if_neg h2]
        refine ev_t (n123 h2) ?_
        (repeat (first | refine ax_st rfl ?_ | (apply ev_get rfl; assumption; rfl))); try dsimp only
        refine ev_t (n123 h2) ?_
        (repeat (first | refine ax_st rfl ?_ | (apply ev_get rfl; assumption; rfl))); try dsimp only
        have tail : ¬ (T.getD k 0 = 44 ∧ ins = 0) → Ev (d + 1) 100 41 [some (.inr (some 59)), some (.inl (nI r)), some (.inl p), some (.inl (nI v)), some (.inl ins), some (.inl (bi bes)), some (.inl (nI k)), some (.inl (nI (T.getD k 0)))] [] h (some (.inl (nI (if T.getD k 0 = 44 ∧ ins = 0 then lof T v k ins true else if T.getD k 0 = 109 ∧ ins = 0 ∧ bes = false ∧ T.getD (k + 1) 0 = v then k else lof T v k ins bes)))) h := by
          intro hn
          rw [if_neg hn]
          have e2 := e1 ins bes
          (repeat (first | refine ax_st rfl ?_ | (apply ev_get rfl; assumption; rfl))); try dsimp only
          by_cases h4 : T.getD k 0 = 109
          · refine ev_f (fun z => z (by rw [h4]; rfl)) ?_
            (repeat (first | refine ax_st rfl ?_ | (apply ev_get rfl; assumption; rfl))); try dsimp only
            refine ev_if (fun c1 => ?_) (fun c1 => ?_)
            · rw [if_neg (fun z => c1 z.2.1)]
              repeat (first | (exact e2) | refine ax_st rfl ?_ | (apply ev_get rfl; assumption; rfl))
            · have c1 := Decidable.not_not.mp c1
              (repeat (first | refine ax_st rfl ?_ | (apply ev_get rfl; assumption; rfl))); try dsimp only
              cases bes with
              | true =>
                rw [if_neg (fun z => absurd z.2.2.1 (by decide))]
                refine ev_t (by decide) ?_
                repeat (first | (exact e2) | refine ax_st rfl ?_ | (apply ev_get rfl; assumption; rfl))
              | false =>
                refine ev_f (by decide) ?_
                (repeat (first | refine ax_st rfl ?_ | (apply ev_get rfl; assumption; rfl))); try dsimp only
                rw [nI_1 k]
                refine ev_callV rfl m ⟨rfl, rfl, Nat.le_of_ble_eq_true rfl, Nat.le_of_ble_eq_true rfl⟩ (m_sign m0 A S hr (by omega)) ?_
                (repeat (first | refine ax_st rfl ?_ | (apply ev_get rfl; assumption; rfl))); try dsimp only
                refine ev_if (fun c2 => ?_) (fun c2 => ?_)
                · rw [if_neg (fun z => c2 (by rw [z.2.2.2]))]
                  repeat (first | (exact e2) | refine ax_st rfl ?_ | (apply ev_get rfl; assumption; rfl))
                · rw [if_pos ⟨h4, c1, rfl, (nI_eq (by omega) (by omega)).mp (Decidable.not_not.mp c2)⟩]
                  (repeat (first | refine ax_st rfl ?_ | (apply ev_get rfl; assumption; rfl))); try dsimp only
                  exact ax_rt rfl
          · rw [if_neg (fun z => h4 z.1)]
            refine ev_t (n109 h4) ?_
            repeat (first | (exact e2) | refine ax_st rfl ?_ | (apply ev_get rfl; assumption; rfl))
        by_cases h3 : T.getD k 0 = 44
        · refine ev_f (fun z => z (by rw [h3]; rfl)) ?_
          (repeat (first | refine ax_st rfl ?_ | (apply ev_get rfl; assumption; rfl))); try dsimp only
          refine ev_if (fun c1 => ?_) (fun c1 => ?_)
          · exact tail (fun z => c1 z.2)
          · rw [if_pos ⟨h3, Decidable.not_not.mp c1⟩]
            have e2 := e1 ins true
            repeat (first | (exact e2) | refine ax_st rfl ?_ | (apply ev_get rfl; assumption; rfl))
        · refine ev_t (n44 h3) ?_
          exact tail (fun z => h3 z.1)
theorem m_loopOf {r v p : Nat} {T : List Nat} (m : mo h n0 pcs th ms ru mv) (A : MA h F) (S : mS F r T) (hr : r < 4) (hv : v < 65536) (hp : p < 2 ^ 29) : mt (d + 1) 100 [.inr (some 59), .inl (nI r), .inl (nI p), .inl (nI v)] h (some (.inl (nI (lof T v p 0 false)))) h := by
  have e1 := ml_loop (d := d) (p := nI p) m A S hr hv p 0 false none hp
  repeat (first | (exact e1) | refine ax_st rfl ?_ | (apply ev_get rfl; assumption; rfl))
theorem st_loop {r : Nat} {T : List Nat} {q0 : Int32} (m : mo h n0 pcs th ms ru mv) (A : MA h F) (S : mS F r T) (hr : r < 4) : ∀ (n k p : Nat) (w : Option ax_V), k + n = 100 → p + 3 * n < 2 ^ 28 →
    ∃ w', ∀ {h' : ax_H}, Ev (d + 2) 101 28 [some (.inr (some 59)), some (.inl (nI r)), some (.inl q0), some (.inl (nI (stl T n p))), some (.inl (nI 100)), w'] [] h none h' → Ev (d + 2) 101 4 [some (.inr (some 59)), some (.inl (nI r)), some (.inl q0), some (.inl (nI p)), some (.inl (nI k)), w] [] h none h' := by
  have m0 := m
  unfold mo at m
  have s3 := S.2.2.1
  intro n
  induction n with
  | zero =>
    intro k p w hk hp
    have : k = 100 := by omega
    subst this
    refine ⟨w, fun {h'} k => ?_⟩
    repeat (first | (exact k) | refine ax_st rfl ?_ | (apply ev_get rfl; assumption; rfl))
  | succ n ih =>
    intro k p w hk hp
    have hc1 := lt_of_all s3 p
    have hll := lof_le T (T.getD p 0) p 0 false
    have hbnd : (if T.getD p 0 = 109 then p + 3 else if isV (T.getD p 0) = true then lof T (T.getD p 0) p 0 false else p) + 3 * n < 2 ^ 28 := by
      repeat' split
      all_goals omega
    obtain ⟨w', e1⟩ := ih (k + 1) (if T.getD p 0 = 109 then p + 3 else if isV (T.getD p 0) = true then lof T (T.getD p 0) p 0 false else p) (some (.inl (nI (T.getD p 0)))) (by omega) hbnd
    refine ⟨w', fun {h'} K => ?_⟩
    have e2 := e1 K
    rw [← nI_1 k] at e2
    (repeat (first | refine ax_st rfl ?_ | (apply ev_get rfl; assumption; rfl))); try dsimp only
    refine ev_f (fun z => absurd ((nI_leI (a := 100) (by decide) (by omega)).mp z) (by omega)) ?_
    (repeat (first | refine ax_st rfl ?_ | (apply ev_get rfl; assumption; rfl))); try dsimp only
    refine ev_callV rfl m ⟨rfl, rfl, Nat.le_of_ble_eq_true rfl, Nat.le_of_ble_eq_true rfl⟩ (m_sign m0 A S hr (by omega)) ?_
    (repeat (first | refine ax_st rfl ?_ | (apply ev_get rfl; assumption; rfl))); try dsimp only
    by_cases h1 : T.getD p 0 = 109
    · rw [if_pos h1, ← nI_add p 3] at e2
      refine ev_f (fun z => z (by rw [h1]; rfl)) ?_
      repeat (first | (exact e2) | refine ax_st rfl ?_ | (apply ev_get rfl; assumption; rfl))
    · rw [if_neg h1] at e2
      refine ev_t (fun z => h1 ((nI_eq (b := 109) (by omega) (by decide)).mp z)) ?_
      (repeat (first | refine ax_st rfl ?_ | (apply ev_get rfl; assumption; rfl))); try dsimp only
      refine ev_callS rfl ⟨rfl, rfl, Nat.le_of_ble_eq_true rfl, Nat.le_of_ble_eq_true rfl⟩ (m_isVariable hc1) ?_
      by_cases h2 : isV (T.getD p 0) = true
      · rw [if_pos h2] at e2
        rw [h2]
        (repeat (first | refine ax_st rfl ?_ | (apply ev_get rfl; assumption; rfl))); try dsimp only
        refine ev_callV rfl m ⟨rfl, rfl, Nat.le_of_ble_eq_true rfl, Nat.le_of_ble_eq_true rfl⟩ (m_loopOf m0 A S hr hc1 (by omega)) ?_
        repeat (first | (exact e2) | refine ax_st rfl ?_ | (apply ev_get rfl; assumption; rfl))
      · rw [if_neg h2] at e2
        rw [show isV (T.getD p 0) = false by simpa using h2]
        repeat (first | (exact e2) | refine ax_st rfl ?_ | (apply ev_get rfl; assumption; rfl))
theorem m_settle {r p : Nat} {T : List Nat} (m : mo h n0 pcs th ms ru mv) (A : MA h F) (S : mS F r T) (hr : r < 4) (hp : p < 2 ^ 27) : ∃ h', mt (d + 2) 101 [.inr (some 59), .inl (nI r), .inl (nI p)] h none h' ∧ mo h' n0 pcs th ms ru mv ∧ MA h' (va_up F 70 (upd (F 70) r (nI (stl T 100 p)))) ∧ fr h h' (fun q => q = 70) := by
  have h70 := A.a70
  have A1 := A.s70 (upd (F 70) r (nI (stl T 100 p)))
  have m1 := m.s 70 (by decide) (.inl (0, 4, .inl (upd (F 70) r (nI (stl T 100 p)))))
  refine ⟨_, ?_, m1, A1, fr.st rfl⟩
  obtain ⟨w', e1⟩ := st_loop (d := d) (q0 := nI p) m A S hr 100 0 p none rfl (by omega)
  have e2 := e1 (h' := ax_set h 70 (.inl (0, 4, .inl (upd (F 70) r (nI (stl T 100 p)))))) (by
    unfold mo at m
    (repeat (first | refine ax_st rfl ?_ | (apply ev_get rfl; assumption; rfl))); try dsimp only
    refine ev_ast rfl h70 ?_ ?_; exact in_nI (by omega) (by decide)
    rw [if_neg (by decide), nI_clamp (by omega)]
    exact ax_rt rfl)
  repeat (first | (exact e2) | refine ax_st rfl ?_ | (apply ev_get rfl; assumption; rfl))
end MD3
