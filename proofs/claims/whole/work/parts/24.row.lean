/-! Kinds of characters; RoleParts.Row; RoleParts.Grammar. -/
def bi (b : Bool) : Int32 := if b then 1 else 0
theorem bi_fit (b : Bool) : ax_fit 1 (.inl (bi b)) = true := by cases b <;> rfl
theorem bi_0 (b : Bool) : bi b = 0 ↔ b = false := by cases b <;> decide
def isV (x : Nat) : Bool := decide (88 ≤ x ∧ x < 91)
def isR (x : Nat) : Bool := decide (65 ≤ x ∧ x < 69)
def isL (x : Nat) : Bool := decide (112 ≤ x ∧ x < 118)
theorem p_isRole {d x : Nat} {h : ax_H} (hx : x < 65536) : mt d 72 [.inl (nI x)] h (some (.inl (bi (isR x)))) h := by
  (repeat (first | refine ax_st rfl ?_ | (apply ev_get rfl; assumption; rfl))); try dsimp only
  refine ev_if (fun c1 => ?_) (fun c1 => ?_)
  · have c1 := (nI_ltI (b := 65) (by omega) (by decide)).mp c1
    rw [show isR x = false from decide_eq_false (by omega)]
    (repeat (first | refine ax_st rfl ?_ | (apply ev_get rfl; assumption; rfl))); try dsimp only
    exact ax_rt rfl
  · have c1 : ¬ x < 65 := fun q => c1 ((nI_ltI (b := 65) (by omega) (by decide)).mpr q)
    (repeat (first | refine ax_st rfl ?_ | (apply ev_get rfl; assumption; rfl))); try dsimp only
    refine ev_if (fun c2 => ?_) (fun c2 => ?_)
    · have c2 := (nI_leI (a := 69) (by decide) (by omega)).mp c2
      rw [show isR x = false from decide_eq_false (by omega)]
      (repeat (first | refine ax_st rfl ?_ | (apply ev_get rfl; assumption; rfl))); try dsimp only
      exact ax_rt rfl
    · have c2 : ¬ 69 ≤ x := fun q => c2 ((nI_leI (a := 69) (by decide) (by omega)).mpr q)
      rw [show isR x = true from decide_eq_true (by omega)]
      (repeat (first | refine ax_st rfl ?_ | (apply ev_get rfl; assumption; rfl))); try dsimp only
      exact ax_rt rfl
theorem p_isLabel {d x : Nat} {h : ax_H} (hx : x < 65536) : mt d 73 [.inl (nI x)] h (some (.inl (bi (isL x)))) h := by
  (repeat (first | refine ax_st rfl ?_ | (apply ev_get rfl; assumption; rfl))); try dsimp only
  refine ev_if (fun c1 => ?_) (fun c1 => ?_)
  · have c1 := (nI_ltI (b := 112) (by omega) (by decide)).mp c1
    rw [show isL x = false from decide_eq_false (by omega)]
    (repeat (first | refine ax_st rfl ?_ | (apply ev_get rfl; assumption; rfl))); try dsimp only
    exact ax_rt rfl
  · have c1 : ¬ x < 112 := fun q => c1 ((nI_ltI (b := 112) (by omega) (by decide)).mpr q)
    (repeat (first | refine ax_st rfl ?_ | (apply ev_get rfl; assumption; rfl))); try dsimp only
    refine ev_if (fun c2 => ?_) (fun c2 => ?_)
    · have c2 := (nI_leI (a := 118) (by decide) (by omega)).mp c2
      rw [show isL x = false from decide_eq_false (by omega)]
      (repeat (first | refine ax_st rfl ?_ | (apply ev_get rfl; assumption; rfl))); try dsimp only
      exact ax_rt rfl
    · have c2 : ¬ 118 ≤ x := fun q => c2 ((nI_leI (a := 118) (by decide) (by omega)).mpr q)
      rw [show isL x = true from decide_eq_true (by omega)]
      (repeat (first | refine ax_st rfl ?_ | (apply ev_get rfl; assumption; rfl))); try dsimp only
      exact ax_rt rfl
theorem p_isVariable {d x : Nat} {h : ax_H} (hx : x < 65536) : mt d 74 [.inl (nI x)] h (some (.inl (bi (isV x)))) h := by
  (repeat (first | refine ax_st rfl ?_ | (apply ev_get rfl; assumption; rfl))); try dsimp only
  refine ev_if (fun c1 => ?_) (fun c1 => ?_)
  · have c1 := (nI_ltI (b := 88) (by omega) (by decide)).mp c1
    rw [show isV x = false from decide_eq_false (by omega)]
    (repeat (first | refine ax_st rfl ?_ | (apply ev_get rfl; assumption; rfl))); try dsimp only
    exact ax_rt rfl
  · have c1 : ¬ x < 88 := fun q => c1 ((nI_ltI (b := 88) (by omega) (by decide)).mpr q)
    (repeat (first | refine ax_st rfl ?_ | (apply ev_get rfl; assumption; rfl))); try dsimp only
    refine ev_if (fun c2 => ?_) (fun c2 => ?_)
    · have c2 := (nI_leI (a := 91) (by decide) (by omega)).mp c2
      rw [show isV x = false from decide_eq_false (by omega)]
      (repeat (first | refine ax_st rfl ?_ | (apply ev_get rfl; assumption; rfl))); try dsimp only
      exact ax_rt rfl
    · have c2 : ¬ 91 ≤ x := fun q => c2 ((nI_leI (a := 91) (by decide) (by omega)).mpr q)
      rw [show isV x = true from decide_eq_true (by omega)]
      (repeat (first | refine ax_st rfl ?_ | (apply ev_get rfl; assumption; rfl))); try dsimp only
      exact ax_rt rfl
/-- a role's number -/
def isN (x : Int32) : Bool := decide (¬ x < 0 ∧ ¬ 4 ≤ x)
theorem isN_iff {x : Int32} : isN x = true ↔ ∃ r : Nat, r < 4 ∧ x = nI r := by
  unfold isN
  rw [decide_eq_true_eq]
  constructor
  · rintro ⟨a, b⟩
    obtain ⟨n, hn, rfl⟩ := nI_of a
    exact ⟨n, Nat.lt_of_not_le fun q => b ((nI_leI (a := 4) (by decide) hn).mpr q), rfl⟩
  · rintro ⟨r, hr, rfl⟩
    exact ⟨nI_pos (by omega), fun q => absurd ((nI_leI (a := 4) (by decide) (by omega)).mp q) (by omega)⟩
theorem p_isRoleNumber {d : Nat} {h : ax_H} (x : Int32) : mt d 71 [.inl x] h (some (.inl (bi (isN x)))) h := by
  (repeat (first | refine ax_st rfl ?_ | (apply ev_get rfl; assumption; rfl))); try dsimp only
  refine ev_if (fun c1 => ?_) (fun c1 => ?_)
  · rw [show isN x = false from decide_eq_false (fun q => q.1 c1)]
    (repeat (first | refine ax_st rfl ?_ | (apply ev_get rfl; assumption; rfl))); try dsimp only
    exact ax_rt rfl
  · (repeat (first | refine ax_st rfl ?_ | (apply ev_get rfl; assumption; rfl))); try dsimp only
    refine ev_if (fun c2 => ?_) (fun c2 => ?_)
    · rw [show isN x = false from decide_eq_false (fun q => q.2 c2)]
      (repeat (first | refine ax_st rfl ?_ | (apply ev_get rfl; assumption; rfl))); try dsimp only
      exact ax_rt rfl
    · rw [show isN x = true from decide_eq_true ⟨c1, c2⟩]
      (repeat (first | refine ax_st rfl ?_ | (apply ev_get rfl; assumption; rfl))); try dsimp only
      exact ax_rt rfl
/-! Row: at most three labels. -/
def rw0 (h : ax_H) (o c : Nat) (t : List Int32) : Prop := ∃ f : Nat → Int32, ob h o 3 [.inr (some c), .inl (nI t.length)] ∧ ar h c 0 3 f ∧ t.length ≤ 3 ∧ ∀ k, k < t.length → f k = t.getD k 0
theorem rw0.fr {h h' : ax_H} {A : Nat → Prop} {o c : Nat} {t : List Int32} (a : rw0 h o c t) (f : fr h h' A) (h1 : ¬ A o) (h2 : ¬ A c) : rw0 h' o c t := by
  obtain ⟨g, x1, x2, x3⟩ := a
  exact ⟨g, x1.fr f h1, x2.fr f h2, x3⟩
theorem rw0.ob {h : ax_H} {o c : Nat} {t : List Int32} (a : rw0 h o c t) : ob h o 3 [.inr (some c), .inl (nI t.length)] := by
  obtain ⟨g, x1, -⟩ := a
  exact x1
theorem rw_size {d o c : Nat} {h : ax_H} {t : List Int32} (a : rw0 h o c t) : mt d 23 [.inr (some o)] h (some (.inl (nI t.length))) h := by
  have ho := a.ob
  (repeat (first | refine ax_st rfl ?_ | (apply ev_get rfl; assumption; rfl))); try dsimp only
  exact ax_rt rfl
theorem rw_full {d o c : Nat} {h : ax_H} {t : List Int32} (a : rw0 h o c t) : mt d 24 [.inr (some o)] h (some (.inl (bi (decide (3 ≤ t.length))))) h := by
  have ho := a.ob
  obtain ⟨-, -, -, hl, -⟩ := a
  (repeat (first | refine ax_st rfl ?_ | (apply ev_get rfl; assumption; rfl))); try dsimp only
  refine ev_if (fun c1 => ?_) (fun c1 => ?_)
  · have c1 := (nI_ltI (b := 3) (by omega) (by decide)).mp c1
    rw [decide_eq_false (by omega)]
    (repeat (first | refine ax_st rfl ?_ | (apply ev_get rfl; assumption; rfl))); try dsimp only
    exact ax_rt rfl
  · have c1 : ¬ t.length < 3 := fun q => c1 ((nI_ltI (b := 3) (by omega) (by decide)).mpr q)
    rw [decide_eq_true (by omega)]
    (repeat (first | refine ax_st rfl ?_ | (apply ev_get rfl; assumption; rfl))); try dsimp only
    exact ax_rt rfl
/-- what get answers -/
def rg (t : List Int32) (k : Int32) : Int32 := if k < 0 then -1 else t.getD k.toNatClampNeg (-1)
theorem rw_get {d o c : Nat} {h : ax_H} {t : List Int32} (a : rw0 h o c t) (k : Int32) : mt d 25 [.inr (some o), .inl k] h (some (.inl (rg t k))) h := by
  obtain ⟨f, ho, hc, hl, hf⟩ := a
  (repeat (first | refine ax_st rfl ?_ | (apply ev_get rfl; assumption; rfl))); try dsimp only
  refine ev_if (fun c1 => ?_) (fun c1 => ?_)
  · unfold rg
    rw [if_pos c1]
    (repeat (first | refine ax_st rfl ?_ | (apply ev_get rfl; assumption; rfl))); try dsimp only
    exact ax_rt rfl
  · (repeat (first | refine ax_st rfl ?_ | (apply ev_get rfl; assumption; rfl))); try dsimp only
    obtain ⟨n, hn, rfl⟩ := nI_of c1
    unfold rg
    rw [if_neg c1, nI_clamp hn]
    refine ev_if (fun c2 => ?_) (fun c2 => ?_)
    · have c2 := (nI_leI (by omega) hn).mp c2
      rw [show t.getD n (-1) = -1 by simp [List.getD, List.getElem?_eq_none c2]]
      (repeat (first | refine ax_st rfl ?_ | (apply ev_get rfl; assumption; rfl))); try dsimp only
      exact ax_rt rfl
    · have c2 : ¬ t.length ≤ n := fun q => c2 ((nI_leI (by omega) hn).mpr q)
      (repeat (first | refine ax_st rfl ?_ | (apply ev_get rfl; assumption; rfl))); try dsimp only
      refine ev_ald rfl hc ?_ ?_; exact in_nI (by omega) (by decide)
      (repeat (first | refine ax_st rfl ?_ | (apply ev_get rfl; assumption; rfl))); try dsimp only
      rw [nI_clamp hn, hf n (by omega)]
      rw [show t.getD n (-1) = t.getD n 0 by simp [List.getD, List.getElem?_eq_getElem (show n < t.length by omega)]]
      exact ax_rt rfl
theorem rw_clear {d o c : Nat} {h : ax_H} {t : List Int32} (a : rw0 h o c t) : ∃ h', mt d 26 [.inr (some o)] h none h' ∧ rw0 h' o c [] ∧ fr h h' (fun q => q = o) := by
  obtain ⟨f, ho, hc, hl, hf⟩ := a
  refine ⟨ax_set h o (.inr (3, [.inr (some c), .inl 0])), ?_, ⟨f, ho.st _ _, hc.ne _ (Ne.symm (ob_ar ho hc)), by decide, fun k hk => absurd hk (by simp)⟩, fr.st rfl⟩
  (repeat (first | refine ax_st rfl ?_ | (apply ev_get rfl; assumption; rfl))); try dsimp only
  refine ev_put rfl ho ?_ ?_ ?_; exact Nat.le_of_ble_eq_true rfl; rfl
  exact ax_rt rfl
theorem rw_append {d o c : Nat} {h : ax_H} {t : List Int32} (a : rw0 h o c t) (hl3 : t.length < 3) (x : Int32) : ∃ h', mt d 27 [.inr (some o), .inl x] h none h' ∧ rw0 h' o c (t ++ [x]) ∧ fr h h' (fun q => q = o ∨ q = c) := by
  obtain ⟨f, ho, hc, hl, hf⟩ := a
  have hne := ob_ar ho hc
  have hlen : (t ++ [x]).length = t.length + 1 := by simp
  refine ⟨ax_set (ax_set h c (.inl (0, 3, .inl (upd f t.length x)))) o (.inr (3, [.inr (some c), .inl (nI (t.length + 1))])), ?_, ⟨upd f t.length x, by rw [hlen]; exact (ho.ne _ hne).st _ _, (hc.st _).ne _ (Ne.symm hne), by omega, fun k hk => ?_⟩, (fr.st (Or.inr rfl)).tr (fr.st (Or.inl rfl))⟩
  · (repeat (first | refine ax_st rfl ?_ | (apply ev_get rfl; assumption; rfl))); try dsimp only
    refine ev_f (fun q => absurd ((nI_leI (a := 3) (by decide) (by omega)).mp q) (by omega)) ?_
    (repeat (first | refine ax_st rfl ?_ | (apply ev_get rfl; assumption; rfl))); try dsimp only
    refine ev_ast rfl hc ?_ ?_; exact in_nI (by omega) (by decide)
    rw [if_neg (by decide), nI_clamp (by omega)]
    have ho2 := ho.ne (.inl (0, 3, .inl (upd f t.length x))) hne
    (repeat (first | refine ax_st rfl ?_ | (apply ev_get rfl; assumption; rfl))); try dsimp only
    refine ev_put rfl ho2 ?_ ?_ ?_; exact Nat.le_of_ble_eq_true rfl; rfl
    rw [← nI_1]
    exact ax_rt rfl
  · unfold upd
    by_cases hk2 : k = t.length
    · subst hk2
      simp [List.getD]
    · rw [if_neg hk2, hf k (by omega)]
      simp only [List.getD, List.getElem?_append_left (show k < t.length by omega)]
theorem rw_rem {d o c : Nat} {h : ax_H} {x : Int32} {t : List Int32} (a : rw0 h o c (x :: t)) : ∃ h', mt d 28 [.inr (some o)] h none h' ∧ rw0 h' o c t ∧ fr h h' (fun q => q = o ∨ q = c) := by
  obtain ⟨f, ho, hc, hl, hf⟩ := a
  have hne := ob_ar ho hc
  rcases t with _ | ⟨y, _ | ⟨z, _ | ⟨w, t⟩⟩⟩
  · refine ⟨ax_set h o (.inr (3, [.inr (some c), .inl (nI 1 - 1)])), ?_, ⟨f, ?_, hc.ne _ (Ne.symm hne), Nat.le_of_ble_eq_true rfl, fun k hk => absurd hk (by simp)⟩, fr.st (Or.inl rfl)⟩
    · (repeat (first | refine ax_st rfl ?_ | (apply ev_get rfl; assumption; rfl))); try dsimp only
      refine ev_put rfl ho ?_ ?_ ?_; exact Nat.le_of_ble_eq_true rfl; rfl
      exact ax_rt rfl
    · have := ho.st 3 [.inr (some c), .inl (nI 1 - 1)]
      rw [nI_pred 0] at this
      exact this
  · refine ⟨ax_set (ax_set h c (.inl (0, 3, .inl (upd f 0 (f 1))))) o (.inr (3, [.inr (some c), .inl (nI 2 - 1)])), ?_, ⟨upd f 0 (f 1), ?_, (hc.st _).ne _ (Ne.symm hne), Nat.le_of_ble_eq_true rfl, fun k hk => ?_⟩, (fr.st (Or.inr rfl)).tr (fr.st (Or.inl rfl))⟩
    · (repeat (first | refine ax_st rfl ?_ | (apply ev_get rfl; assumption; rfl))); try dsimp only
      refine ev_ald rfl hc rfl ?_
      refine ev_ast rfl hc rfl ?_
      have ho2 := ho.ne (.inl (0, 3, .inl (upd f 0 (f 1)))) hne
      (repeat (first | refine ax_st rfl ?_ | (apply ev_get rfl; assumption; rfl))); try dsimp only
      refine ev_put rfl ho2 ?_ ?_ ?_; exact Nat.le_of_ble_eq_true rfl; rfl
      exact ax_rt rfl
    · have := (ho.ne (.inl (0, 3, .inl (upd f 0 (f 1)))) hne).st 3 [.inr (some c), .inl (nI 2 - 1)]
      rw [nI_pred 1] at this
      exact this
    · have : k = 0 := by simp at hk; omega
      subst this
      exact hf 1 (Nat.le_of_ble_eq_true rfl)
  · refine ⟨ax_set (ax_set (ax_set h c (.inl (0, 3, .inl (upd f 0 (f 1))))) c (.inl (0, 3, .inl (upd (upd f 0 (f 1)) 1 (f 2))))) o (.inr (3, [.inr (some c), .inl (nI 3 - 1)])), ?_, ⟨upd (upd f 0 (f 1)) 1 (f 2), ?_, ((hc.st _).st _).ne _ (Ne.symm hne), Nat.le_of_ble_eq_true rfl, fun k hk => ?_⟩, ((fr.st (Or.inr rfl)).tr (fr.st (Or.inr rfl))).tr (fr.st (Or.inl rfl))⟩
    · (repeat (first | refine ax_st rfl ?_ | (apply ev_get rfl; assumption; rfl))); try dsimp only
      refine ev_ald rfl hc rfl ?_
      refine ev_ast rfl hc rfl ?_
      have ho2 := ho.ne (.inl (0, 3, .inl (upd f 0 (f 1)))) hne
      have hc2 := hc.st (upd f 0 (f 1))
      (repeat (first | refine ax_st rfl ?_ | (apply ev_get rfl; assumption; rfl))); try dsimp only
      refine ev_ald rfl hc2 rfl ?_
      refine ev_ast rfl hc2 rfl ?_
      have ho3 := ho2.ne (.inl (0, 3, .inl (upd (upd f 0 (f 1)) 1 (f 2)))) hne
      (repeat (first | refine ax_st rfl ?_ | (apply ev_get rfl; assumption; rfl))); try dsimp only
      refine ev_put rfl ho3 ?_ ?_ ?_; exact Nat.le_of_ble_eq_true rfl; rfl
      exact ax_rt rfl
    · have := ((ho.ne (.inl (0, 3, .inl (upd f 0 (f 1)))) hne).ne (.inl (0, 3, .inl (upd (upd f 0 (f 1)) 1 (f 2)))) hne).st 3 [.inr (some c), .inl (nI 3 - 1)]
      rw [nI_pred 2] at this
      exact this
    · have : k = 0 ∨ k = 1 := by simp at hk; omega
      rcases this with rfl | rfl
      · exact hf 1 (Nat.le_of_ble_eq_true rfl)
      · exact hf 2 (Nat.le_of_ble_eq_true rfl)
  · simp at hl
