/-! RoleParts.Player: a role in its part. -/
def pl (h : ax_H) (o t : Nat) (e : Bool) (p : Nat) : Prop := ob h o 2 [.inr (some t), .inl (bi e), .inl (nI p)]
theorem pl.fr {h h' : ax_H} {A : Nat → Prop} {o t p : Nat} {e : Bool} (a : pl h o t e p) (f : fr h h' A) (h1 : ¬ A o) : pl h' o t e p := ob.fr a f h1
/-- a text's characters are small -/
theorem tx.lt {h : ax_H} {o c : Nat} {t : List Nat} (a : tx h o c t) (k : Nat) : t.getD k 0 < 65536 := by
  obtain ⟨-, -, -, -, -, hx, -⟩ := a
  by_cases hk : k < t.length
  · exact hx _ (by rw [List.getD_eq_getElem?_getD, List.getElem?_eq_getElem hk]; exact List.getElem_mem hk)
  · simp [List.getD, List.getElem?_eq_none (by omega : t.length ≤ k)]
/-- what the role does; its partner -/
def pac (P : List Nat) (p : Nat) : Nat := if isR (P.getD p 0) = true then (if P.getD (p + 1) 0 = 33 then 1 else 2) else 0
def pot (P : List Nat) (p : Nat) : Int32 := if isR (P.getD p 0) = true then nI (P.getD p 0 - 65) else -1
theorem pl_action {d o t c p : Nat} {e : Bool} {h : ax_H} {P : List Nat} (a : pl h o t e p) (ht : tx h t c P) (hp : p < 2 ^ 30) : mt (d + 1) 16 [.inr (some o)] h (some (.inl (nI (pac P p)))) h := by
  unfold pl at a
  have hto := ht.ob
  unfold pac
  (repeat (first | refine ax_st rfl ?_ | (apply ev_get rfl; assumption; rfl))); try dsimp only
  refine ev_callV rfl hto ⟨rfl, rfl, Nat.le_of_ble_eq_true rfl, Nat.le_of_ble_eq_true rfl⟩ (tx_get ht (nI p)) ?_
  rw [tg_nI P (by omega)]
  refine ev_callS rfl ⟨rfl, rfl, Nat.le_of_ble_eq_true rfl, Nat.le_of_ble_eq_true rfl⟩ (p_isRole (ht.lt p)) ?_
  refine ax_st rfl ?_
  dsimp only
  refine ev_if (fun c1 => ?_) (fun c1 => ?_)
  · rw [if_pos (bi_t c1)]
    (repeat (first | refine ax_st rfl ?_ | (apply ev_get rfl; assumption; rfl))); try dsimp only
    rw [nI_1 p]
    refine ev_callV rfl hto ⟨rfl, rfl, Nat.le_of_ble_eq_true rfl, Nat.le_of_ble_eq_true rfl⟩ (tx_get ht (nI (p + 1))) ?_
    rw [tg_nI P (by omega)]
    (repeat (first | refine ax_st rfl ?_ | (apply ev_get rfl; assumption; rfl))); try dsimp only
    have := ht.lt (p + 1)
    refine ev_if (fun c2 => ?_) (fun c2 => ?_)
    · rw [if_neg (fun q => c2 (by rw [q]; rfl))]
      (repeat (first | refine ax_st rfl ?_ | (apply ev_get rfl; assumption; rfl))); try dsimp only
      exact ax_rt rfl
    · rw [if_pos ((nI_eq (b := 33) (by omega) (by decide)).mp (Decidable.not_not.mp c2))]
      (repeat (first | refine ax_st rfl ?_ | (apply ev_get rfl; assumption; rfl))); try dsimp only
      exact ax_rt rfl
  · rw [if_neg (by rw [(bi_0 _).mp (Decidable.not_not.mp c1)]; decide)]
    (repeat (first | refine ax_st rfl ?_ | (apply ev_get rfl; assumption; rfl))); try dsimp only
    exact ax_rt rfl
theorem pl_other {d o t c p : Nat} {e : Bool} {h : ax_H} {P : List Nat} (a : pl h o t e p) (ht : tx h t c P) (hp : p < 2 ^ 30) : mt (d + 1) 17 [.inr (some o)] h (some (.inl (pot P p))) h := by
  unfold pl at a
  have hto := ht.ob
  unfold pot
  (repeat (first | refine ax_st rfl ?_ | (apply ev_get rfl; assumption; rfl))); try dsimp only
  refine ev_callV rfl hto ⟨rfl, rfl, Nat.le_of_ble_eq_true rfl, Nat.le_of_ble_eq_true rfl⟩ (tx_get ht (nI p)) ?_
  rw [tg_nI P (by omega)]
  (repeat (first | refine ax_st rfl ?_ | (apply ev_get rfl; assumption; rfl))); try dsimp only
  refine ev_callS rfl ⟨rfl, rfl, Nat.le_of_ble_eq_true rfl, Nat.le_of_ble_eq_true rfl⟩ (p_isRole (ht.lt p)) ?_
  refine ax_st rfl ?_
  dsimp only
  refine ev_if (fun c1 => ?_) (fun c1 => ?_)
  · rw [if_neg (by rw [(bi_0 _).mp c1]; decide)]
    (repeat (first | refine ax_st rfl ?_ | (apply ev_get rfl; assumption; rfl))); try dsimp only
    exact ax_rt rfl
  · have hr := bi_t c1
    rw [if_pos hr]
    have hr2 := of_decide_eq_true hr
    (repeat (first | refine ax_st rfl ?_ | (apply ev_get rfl; assumption; rfl))); try dsimp only
    rw [show nI (P.getD p 0) - 65 = nI (P.getD p 0 - 65) from pk_sub (a := P.getD p 0) (b := 65) (by omega)]
    exact ax_rt rfl
/-- from k on: the place behind the label's point, at depth 1; -1 when it isn't there -/
def bls (P : List Nat) (x : Int32) : Nat → Nat → Int32 → Int32
  | 0, _, _ => -1
  | n + 1, k, o => if (if P.getD k 0 = 123 then o + 1 else if P.getD k 0 = 125 then o + (-1) else o) = 0 then -1 else
      if (if P.getD k 0 = 123 then o + 1 else if P.getD k 0 = 125 then o + (-1) else o) = 1 ∧ (P.getD k 0 = 123 ∨ P.getD k 0 = 44) ∧ nI (P.getD (k + 1) 0) = 112 + x then nI (k + 3) else
      bls P x n (k + 1) (if P.getD k 0 = 123 then o + 1 else if P.getD k 0 = 125 then o + (-1) else o)
def isB (x : Int32) : Bool := decide (¬ x < 0 ∧ ¬ 6 ≤ x)
def pbl (P : List Nat) (p : Nat) (x : Int32) : Int32 := if isB x = true ∧ pac P p ≠ 0 then bls P x (P.length - (p + 2)) (p + 2) 0 else -1
theorem bl_loop {d o t c p : Nat} {e : Bool} {h : ax_H} {P : List Nat} {x : Int32} (a : pl h o t e p) (ht : tx h t c P) : ∀ (n k : Nat) (q z : Int32) (w : Option ax_V), P.length - k = n → k < 2 ^ 30 →
    Ev (d + 1) 18 17 [some (.inr (some o)), some (.inl x), some (.inl q), some (.inl (nI k)), w] [] h (some (.inl (bls P x n k q))) h := by
  unfold pl at a
  have hto := ht.ob
  have hl := ht.len
  intro n
  induction n with
  | zero =>
    intro k q z w hn hk
    unfold bls
    (repeat (first | refine ax_st rfl ?_ | (apply ev_get rfl; assumption; rfl))); try dsimp only
    refine ev_callV rfl hto ⟨rfl, rfl, Nat.le_of_ble_eq_true rfl, Nat.le_of_ble_eq_true rfl⟩ (tx_size ht) ?_
    refine ax_st rfl ?_
    dsimp only
    refine ev_t ((nI_leI (by omega) (by omega)).mpr (by omega)) ?_
    (repeat (first | refine ax_st rfl ?_ | (apply ev_get rfl; assumption; rfl))); try dsimp only
    exact ax_rt rfl
  | succ n ih =>
    intro k q z w hn hk
    unfold bls
    have hc1 := ht.lt k
    have hc2 := ht.lt (k + 1)
    (repeat (first | refine ax_st rfl ?_ | (apply ev_get rfl; assumption; rfl))); try dsimp only
    refine ev_callV rfl hto ⟨rfl, rfl, Nat.le_of_ble_eq_true rfl, Nat.le_of_ble_eq_true rfl⟩ (tx_size ht) ?_
    refine ax_st rfl ?_
    dsimp only
    refine ev_f (fun r => absurd ((nI_leI (by omega) (by omega)).mp r) (by omega)) ?_
    (repeat (first | refine ax_st rfl ?_ | (apply ev_get rfl; assumption; rfl))); try dsimp only
    refine ev_callV rfl hto ⟨rfl, rfl, Nat.le_of_ble_eq_true rfl, Nat.le_of_ble_eq_true rfl⟩ (tx_get ht (nI k)) ?_
    rw [tg_nI P (by omega)]
    (repeat (first | refine ax_st rfl ?_ | (apply ev_get rfl; assumption; rfl))); try dsimp only
    have e1 := fun q' => ih (k + 1) q' 0 (some (.inl (nI (P.getD k 0)))) (by omega) (by omega)
    simp only [← nI_1 k] at e1
    by_cases h1 : P.getD k 0 = 123
    · simp only [h1, if_true]
      rw [h1] at e1
      refine ev_f (fun r => r rfl) ?_
      (repeat (first | refine ax_st rfl ?_ | (apply ev_get rfl; assumption; rfl))); try dsimp only
      refine ev_if (fun c1 => ?_) (fun c1 => ?_)
      · rw [if_neg (fun r => c1 r.1)]
        (repeat (first | refine ax_st rfl ?_ | (apply ev_get rfl; assumption; rfl))); try dsimp only
        refine ev_if (fun c2 => ?_) (fun c2 => ?_)
        · rw [if_neg c2]
          repeat (first | (exact (e1 _)) | refine ax_st rfl ?_ | (apply ev_get rfl; assumption; rfl))
        · rw [if_pos (Decidable.not_not.mp c2)]
          (repeat (first | refine ax_st rfl ?_ | (apply ev_get rfl; assumption; rfl))); try dsimp only
          exact ax_rt rfl
      · have c1 := Decidable.not_not.mp c1
        rw [if_neg (by rw [c1]; decide)]
        (repeat (first | refine ax_st rfl ?_ | (apply ev_get rfl; assumption; rfl))); try dsimp only
        rw [nI_1 k]
        refine ev_callV rfl hto ⟨rfl, rfl, Nat.le_of_ble_eq_true rfl, Nat.le_of_ble_eq_true rfl⟩ (tx_get ht (nI (k + 1))) ?_
        rw [tg_nI P (by omega)]
        (repeat (first | refine ax_st rfl ?_ | (apply ev_get rfl; assumption; rfl))); try dsimp only
        refine ev_if (fun c2 => ?_) (fun c2 => ?_)
        · rw [if_neg (fun r => c2 r.2.2)]
          (repeat (first | refine ax_st rfl ?_ | (apply ev_get rfl; assumption; rfl))); try dsimp only
          rw [c1]
          rw [c1] at *
          repeat (first | (exact (e1 _)) | refine ax_st rfl ?_ | (apply ev_get rfl; assumption; rfl))
        · rw [if_pos ⟨c1, Or.inl trivial, Decidable.not_not.mp c2⟩]
          (repeat (first | refine ax_st rfl ?_ | (apply ev_get rfl; assumption; rfl))); try dsimp only
          rw [show nI k + 3 = nI (k + 3) from nI_add k 3]
          exact ax_rt rfl
    · simp only [h1, if_false]
      refine ev_t (fun r => h1 ((nI_eq (b := 123) (by omega) (by decide)).mp r)) ?_
      (repeat (first | refine ax_st rfl ?_ | (apply ev_get rfl; assumption; rfl))); try dsimp only
      sorry
