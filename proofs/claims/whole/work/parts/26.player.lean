/-! RoleParts.Player: a role in its part. -/
def pl (h : ax_H) (o t : Nat) (e : Bool) (p : Nat) : Prop := ob h o 2 [.inr (some t), .inl (bi e), .inl (nI p)]
theorem pl.fr {h h' : ax_H} {A : Nat → Prop} {o t p : Nat} {e : Bool} (a : pl h o t e p) (f : fr h h' A) (h1 : ¬ A o) : pl h' o t e p := ob.fr a f h1
/-- a text's characters are small -/
theorem tx.lt {h : ax_H} {o c : Nat} {t : List Nat} (a : tx h o c t) (k : Nat) : t.getD k 0 < 65536 := by
  obtain ⟨-, -, -, -, -, hx, -⟩ := a
  by_cases hk : k < t.length
  · exact hx _ (by rw [List.getD_eq_getElem?_getD, List.getElem?_eq_getElem hk]; exact List.getElem_mem hk)
  · simp [List.getD, List.getElem?_eq_none (by omega : t.length ≤ k)]
/-- what the role does; its partner -/
def pac (P : List Nat) (p : Nat) : Nat := if isR (P.getD p 0) = true then (if P.getD (p + 1) 0 = 33 then 1 else 2) else 0
def pot (P : List Nat) (p : Nat) : Int32 := if isR (P.getD p 0) = true then nI (P.getD p 0 - 65) else -1
theorem pl_action {d o t c p : Nat} {e : Bool} {h : ax_H} {P : List Nat} (a : pl h o t e p) (ht : tx h t c P) (hp : p < 2 ^ 30) : mt (d + 1) 16 [.inr (some o)] h (some (.inl (nI (pac P p)))) h := by
  unfold pl at a
  have hto := ht.ob
  unfold pac
  (repeat (first | refine ax_st rfl ?_ | (apply ev_get rfl; assumption; rfl))); try dsimp only
  refine ev_callV rfl hto ⟨rfl, rfl, Nat.le_of_ble_eq_true rfl, Nat.le_of_ble_eq_true rfl⟩ (tx_get ht (nI p)) ?_
  rw [tg_nI P (by omega)]
  refine ev_callS rfl ⟨rfl, rfl, Nat.le_of_ble_eq_true rfl, Nat.le_of_ble_eq_true rfl⟩ (p_isRole (ht.lt p)) ?_
  refine ax_st rfl ?_
  dsimp only
  refine ev_if (fun c1 => ?_) (fun c1 => ?_)
  · rw [if_pos (bi_t c1)]
    (repeat (first | refine ax_st rfl ?_ | (apply ev_get rfl; assumption; rfl))); try dsimp only
    rw [nI_1 p]
    refine ev_callV rfl hto ⟨rfl, rfl, Nat.le_of_ble_eq_true rfl, Nat.le_of_ble_eq_true rfl⟩ (tx_get ht (nI (p + 1))) ?_
    rw [tg_nI P (by omega)]
    (repeat (first | refine ax_st rfl ?_ | (apply ev_get rfl; assumption; rfl))); try dsimp only
    have := ht.lt (p + 1)
    refine ev_if (fun c2 => ?_) (fun c2 => ?_)
    · rw [if_neg (fun q => c2 (by rw [q]; rfl))]
      (repeat (first | refine ax_st rfl ?_ | (apply ev_get rfl; assumption; rfl))); try dsimp only
      exact ax_rt rfl
    · rw [if_pos ((nI_eq (b := 33) (by omega) (by decide)).mp (Decidable.not_not.mp c2))]
      (repeat (first | refine ax_st rfl ?_ | (apply ev_get rfl; assumption; rfl))); try dsimp only
      exact ax_rt rfl
  · rw [if_neg (by rw [(bi_0 _).mp (Decidable.not_not.mp c1)]; decide)]
    (repeat (first | refine ax_st rfl ?_ | (apply ev_get rfl; assumption; rfl))); try dsimp only
    exact ax_rt rfl
theorem pl_other {d o t c p : Nat} {e : Bool} {h : ax_H} {P : List Nat} (a : pl h o t e p) (ht : tx h t c P) (hp : p < 2 ^ 30) : mt (d + 1) 17 [.inr (some o)] h (some (.inl (pot P p))) h := by
  unfold pl at a
  have hto := ht.ob
  unfold pot
  (repeat (first | refine ax_st rfl ?_ | (apply ev_get rfl; assumption; rfl))); try dsimp only
  refine ev_callV rfl hto ⟨rfl, rfl, Nat.le_of_ble_eq_true rfl, Nat.le_of_ble_eq_true rfl⟩ (tx_get ht (nI p)) ?_
  rw [tg_nI P (by omega)]
  (repeat (first | refine ax_st rfl ?_ | (apply ev_get rfl; assumption; rfl))); try dsimp only
  refine ev_callS rfl ⟨rfl, rfl, Nat.le_of_ble_eq_true rfl, Nat.le_of_ble_eq_true rfl⟩ (p_isRole (ht.lt p)) ?_
  refine ax_st rfl ?_
  dsimp only
  refine ev_if (fun c1 => ?_) (fun c1 => ?_)
  · rw [if_neg (by rw [(bi_0 _).mp c1]; decide)]
    (repeat (first | refine ax_st rfl ?_ | (apply ev_get rfl; assumption; rfl))); try dsimp only
    exact ax_rt rfl
  · have hr := bi_t c1
    rw [if_pos hr]
    have hr2 := of_decide_eq_true hr
    (repeat (first | refine ax_st rfl ?_ | (apply ev_get rfl; assumption; rfl))); try dsimp only
    rw [show nI (P.getD p 0) - 65 = nI (P.getD p 0 - 65) from pk_sub (a := P.getD p 0) (b := 65) (by omega)]
    exact ax_rt rfl
/-- the depth behind a character -/
def bdp (c : Nat) (o : Int32) : Int32 := if c = 123 then o + 1 else if c = 125 then o + (-1) else o
/-- from k on: the place behind the label's point, at depth 1; -1 when it isn't there -/
def bls (P : List Nat) (x : Int32) : Nat → Nat → Int32 → Int32
  | 0, _, _ => -1
  | n + 1, k, o => if bdp (P.getD k 0) o = 0 then -1 else
      if bdp (P.getD k 0) o = 1 ∧ (P.getD k 0 = 123 ∨ P.getD k 0 = 44) ∧ nI (P.getD (k + 1) 0) = 112 + x then nI (k + 3) else
      bls P x n (k + 1) (bdp (P.getD k 0) o)
theorem bls_z {P : List Nat} {x : Int32} {n k : Nat} {o o1 : Int32} (h1 : bdp (P.getD k 0) o = o1) (h0 : o1 = 0) : bls P x (n + 1) k o = -1 := by
  unfold bls
  rw [h1, if_pos h0]
theorem bls_h {P : List Nat} {x : Int32} {n k : Nat} {o : Int32} (h1 : bdp (P.getD k 0) o = 1) (h2 : P.getD k 0 = 123 ∨ P.getD k 0 = 44) (h3 : nI (P.getD (k + 1) 0) = 112 + x) : bls P x (n + 1) k o = nI (k + 3) := by
  unfold bls
  rw [h1, if_neg (by decide), if_pos ⟨rfl, h2, h3⟩]
theorem bls_n {P : List Nat} {x : Int32} {n k : Nat} {o o1 : Int32} (h1 : bdp (P.getD k 0) o = o1) (h0 : ¬ o1 = 0) (h2 : ¬ (o1 = 1 ∧ (P.getD k 0 = 123 ∨ P.getD k 0 = 44) ∧ nI (P.getD (k + 1) 0) = 112 + x)) : bls P x (n + 1) k o = bls P x n (k + 1) o1 := by
  rw [bls, h1, if_neg h0, if_neg h2]
def isB (x : Int32) : Bool := decide (¬ x < 0 ∧ ¬ 6 ≤ x)
def pbl (P : List Nat) (p : Nat) (x : Int32) : Int32 := if isB x = true ∧ pac P p ≠ 0 then bls P x (P.length - (p + 2)) (p + 2) 0 else -1
theorem bl_loop {d o t c p : Nat} {e : Bool} {h : ax_H} {P : List Nat} {x : Int32} (a : pl h o t e p) (ht : tx h t c P) : ∀ (n k : Nat) (q z : Int32) (w : Option ax_V), P.length - k = n → k < 2 ^ 30 →
    Ev (d + 1) 18 17 [some (.inr (some o)), some (.inl x), some (.inl q), some (.inl (nI k)), w] [] h (some (.inl (bls P x n k q))) h := by
  unfold pl at a
  have hto := ht.ob
  have hl := ht.len
  intro n
  induction n with
  | zero =>
    intro k q z w hn hk
    unfold bls
    (repeat (first | refine ax_st rfl ?_ | (apply ev_get rfl; assumption; rfl))); try dsimp only
    refine ev_callV rfl hto ⟨rfl, rfl, Nat.le_of_ble_eq_true rfl, Nat.le_of_ble_eq_true rfl⟩ (tx_size ht) ?_
    refine ax_st rfl ?_
    dsimp only
    refine ev_t ((nI_leI (by omega) (by omega)).mpr (by omega)) ?_
    (repeat (first | refine ax_st rfl ?_ | (apply ev_get rfl; assumption; rfl))); try dsimp only
    exact ax_rt rfl
  | succ n ih =>
    intro k q z w hn hk
    have hc1 := ht.lt k
    have hc2 := ht.lt (k + 1)
    (repeat (first | refine ax_st rfl ?_ | (apply ev_get rfl; assumption; rfl))); try dsimp only
    refine ev_callV rfl hto ⟨rfl, rfl, Nat.le_of_ble_eq_true rfl, Nat.le_of_ble_eq_true rfl⟩ (tx_size ht) ?_
    refine ax_st rfl ?_
    dsimp only
    refine ev_f (fun r => absurd ((nI_leI (by omega) (by omega)).mp r) (by omega)) ?_
    (repeat (first | refine ax_st rfl ?_ | (apply ev_get rfl; assumption; rfl))); try dsimp only
    refine ev_callV rfl hto ⟨rfl, rfl, Nat.le_of_ble_eq_true rfl, Nat.le_of_ble_eq_true rfl⟩ (tx_get ht (nI k)) ?_
    rw [tg_nI P (by omega)]
    (repeat (first | refine ax_st rfl ?_ | (apply ev_get rfl; assumption; rfl))); try dsimp only
    have e1 := fun q' => ih (k + 1) q' 0 (some (.inl (nI (P.getD k 0)))) (by omega) (by omega)
    simp only [← nI_1 k] at e1
    have n123 : ¬ P.getD k 0 = 123 → ¬ nI (P.getD k 0) = 123 := fun u r => u ((nI_eq (b := 123) (by omega) (by decide)).mp r)
    have n44 : ¬ P.getD k 0 = 44 → ¬ nI (P.getD k 0) = 44 := fun u r => u ((nI_eq (b := 44) (by omega) (by decide)).mp r)
    have n125 : ¬ P.getD k 0 = 125 → ¬ nI (P.getD k 0) = 125 := fun u r => u ((nI_eq (b := 125) (by omega) (by decide)).mp r)
    by_cases h1 : P.getD k 0 = 123
    · have hb : bdp (P.getD k 0) q = q + 1 := by rw [h1]; rfl
      have hs : nI (P.getD k 0) = 123 := by rw [h1]; rfl
      have h125 : ¬ nI (P.getD k 0) = 125 := n125 (by omega)
      refine ev_f (fun r => r hs) ?_
      (repeat (first | refine ax_st rfl ?_ | (apply ev_get rfl; assumption; rfl))); try dsimp only
      refine ev_if (fun c1 => ?_) (fun c1 => ?_)
      · (repeat (first | refine ax_st rfl ?_ | (apply ev_get rfl; assumption; rfl))); try dsimp only
        refine ev_t h125 ?_
        (repeat (first | refine ax_st rfl ?_ | (apply ev_get rfl; assumption; rfl))); try dsimp only
        refine ev_if (fun c2 => ?_) (fun c2 => ?_)
        · rw [bls_n hb c2 (fun r => c1 r.1)]
          repeat (first | (exact (e1 _)) | refine ax_st rfl ?_ | (apply ev_get rfl; assumption; rfl))
        · rw [bls_z hb (Decidable.not_not.mp c2)]
          (repeat (first | refine ax_st rfl ?_ | (apply ev_get rfl; assumption; rfl))); try dsimp only
          exact ax_rt rfl
      · have c1 := Decidable.not_not.mp c1
        (repeat (first | refine ax_st rfl ?_ | (apply ev_get rfl; assumption; rfl))); try dsimp only
        refine ev_t hs ?_
        (repeat (first | refine ax_st rfl ?_ | (apply ev_get rfl; assumption; rfl))); try dsimp only
        rw [nI_1 k]
        refine ev_callV rfl hto ⟨rfl, rfl, Nat.le_of_ble_eq_true rfl, Nat.le_of_ble_eq_true rfl⟩ (tx_get ht (nI (k + 1))) ?_
        rw [tg_nI P (by omega)]
        (repeat (first | refine ax_st rfl ?_ | (apply ev_get rfl; assumption; rfl))); try dsimp only
        refine ev_if (fun c2 => ?_) (fun c2 => ?_)
        · rw [bls_n hb (by rw [c1]; decide) (fun r => c2 r.2.2)]
          (repeat (first | refine ax_st rfl ?_ | (apply ev_get rfl; assumption; rfl))); try dsimp only
          refine ev_t h125 ?_
          (repeat (first | refine ax_st rfl ?_ | (apply ev_get rfl; assumption; rfl))); try dsimp only
          refine ev_t (by rw [c1]; decide) ?_
          repeat (first | (exact (e1 _)) | refine ax_st rfl ?_ | (apply ev_get rfl; assumption; rfl))
        · rw [bls_h (hb.trans c1) (Or.inl h1) (Decidable.not_not.mp c2)]
          (repeat (first | refine ax_st rfl ?_ | (apply ev_get rfl; assumption; rfl))); try dsimp only
          rw [show nI k + 3 = nI (k + 3) from nI_add k 3]
          exact ax_rt rfl
    · refine ev_t (n123 h1) ?_
      by_cases h2 : P.getD k 0 = 44
      · have hb : bdp (P.getD k 0) q = q := by rw [h2]; rfl
        have hs : nI (P.getD k 0) = 44 := by rw [h2]; rfl
        have h125 : ¬ nI (P.getD k 0) = 125 := n125 (by omega)
        (repeat (first | refine ax_st rfl ?_ | (apply ev_get rfl; assumption; rfl))); try dsimp only
        refine ev_if (fun c1 => ?_) (fun c1 => ?_)
        · (repeat (first | refine ax_st rfl ?_ | (apply ev_get rfl; assumption; rfl))); try dsimp only
          refine ev_t h125 ?_
          (repeat (first | refine ax_st rfl ?_ | (apply ev_get rfl; assumption; rfl))); try dsimp only
          refine ev_if (fun c2 => ?_) (fun c2 => ?_)
          · rw [bls_n hb c2 (fun r => c1 r.1)]
            repeat (first | (exact (e1 _)) | refine ax_st rfl ?_ | (apply ev_get rfl; assumption; rfl))
          · rw [bls_z hb (Decidable.not_not.mp c2)]
            (repeat (first | refine ax_st rfl ?_ | (apply ev_get rfl; assumption; rfl))); try dsimp only
            exact ax_rt rfl
        · have c1 := Decidable.not_not.mp c1
          (repeat (first | refine ax_st rfl ?_ | (apply ev_get rfl; assumption; rfl))); try dsimp only
          refine ev_f (n123 h1) ?_
          (repeat (first | refine ax_st rfl ?_ | (apply ev_get rfl; assumption; rfl))); try dsimp only
          refine ev_f (fun r => r hs) ?_
          (repeat (first | refine ax_st rfl ?_ | (apply ev_get rfl; assumption; rfl))); try dsimp only
          rw [nI_1 k]
          refine ev_callV rfl hto ⟨rfl, rfl, Nat.le_of_ble_eq_true rfl, Nat.le_of_ble_eq_true rfl⟩ (tx_get ht (nI (k + 1))) ?_
          rw [tg_nI P (by omega)]
          (repeat (first | refine ax_st rfl ?_ | (apply ev_get rfl; assumption; rfl))); try dsimp only
          refine ev_if (fun c2 => ?_) (fun c2 => ?_)
          · rw [bls_n hb (by rw [c1]; decide) (fun r => c2 r.2.2)]
            (repeat (first | refine ax_st rfl ?_ | (apply ev_get rfl; assumption; rfl))); try dsimp only
            refine ev_t h125 ?_
            (repeat (first | refine ax_st rfl ?_ | (apply ev_get rfl; assumption; rfl))); try dsimp only
            refine ev_t (by rw [c1]; decide) ?_
            repeat (first | (exact (e1 _)) | refine ax_st rfl ?_ | (apply ev_get rfl; assumption; rfl))
          · rw [bls_h (hb.trans c1) (Or.inr h2) (Decidable.not_not.mp c2)]
            (repeat (first | refine ax_st rfl ?_ | (apply ev_get rfl; assumption; rfl))); try dsimp only
            rw [show nI k + 3 = nI (k + 3) from nI_add k 3]
            exact ax_rt rfl
      · have hno : ∀ o1 : Int32, ¬ (o1 = 1 ∧ (P.getD k 0 = 123 ∨ P.getD k 0 = 44) ∧ nI (P.getD (k + 1) 0) = 112 + x) := fun o1 r => r.2.1.elim h1 h2
        have go : ∀ (u : Int32), bdp (P.getD k 0) q = u → (¬ u = 0 → Ev (d + 1) 18 17 [some (.inr (some o)), some (.inl x), some (.inl u), some (.inl (nI k + 1)), some (.inl (nI (P.getD k 0)))] [] h (some (.inl (bls P x n (k + 1) u))) h) → Ev (d + 1) 18 58 [some (.inr (some o)), some (.inl x), some (.inl u), some (.inl (nI k)), some (.inl (nI (P.getD k 0)))] [] h (some (.inl (bls P x (n + 1) k q))) h := by
          intro u hu hk2
          (repeat (first | refine ax_st rfl ?_ | (apply ev_get rfl; assumption; rfl))); try dsimp only
          refine ev_if (fun c2 => ?_) (fun c2 => ?_)
          · have e2 := hk2 c2
            rw [bls_n hu c2 (hno _)]
            repeat (first | (exact e2) | refine ax_st rfl ?_ | (apply ev_get rfl; assumption; rfl))
          · rw [bls_z hu (Decidable.not_not.mp c2)]
            (repeat (first | refine ax_st rfl ?_ | (apply ev_get rfl; assumption; rfl))); try dsimp only
            exact ax_rt rfl
        have fin : Ev (d + 1) 18 54 [some (.inr (some o)), some (.inl x), some (.inl q), some (.inl (nI k)), some (.inl (nI (P.getD k 0)))] [] h (some (.inl (bls P x (n + 1) k q))) h := by
          by_cases h3 : P.getD k 0 = 125
          · have hb : bdp (P.getD k 0) q = q + (-1) := by rw [h3]; rfl
            have hs : nI (P.getD k 0) = 125 := by rw [h3]; rfl
            have e2 := go _ hb (fun _ => e1 _)
            (repeat (first | refine ax_st rfl ?_ | (apply ev_get rfl; assumption; rfl))); try dsimp only
            refine ev_f (fun r => r hs) ?_
            repeat (first | (exact e2) | refine ax_st rfl ?_ | (apply ev_get rfl; assumption; rfl))
          · have hb : bdp (P.getD k 0) q = q := by unfold bdp; rw [if_neg h1, if_neg h3]
            have e2 := go _ hb (fun _ => e1 _)
            (repeat (first | refine ax_st rfl ?_ | (apply ev_get rfl; assumption; rfl))); try dsimp only
            refine ev_t (n125 h3) ?_
            repeat (first | (exact e2) | refine ax_st rfl ?_ | (apply ev_get rfl; assumption; rfl))
        (repeat (first | refine ax_st rfl ?_ | (apply ev_get rfl; assumption; rfl))); try dsimp only
        refine ev_if (fun c1 => ?_) (fun c1 => ?_)
        · repeat (first | (exact fin) | refine ax_st rfl ?_ | (apply ev_get rfl; assumption; rfl))
        · (repeat (first | refine ax_st rfl ?_ | (apply ev_get rfl; assumption; rfl))); try dsimp only
          refine ev_f (n123 h1) ?_
          (repeat (first | refine ax_st rfl ?_ | (apply ev_get rfl; assumption; rfl))); try dsimp only
          refine ev_t (n44 h2) ?_
          repeat (first | (exact fin) | refine ax_st rfl ?_ | (apply ev_get rfl; assumption; rfl))
theorem pl_behind {d o t c p : Nat} {e : Bool} {h : ax_H} {P : List Nat} (x : Int32) (a : pl h o t e p) (ht : tx h t c P) (hp : p < 2 ^ 29) : mt (d + 2) 18 [.inr (some o), .inl x] h (some (.inl (pbl P p x))) h := by
  have a0 := a
  unfold pl at a
  unfold pbl
  (repeat (first | refine ax_st rfl ?_ | (apply ev_get rfl; assumption; rfl))); try dsimp only
  refine ev_if (fun c1 => ?_) (fun c1 => ?_)
  · rw [if_neg (fun r => (of_decide_eq_true r.1).1 c1)]
    (repeat (first | refine ax_st rfl ?_ | (apply ev_get rfl; assumption; rfl))); try dsimp only
    exact ax_rt rfl
  · (repeat (first | refine ax_st rfl ?_ | (apply ev_get rfl; assumption; rfl))); try dsimp only
    refine ev_if (fun c2 => ?_) (fun c2 => ?_)
    · rw [if_neg (fun r => (of_decide_eq_true r.1).2 c2)]
      (repeat (first | refine ax_st rfl ?_ | (apply ev_get rfl; assumption; rfl))); try dsimp only
      exact ax_rt rfl
    · (repeat (first | refine ax_st rfl ?_ | (apply ev_get rfl; assumption; rfl))); try dsimp only
      refine ev_callV rfl a ⟨rfl, rfl, Nat.le_of_ble_eq_true rfl, Nat.le_of_ble_eq_true rfl⟩ (pl_action a0 ht (by omega)) ?_
      refine ax_st rfl ?_
      dsimp only
      have hle : pac P p ≤ 2 := by unfold pac; repeat' split
                                   all_goals omega
      refine ev_if (fun c3 => ?_) (fun c3 => ?_)
      · rw [if_pos ⟨decide_eq_true ⟨c1, c2⟩, fun r => c3 (by rw [r]; rfl)⟩]
        have e1 := bl_loop (d := d + 1) (x := x) a0 ht (P.length - (p + 2)) (p + 2) 0 0 none rfl (by omega)
        rw [← nI_add p 2] at e1
        repeat (first | (exact e1) | refine ax_st rfl ?_ | (apply ev_get rfl; assumption; rfl))
      · rw [if_neg (fun r => r.2 ((nI_eq (b := 0) (by omega) (by decide)).mp (Decidable.not_not.mp c3)))]
        (repeat (first | refine ax_st rfl ?_ | (apply ev_get rfl; assumption; rfl))); try dsimp only
        exact ax_rt rfl
/-- the body of the last loop with the variable v that begins before k -/
def lmm (P : List Nat) (v : Nat) : Nat → Option Nat
  | 0 => none
  | k + 1 => if P.getD k 0 = 109 ∧ P.getD (k + 1) 0 = v then some (k + 3) else lmm P v k
def bod (P : List Nat) (v p : Nat) : Nat := (lmm P v p).getD p
theorem lmm_le {P : List Nat} {v q : Nat} : ∀ k, lmm P v k = some q → q ≤ k + 2
  | 0, h => by cases h
  | k + 1, h => by
    unfold lmm at h
    split at h
    · cases h; omega
    · have := lmm_le k h
      omega
theorem bod_loop {d o t c p v : Nat} {e : Bool} {h : ax_H} {P : List Nat} (a : pl h o t e p) (ht : tx h t c P) (hv : v < 65536) : ∀ (k : Nat), k < 2 ^ 30 →
    Ev (d + 1) 21 5 [some (.inr (some o)), some (.inl (nI v)), some (.inl (nI k - 1))] [] h (some (.inl (nI ((lmm P v k).getD p)))) h := by
  unfold pl at a
  have hto := ht.ob
  intro k
  induction k with
  | zero =>
    intro hk
    (repeat (first | refine ax_st rfl ?_ | (apply ev_get rfl; assumption; rfl))); try dsimp only
    exact ax_rt rfl
  | succ k ih =>
    intro hk
    have hc1 := ht.lt k
    have hc2 := ht.lt (k + 1)
    have e1 := ih (by omega)
    rw [Int32.sub_eq_add_neg] at e1
    rw [nI_pred]
    unfold lmm
    (repeat (first | refine ax_st rfl ?_ | (apply ev_get rfl; assumption; rfl))); try dsimp only
    refine ev_f (nI_pos (by omega)) ?_
    (repeat (first | refine ax_st rfl ?_ | (apply ev_get rfl; assumption; rfl))); try dsimp only
    refine ev_callV rfl hto ⟨rfl, rfl, Nat.le_of_ble_eq_true rfl, Nat.le_of_ble_eq_true rfl⟩ (tx_get ht (nI k)) ?_
    rw [tg_nI P (by omega)]
    (repeat (first | refine ax_st rfl ?_ | (apply ev_get rfl; assumption; rfl))); try dsimp only
    refine ev_if (fun c1 => ?_) (fun c1 => ?_)
    · rw [if_neg (fun r => c1 (by rw [r.1]; rfl))]
      repeat (first | (exact e1) | refine ax_st rfl ?_ | (apply ev_get rfl; assumption; rfl))
    · have c1 := (nI_eq (b := 109) (by omega) (by decide)).mp (Decidable.not_not.mp c1)
      (repeat (first | refine ax_st rfl ?_ | (apply ev_get rfl; assumption; rfl))); try dsimp only
      rw [nI_1 k]
      refine ev_callV rfl hto ⟨rfl, rfl, Nat.le_of_ble_eq_true rfl, Nat.le_of_ble_eq_true rfl⟩ (tx_get ht (nI (k + 1))) ?_
      rw [tg_nI P (by omega)]
      (repeat (first | refine ax_st rfl ?_ | (apply ev_get rfl; assumption; rfl))); try dsimp only
      refine ev_if (fun c2 => ?_) (fun c2 => ?_)
      · rw [if_neg (fun r => c2 (by rw [r.2]))]
        repeat (first | (exact e1) | refine ax_st rfl ?_ | (apply ev_get rfl; assumption; rfl))
      · have c2 := (nI_eq (by omega) (by omega)).mp (Decidable.not_not.mp c2)
        rw [if_pos ⟨c1, c2⟩]
        (repeat (first | refine ax_st rfl ?_ | (apply ev_get rfl; assumption; rfl))); try dsimp only
        rw [show nI k + 3 = nI (k + 3) from nI_add k 3]
        exact ax_rt rfl
theorem pl_body {d o t c p v : Nat} {e : Bool} {h : ax_H} {P : List Nat} (a : pl h o t e p) (ht : tx h t c P) (hv : v < 65536) (hp : p < 2 ^ 30) : mt (d + 1) 21 [.inr (some o), .inl (nI v)] h (some (.inl (nI (bod P v p)))) h := by
  have e1 := bod_loop (d := d) a ht hv p hp
  unfold pl at a
  unfold bod
  repeat (first | (exact e1) | refine ax_st rfl ?_ | (apply ev_get rfl; assumption; rfl))
/-- going on at once, at most n times -/
def gon (P : List Nat) : Nat → Nat → Nat
  | 0, p => p
  | n + 1, p => if P.getD p 0 = 109 then gon P n (p + 3) else if isV (P.getD p 0) = true then gon P n (bod P (P.getD p 0) p) else p
theorem bod_le (P : List Nat) (v p : Nat) : bod P v p ≤ p + 2 := by
  unfold bod
  cases h : lmm P v p with
  | none => simp
  | some q => exact lmm_le p h
theorem go_loop {d o t c : Nat} {e : Bool} {P : List Nat} (hne : o ≠ t ∧ o ≠ c) : ∀ (n k p : Nat) (h : ax_H) (w : Option ax_V), k + n = 60 → p + 3 * n < 2 ^ 29 → pl h o t e p → tx h t c P →
    ∃ h', Ev (d + 2) 20 2 [some (.inr (some o)), some (.inl (nI k)), w] [] h none h' ∧ pl h' o t e (gon P n p) ∧ fr h h' (fun q => q = o) := by
  intro n
  induction n with
  | zero =>
    intro k p h w hk hp a ht
    refine ⟨h, ?_, a, fr.rf⟩
    have : k = 60 := by omega
    subst this
    (repeat (first | refine ax_st rfl ?_ | (apply ev_get rfl; assumption; rfl))); try dsimp only
    exact ax_rt rfl
  | succ n ih =>
    intro k p h w hk hp a ht
    have a0 := a
    unfold pl at a
    have hto := ht.ob
    have hc1 := ht.lt p
    have hb := bod_le P (P.getD p 0) p
    have pre : ∀ {h' : ax_H}, Ev (d + 2) 20 13 [some (.inr (some o)), some (.inl (nI k)), some (.inl (nI (P.getD p 0)))] [.inl 109, .inl (nI (P.getD p 0))] h none h' → Ev (d + 2) 20 2 [some (.inr (some o)), some (.inl (nI k)), w] [] h none h' := by
      intro h' e1
      (repeat (first | refine ax_st rfl ?_ | (apply ev_get rfl; assumption; rfl))); try dsimp only
      refine ev_f (fun r => absurd ((nI_leI (a := 60) (by decide) (by omega)).mp r) (by omega)) ?_
      (repeat (first | refine ax_st rfl ?_ | (apply ev_get rfl; assumption; rfl))); try dsimp only
      refine ev_callV rfl hto ⟨rfl, rfl, Nat.le_of_ble_eq_true rfl, Nat.le_of_ble_eq_true rfl⟩ (tx_get ht (nI p)) ?_
      rw [tg_nI P (by omega)]
      repeat (first | (exact e1) | refine ax_st rfl ?_ | (apply ev_get rfl; assumption; rfl))
    unfold gon
    by_cases h1 : P.getD p 0 = 109
    · rw [if_pos h1]
      have a1 := a.st 2 [.inr (some t), .inl (bi e), .inl (nI (p + 3))]
      have hfr : fr h (ax_set h o (.inr (2, [.inr (some t), .inl (bi e), .inl (nI (p + 3))]))) (fun q => q = o) := fr.st rfl
      obtain ⟨h', b1, b2, b3⟩ := ih (k + 1) (p + 3) _ (some (.inl (nI (P.getD p 0)))) (by omega) (by omega) a1 (ht.fr hfr (fun r => hne.1 r.symm) (fun r => hne.2 r.symm))
      refine ⟨h', pre ?_, b2, hfr.tr b3⟩
      rw [← nI_1 k] at b1
      (repeat (first | refine ax_st rfl ?_ | (apply ev_get rfl; assumption; rfl))); try dsimp only
      refine ev_f (fun r => r (by rw [h1]; rfl)) ?_
      (repeat (first | refine ax_st rfl ?_ | (apply ev_get rfl; assumption; rfl))); try dsimp only
      refine ev_put rfl a ?_ ?_ ?_; exact Nat.le_of_ble_eq_true rfl; rfl
      rw [show nI p + 3 = nI (p + 3) from nI_add p 3]
      repeat (first | (exact b1) | refine ax_st rfl ?_ | (apply ev_get rfl; assumption; rfl))
    · rw [if_neg h1]
      have h1' : ¬ nI (P.getD p 0) = 109 := fun r => h1 ((nI_eq (b := 109) (by omega) (by decide)).mp r)
      by_cases h2 : isV (P.getD p 0) = true
      · rw [if_pos h2]
        have a1 := a.st 2 [.inr (some t), .inl (bi e), .inl (nI (bod P (P.getD p 0) p))]
        have hfr : fr h (ax_set h o (.inr (2, [.inr (some t), .inl (bi e), .inl (nI (bod P (P.getD p 0) p))]))) (fun q => q = o) := fr.st rfl
        obtain ⟨h', b1, b2, b3⟩ := ih (k + 1) (bod P (P.getD p 0) p) _ (some (.inl (nI (P.getD p 0)))) (by omega) (by omega) a1 (ht.fr hfr (fun r => hne.1 r.symm) (fun r => hne.2 r.symm))
        refine ⟨h', pre ?_, b2, hfr.tr b3⟩
        rw [← nI_1 k] at b1
        (repeat (first | refine ax_st rfl ?_ | (apply ev_get rfl; assumption; rfl))); try dsimp only
        refine ev_t h1' ?_
        (repeat (first | refine ax_st rfl ?_ | (apply ev_get rfl; assumption; rfl))); try dsimp only
        refine ev_callS rfl ⟨rfl, rfl, Nat.le_of_ble_eq_true rfl, Nat.le_of_ble_eq_true rfl⟩ (p_isVariable hc1) ?_
        refine ax_st rfl ?_
        dsimp only
        refine ev_f (by rw [h2]; decide) ?_
        (repeat (first | refine ax_st rfl ?_ | (apply ev_get rfl; assumption; rfl))); try dsimp only
        refine ev_callV rfl a ⟨rfl, rfl, Nat.le_of_ble_eq_true rfl, Nat.le_of_ble_eq_true rfl⟩ (pl_body a0 ht hc1 (by omega)) ?_
        refine ev_put rfl a ?_ ?_ ?_; exact Nat.le_of_ble_eq_true rfl; rfl
        repeat (first | (exact b1) | refine ax_st rfl ?_ | (apply ev_get rfl; assumption; rfl))
      · rw [if_neg h2]
        refine ⟨h, pre ?_, a0, fr.rf⟩
        (repeat (first | refine ax_st rfl ?_ | (apply ev_get rfl; assumption; rfl))); try dsimp only
        refine ev_t h1' ?_
        (repeat (first | refine ax_st rfl ?_ | (apply ev_get rfl; assumption; rfl))); try dsimp only
        refine ev_callS rfl ⟨rfl, rfl, Nat.le_of_ble_eq_true rfl, Nat.le_of_ble_eq_true rfl⟩ (p_isVariable hc1) ?_
        refine ax_st rfl ?_
        dsimp only
        refine ev_t (by rw [(by simpa using h2 : isV (P.getD p 0) = false)]; rfl) ?_
        exact ax_rt rfl
theorem pl_go {d o t c p : Nat} {e : Bool} {P : List Nat} {h : ax_H} (hne : o ≠ t ∧ o ≠ c) (hp : p < 2 ^ 28) (a : pl h o t e p) (ht : tx h t c P) : ∃ h', mt (d + 2) 20 [.inr (some o)] h none h' ∧ pl h' o t e (gon P 60 p) ∧ fr h h' (fun q => q = o) := by
  obtain ⟨h', b1, b2, b3⟩ := go_loop (d := d) (P := P) hne 60 0 p h none rfl (by omega) a ht
  refine ⟨h', ?_, b2, b3⟩
  repeat (first | (exact b1) | refine ax_st rfl ?_ | (apply ev_get rfl; assumption; rfl))
theorem pl_begin {d o t c p : Nat} {e : Bool} {P : List Nat} {h : ax_H} (hne : o ≠ t ∧ o ≠ c) (a : pl h o t e p) (ht : tx h t c P) : ∃ h', mt (d + 3) 15 [.inr (some o)] h none h' ∧ pl h' o t e (gon P 60 0) ∧ fr h h' (fun q => q = o) := by
  unfold pl at a
  have a1 := a.st 2 [.inr (some t), .inl (bi e), .inl (nI 0)]
  have hfr : fr h (ax_set h o (.inr (2, [.inr (some t), .inl (bi e), .inl (nI 0)]))) (fun q => q = o) := fr.st rfl
  obtain ⟨h', b1, b2, b3⟩ := pl_go (d := d) (P := P) (p := 0) hne (by decide) a1 (ht.fr hfr (fun r => hne.1 r.symm) (fun r => hne.2 r.symm))
  refine ⟨h', ?_, b2, hfr.tr b3⟩
  (repeat (first | refine ax_st rfl ?_ | (apply ev_get rfl; assumption; rfl))); try dsimp only
  refine ev_put rfl a ?_ ?_ ?_; exact Nat.le_of_ble_eq_true rfl; rfl
  refine ax_st rfl ?_
  refine ev_callU rfl a1 ⟨rfl, rfl, Nat.le_of_ble_eq_true rfl, Nat.le_of_ble_eq_true rfl⟩ (b1) ?_
  exact ax_rt rfl
theorem pl_follow {d o t c p : Nat} {e : Bool} {P : List Nat} {h : ax_H} (x : Int32) (hne : o ≠ t ∧ o ≠ c) (hp : p < 2 ^ 20) (a : pl h o t e p) (ht : tx h t c P) (hb : pbl P p x ≠ -1) {q : Nat} (hq : pbl P p x = nI q) (hql : q < 2 ^ 20) : ∃ h', mt (d + 3) 19 [.inr (some o), .inl x] h (some (.inl 1)) h' ∧ pl h' o t e (gon P 60 q) ∧ fr h h' (fun z => z = o) := by
  have a0 := a
  unfold pl at a
  have a1 := a.st 2 [.inr (some t), .inl (bi e), .inl (nI q)]
  have hfr : fr h (ax_set h o (.inr (2, [.inr (some t), .inl (bi e), .inl (nI q)]))) (fun z => z = o) := fr.st rfl
  obtain ⟨h', b1, b2, b3⟩ := pl_go (d := d) (P := P) (p := q) hne (by omega) a1 (ht.fr hfr (fun r => hne.1 r.symm) (fun r => hne.2 r.symm))
  refine ⟨h', ?_, b2, hfr.tr b3⟩
  (repeat (first | refine ax_st rfl ?_ | (apply ev_get rfl; assumption; rfl))); try dsimp only
  refine ev_callV rfl a ⟨rfl, rfl, Nat.le_of_ble_eq_true rfl, Nat.le_of_ble_eq_true rfl⟩ (pl_behind x a0 ht (by omega)) ?_
  (repeat (first | refine ax_st rfl ?_ | (apply ev_get rfl; assumption; rfl))); try dsimp only
  refine ev_t hb ?_
  rw [hq]
  (repeat (first | refine ax_st rfl ?_ | (apply ev_get rfl; assumption; rfl))); try dsimp only
  refine ev_put rfl a ?_ ?_ ?_; exact Nat.le_of_ble_eq_true rfl; rfl
  (repeat (first | refine ax_st rfl ?_ | (apply ev_get rfl; assumption; rfl))); try dsimp only
  refine ev_callU rfl a1 ⟨rfl, rfl, Nat.le_of_ble_eq_true rfl, Nat.le_of_ble_eq_true rfl⟩ (b1) ?_
  (repeat (first | refine ax_st rfl ?_ | (apply ev_get rfl; assumption; rfl))); try dsimp only
  exact ax_rt rfl
theorem pl_followN {d o t c p : Nat} {e : Bool} {P : List Nat} {h : ax_H} (x : Int32) (hp : p < 2 ^ 20) (a : pl h o t e p) (ht : tx h t c P) (hb : pbl P p x = -1) : mt (d + 3) 19 [.inr (some o), .inl x] h (some (.inl 0)) h := by
  have a0 := a
  unfold pl at a
  (repeat (first | refine ax_st rfl ?_ | (apply ev_get rfl; assumption; rfl))); try dsimp only
  refine ev_callV rfl a ⟨rfl, rfl, Nat.le_of_ble_eq_true rfl, Nat.le_of_ble_eq_true rfl⟩ (pl_behind x a0 ht (by omega)) ?_
  (repeat (first | refine ax_st rfl ?_ | (apply ev_get rfl; assumption; rfl))); try dsimp only
  refine ev_f (fun r => r hb) ?_
  (repeat (first | refine ax_st rfl ?_ | (apply ev_get rfl; assumption; rfl))); try dsimp only
  exact ax_rt rfl
