/-! RoleParts.PartWriter. -/
def wr (h : ax_H) (w o rc p : Nat) : Prop := ob h w 1 [.inr (some 2), .inl (nI rc), .inr (some o), .inl (nI p)]
def wA (w o c : Nat) (q : Nat) : Prop := q = w ∨ q = o ∨ q = c
theorem wr.fr {h h' : ax_H} {A : Nat → Prop} {w o rc p : Nat} (a : wr h w o rc p) (f : fr h h' A) (h1 : ¬ A w) : wr h' w o rc p := ob.fr a f h1
theorem wr.st {h : ax_H} {w o rc p : Nat} (a : wr h w o rc p) (p' : Nat) : wr (ax_set h w (.inr (1, [.inr (some 2), .inl (nI rc), .inr (some o), .inl (nI p')]))) w o rc p' := ob.st a _ _
theorem tx.lts {h : ax_H} {o c : Nat} {t : List Nat} (a : tx h o c t) : ∀ x ∈ t, x < 65536 := by
  obtain ⟨-, -, -, -, -, hx, -⟩ := a
  exact hx
/-- closing a loop whose body's part stands behind b -/
theorem w_close {d w o c rc p x : Nat} {h : ax_H} {b y : List Nat} (hd : w ≠ o ∧ w ≠ c ∧ o ≠ c) (a : wr h w o rc p) (t : tx h o c (b ++ y)) (hx : isV x = true) (hl : b.length + y.length + 3 ≤ 60) (hy : 0 < y.length) : ∃ h', mt (d + 3) 10 [.inr (some w), .inl (nI b.length), .inl (nI x)] h (some (.inl 1)) h' ∧ wr h' w o rc p ∧ tx h' o c (b ++ (if y = [x] then [101] else if x ∈ y then 109 :: x :: 46 :: y else y)) ∧ fr h h' (wA w o c) := by
  have a0 := a
  unfold wr at a
  have hto := t.ob
  have hxb := isV_b hx
  have hlen : (b ++ y).length = b.length + y.length := by simp
  have hdrop : (b ++ y).drop b.length = y := by simp
  have wo : ∀ {A : Nat → Prop}, (∀ q, A q → q = o ∨ q = c) → ¬ A w := fun hA q => (hA _ q).elim hd.1 hd.2.1
  have hsz := tx_size (d := d + 2) t
  rw [hlen] at hsz
  have hg0 : (b ++ y).getD b.length 0 = y.getD 0 0 := by have := gd_at b y 0; simpa using this
  have hy0 := t.lt b.length
  rw [hg0] at hy0
  have main : y ≠ [x] → ∃ h', Ev (d + 3) 10 22 [some (.inr (some w)), some (.inl (nI b.length)), some (.inl (nI x))] [] h (some (.inl 1)) h' ∧ wr h' w o rc p ∧ tx h' o c (b ++ (if x ∈ y then 109 :: x :: 46 :: y else y)) ∧ fr h h' (wA w o c) := by
    intro hne
    have hh := tx_has (d := d + 1) (x := x) (k := b.length) t (by omega) (by rw [hlen]; omega)
    rw [hdrop] at hh
    by_cases hm : x ∈ y
    · rw [if_pos hm] at hh ⊢
      obtain ⟨h1, e1, t1, f1⟩ := tx_insert (d := d + 2) t (k := b.length) (x := 46) (by rw [hlen]; omega) (by decide) (by rw [hlen]; omega)
      rw [List.take_left' rfl, hdrop] at t1
      have a1 := a.fr f1 (wo (fun q z => z))
      obtain ⟨h2, e2, t2, f2⟩ := tx_insert (d := d + 2) t1 (k := b.length) (x := x) (by simp) (by omega) (by simp; omega)
      rw [List.take_left' rfl, List.drop_left' rfl] at t2
      have a2 := a1.fr f2 (wo (fun q z => z))
      obtain ⟨h3, e3, t3, f3⟩ := tx_insert (d := d + 2) t2 (k := b.length) (x := 109) (by simp) (by decide) (by simp; omega)
      rw [List.take_left' rfl, List.drop_left' rfl] at t3
      have a3 := a2.fr f3 (wo (fun q z => z))
      have hto1 := t1.ob
      have hto2 := t2.ob
      refine ⟨h3, ?_, a3, t3, ((f1.tr f2).tr f3).wk (fun q z => Or.inr z)⟩
      (repeat (first | refine ax_st rfl ?_ | (apply ev_get rfl; assumption; rfl))); try dsimp only
      refine ev_callV rfl hto ⟨rfl, rfl, Nat.le_of_ble_eq_true rfl, Nat.le_of_ble_eq_true rfl⟩ (hh) ?_
      (repeat (first | refine ax_st rfl ?_ | (apply ev_get rfl; assumption; rfl))); try dsimp only
      refine ev_callV rfl hto ⟨rfl, rfl, Nat.le_of_ble_eq_true rfl, Nat.le_of_ble_eq_true rfl⟩ (e1) ?_
      (repeat (first | refine ax_st rfl ?_ | (apply ev_get rfl; assumption; rfl))); try dsimp only
      refine ev_callV rfl hto1 ⟨rfl, rfl, Nat.le_of_ble_eq_true rfl, Nat.le_of_ble_eq_true rfl⟩ (e2) ?_
      (repeat (first | refine ax_st rfl ?_ | (apply ev_get rfl; assumption; rfl))); try dsimp only
      refine ev_callV rfl hto2 ⟨rfl, rfl, Nat.le_of_ble_eq_true rfl, Nat.le_of_ble_eq_true rfl⟩ (e3) ?_
      (repeat (first | refine ax_st rfl ?_ | (apply ev_get rfl; assumption; rfl))); try dsimp only
      exact ax_rt rfl
    · rw [if_neg hm] at hh ⊢
      refine ⟨h, ?_, a0, t, fr.rf⟩
      (repeat (first | refine ax_st rfl ?_ | (apply ev_get rfl; assumption; rfl))); try dsimp only
      refine ev_callV rfl hto ⟨rfl, rfl, Nat.le_of_ble_eq_true rfl, Nat.le_of_ble_eq_true rfl⟩ (hh) ?_
      (repeat (first | refine ax_st rfl ?_ | (apply ev_get rfl; assumption; rfl))); try dsimp only
      exact ax_rt rfl
  by_cases hq : y = [x]
  · rw [if_pos hq]
    obtain ⟨h1, e1, t1, f1⟩ := tx_shorten (d := d + 2) t (k := b.length) (by rw [hlen]; omega)
    rw [List.take_left' rfl] at t1
    have a1 := a.fr f1 hd.1
    obtain ⟨h2, e2, t2, f2⟩ := tx_append (d := d + 1) t1 (x := 101) (by decide) (by omega)
    have a2 := a1.fr f2 (wo (fun q z => z))
    have hto1 := t1.ob
    refine ⟨h2, ?_, a2, t2, (f1.wk (fun q z => Or.inr (Or.inl z))).tr (f2.wk (fun q z => Or.inr z))⟩
    subst hq
    (repeat (first | refine ax_st rfl ?_ | (apply ev_get rfl; assumption; rfl))); try dsimp only
    refine ev_callV rfl hto ⟨rfl, rfl, Nat.le_of_ble_eq_true rfl, Nat.le_of_ble_eq_true rfl⟩ (hsz) ?_
    (repeat (first | refine ax_st rfl ?_ | (apply ev_get rfl; assumption; rfl))); try dsimp only
    rw [nI_1]
    refine ev_f (fun q => q rfl) ?_
    (repeat (first | refine ax_st rfl ?_ | (apply ev_get rfl; assumption; rfl))); try dsimp only
    refine ev_callV rfl hto ⟨rfl, rfl, Nat.le_of_ble_eq_true rfl, Nat.le_of_ble_eq_true rfl⟩ (tx_get t (nI b.length)) ?_
    rw [tg_nI _ (by omega), hg0]
    (repeat (first | refine ax_st rfl ?_ | (apply ev_get rfl; assumption; rfl))); try dsimp only
    refine ev_f (fun q => q rfl) ?_
    (repeat (first | refine ax_st rfl ?_ | (apply ev_get rfl; assumption; rfl))); try dsimp only
    refine ev_callU rfl hto ⟨rfl, rfl, Nat.le_of_ble_eq_true rfl, Nat.le_of_ble_eq_true rfl⟩ (e1) ?_
    (repeat (first | refine ax_st rfl ?_ | (apply ev_get rfl; assumption; rfl))); try dsimp only
    refine ev_callV rfl hto1 ⟨rfl, rfl, Nat.le_of_ble_eq_true rfl, Nat.le_of_ble_eq_true rfl⟩ (e2) ?_
    exact ax_rt rfl
  · rw [if_neg hq]
    obtain ⟨h', m1, m2, m3, m4⟩ := main hq
    refine ⟨h', ?_, m2, m3, m4⟩
    (repeat (first | refine ax_st rfl ?_ | (apply ev_get rfl; assumption; rfl))); try dsimp only
    refine ev_callV rfl hto ⟨rfl, rfl, Nat.le_of_ble_eq_true rfl, Nat.le_of_ble_eq_true rfl⟩ (hsz) ?_
    (repeat (first | refine ax_st rfl ?_ | (apply ev_get rfl; assumption; rfl))); try dsimp only
    rw [nI_1]
    refine ev_if (fun c1 => ?_) (fun c1 => ?_)
    · repeat (first | (exact m1) | refine ax_st rfl ?_ | (apply ev_get rfl; assumption; rfl))
    · have c1 := (nI_eq (by omega) (by omega)).mp (Decidable.not_not.mp c1)
      (repeat (first | refine ax_st rfl ?_ | (apply ev_get rfl; assumption; rfl))); try dsimp only
      refine ev_callV rfl hto ⟨rfl, rfl, Nat.le_of_ble_eq_true rfl, Nat.le_of_ble_eq_true rfl⟩ (tx_get t (nI b.length)) ?_
      rw [tg_nI _ (by omega), hg0]
      (repeat (first | refine ax_st rfl ?_ | (apply ev_get rfl; assumption; rfl))); try dsimp only
      refine ev_t (fun q => hq ?_) ?_
      · have q := (nI_eq (by omega) (by omega)).mp q
        obtain ⟨z, rfl⟩ := List.length_eq_one_iff.mp (show y.length = 1 by omega)
        simp at q
        rw [q]
      · repeat (first | (exact m1) | refine ax_st rfl ?_ | (apply ev_get rfl; assumption; rfl))
