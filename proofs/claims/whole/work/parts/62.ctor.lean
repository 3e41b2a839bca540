/-! The constructors: cells come into being. -/
def fg (h h' : ax_H) (c s : Nat) (A : Nat → Prop) : Prop := h'.1 = h.1 + c ∧ h'.2.1 = h.2.1 + s ∧ ∀ q, q < h.1 → ¬ A q → h'.2.2 q = h.2.2 q
theorem fg.tr {h h1 h2 : ax_H} {c c' s s' : Nat} {A B : Nat → Prop} (a : fg h h1 c s A) (b : fg h1 h2 c' s' B) (hB : ∀ q, q < h.1 → B q → A q) : fg h h2 (c + c') (s + s') A := ⟨by rw [b.1, a.1]; omega, by rw [b.2.1, a.2.1]; omega, fun q h1 h2 => (b.2.2 q (by rw [a.1]; omega) (fun z => h2 (hB q h1 z))).trans (a.2.2 q h1 h2)⟩
theorem fg.st {h : ax_H} {o : Nat} {c : ax_C} {A : Nat → Prop} (hA : A o) : fg h (ax_set h o c) 0 0 A := ⟨rfl, rfl, fun q _ hq => ax_set_ne h c (fun z => hq (by rw [z]; exact hA))⟩
theorem fg.pu {h : ax_H} {n : Nat} {c : ax_C} {A : Nat → Prop} : fg h (ax_push h n c) 1 n A := ⟨rfl, rfl, fun q hq _ => by
  show ax_up h.2.2 h.1 c q = h.2.2 q
  unfold ax_up
  rw [if_neg (by omega)]⟩
theorem ob.fg {h h' : ax_H} {c s : Nat} {A : Nat → Prop} {o ci : Nat} {fs : List ax_V} (a : ob h o ci fs) (f : fg h h' c s A) (hA : ¬ A o) : ob h' o ci fs := ⟨by rw [f.2.2 o a.2.2 hA]; exact a.1, a.2.1, by rw [f.1]; have := a.2.2; omega⟩
theorem ar.fg {h h' : ax_H} {c s : Nat} {A : Nat → Prop} {o t n : Nat} {g : Nat → Int32} (a : ar h o t n g) (f : fg h h' c s A) (hA : ¬ A o) : ar h' o t n g := ⟨by rw [f.2.2 o a.2.2 hA]; exact a.1, a.2.1, by rw [f.1]; have := a.2.2; omega⟩
theorem aq.fg {h h' : ax_H} {c s : Nat} {A : Nat → Prop} {o t n : Nat} {g : Nat → Option Nat} (a : aq h o t n g) (f : fg h h' c s A) (hA : ¬ A o) : aq h' o t n g := ⟨by rw [f.2.2 o a.2.2 hA]; exact a.1, a.2.1, by rw [f.1]; have := a.2.2; omega⟩
theorem tx.fg {h h' : ax_H} {c s : Nat} {A : Nat → Prop} {o k : Nat} {t : List Nat} (a : tx h o k t) (f : fg h h' c s A) (h1 : ¬ A o) (h2 : ¬ A k) : tx h' o k t := by
  obtain ⟨g, x1, x2, x3⟩ := a
  exact ⟨g, x1.fg f h1, x2.fg f h2, x3⟩
theorem rw0.fg {h h' : ax_H} {c s : Nat} {A : Nat → Prop} {o k : Nat} {t : List Int32} (a : rw0 h o k t) (f : fg h h' c s A) (h1 : ¬ A o) (h2 : ¬ A k) : rw0 h' o k t := by
  obtain ⟨g, x1, x2, x3⟩ := a
  exact ⟨g, x1.fg f h1, x2.fg f h2, x3⟩
theorem ob_pu {h : ax_H} {n ci : Nat} {fs : List ax_V} (hp : 0 < h.1) : ob (ax_push h n (.inr (ci, fs))) h.1 ci fs := ⟨by
  show ax_up h.2.2 h.1 _ h.1 = _
  unfold ax_up
  rw [if_pos rfl], hp, Nat.lt_succ_self _⟩
theorem ar_pu {h : ax_H} {k t n : Nat} {g : Nat → Int32} (hp : 0 < h.1) : ar (ax_push h k (.inl (t, n, .inl g))) h.1 t n g := ⟨by
  show ax_up h.2.2 h.1 _ h.1 = _
  unfold ax_up
  rw [if_pos rfl], hp, Nat.lt_succ_self _⟩
theorem aq_pu {h : ax_H} {k t n : Nat} {g : Nat → Option Nat} (hp : 0 < h.1) : aq (ax_push h k (.inl (t, n, .inr g))) h.1 t n g := ⟨by
  show ax_up h.2.2 h.1 _ h.1 = _
  unfold ax_up
  rw [if_pos rfl], hp, Nat.lt_succ_self _⟩
section CTR
variable {d : Nat} {h : ax_H}
theorem k_text {o : Nat} (ho : ob h o 5 [.inr none, .inl 0]) : ∃ h', mt d 37 [.inr (some o)] h none h' ∧ tx h' o h.1 [] ∧ fg h h' 1 60 (fun q => q = o) := by
  have hp : 0 < h.1 := Nat.lt_trans ho.2.1 ho.2.2
  have f1 : fg h (ax_push h 60 (.inl (1, 60, .inl (fun _ => 0)))) 1 60 (fun q => q = o) := fg.pu
  have o1 := ho.fg (fg.pu (n := 60) (c := .inl (1, 60, .inl (fun _ => 0))) (A := fun _ => False)) (fun z => z)
  have a1 : ar (ax_push h 60 (.inl (1, 60, .inl (fun _ => 0)))) h.1 1 60 (fun _ => 0) := ar_pu hp
  have o2 := o1.st 5 [.inr (some h.1), .inl 0]
  have o3 := o2.st 5 [.inr (some h.1), .inl (nI 0)]
  have hne : h.1 ≠ o := fun z => absurd ho.2.2 (by omega)
  refine ⟨_, ?_, ⟨fun _ => 0, o3, (a1.ne _ hne).ne _ hne, Nat.zero_le _, fun k hk => absurd hk (Nat.not_lt_zero _), (fun x hx => by cases hx), fun _ => cf_nI (x := 0) (by decide)⟩, (f1.tr (fg.st (A := fun q => q = o) rfl) (fun q _ z => z)).tr (fg.st (A := fun q => q = o) rfl) (fun q _ z => z)⟩
  iterate 4 (refine ax_st rfl ?_)
  refine ax_st (h1 := ax_push h 60 (.inl (1, 60, .inl (fun _ => 0)))) rfl ?_
  refine ev_put rfl o1 ?_ ?_ ?_; exact Nat.le_of_ble_eq_true rfl; rfl
  (repeat (first | refine ax_st rfl ?_ | (apply ev_get rfl; assumption; rfl))); try dsimp only
  refine ev_put rfl o2 ?_ ?_ ?_; exact Nat.le_of_ble_eq_true rfl; rfl
  exact ax_rt rfl
theorem k_row {o : Nat} (ho : ob h o 3 [.inr none, .inl 0]) : ∃ h', mt d 22 [.inr (some o)] h none h' ∧ rw0 h' o h.1 [] ∧ fg h h' 1 3 (fun q => q = o) := by
  have hp : 0 < h.1 := Nat.lt_trans ho.2.1 ho.2.2
  have f1 : fg h (ax_push h 3 (.inl (0, 3, .inl (fun _ => 0)))) 1 3 (fun q => q = o) := fg.pu
  have o1 := ho.fg (fg.pu (n := 3) (c := .inl (0, 3, .inl (fun _ => 0))) (A := fun _ => False)) (fun z => z)
  have a1 : ar (ax_push h 3 (.inl (0, 3, .inl (fun _ => 0)))) h.1 0 3 (fun _ => 0) := ar_pu hp
  have o2 := o1.st 3 [.inr (some h.1), .inl 0]
  have o3 := o2.st 3 [.inr (some h.1), .inl (nI 0)]
  have hne : h.1 ≠ o := fun z => absurd ho.2.2 (by omega)
  refine ⟨_, ?_, ⟨fun _ => 0, o3, (a1.ne _ hne).ne _ hne, Nat.zero_le _, fun k hk => absurd hk (Nat.not_lt_zero _)⟩, (f1.tr (fg.st (A := fun q => q = o) rfl) (fun q _ z => z)).tr (fg.st (A := fun q => q = o) rfl) (fun q _ z => z)⟩
  iterate 4 (refine ax_st rfl ?_)
  refine ax_st (h1 := ax_push h 3 (.inl (0, 3, .inl (fun _ => 0)))) rfl ?_
  refine ev_put rfl o1 ?_ ?_ ?_; exact Nat.le_of_ble_eq_true rfl; rfl
  (repeat (first | refine ax_st rfl ?_ | (apply ev_get rfl; assumption; rfl))); try dsimp only
  refine ev_put rfl o2 ?_ ?_ ?_; exact Nat.le_of_ble_eq_true rfl; rfl
  exact ax_rt rfl
theorem k_gram {o : Nat} (ho : ob h o 0 [.inl 0, .inl 0]) : ∃ h', mt d 0 [.inr (some o)] h none h' ∧ ob h' o 0 [.inl 0, .inl 0] ∧ fg h h' 0 0 (fun q => q = o) := by
  have o1 := ho.st 0 [.inl 0, .inl 0]
  have o2 := o1.st 0 [.inl 0, .inl 0]
  refine ⟨_, ?_, o2, (fg.st (A := fun q => q = o) rfl).tr (fg.st (A := fun q => q = o) rfl) (fun q _ z => z)⟩
  (repeat (first | refine ax_st rfl ?_ | (apply ev_get rfl; assumption; rfl))); try dsimp only
  refine ev_put rfl ho ?_ ?_ ?_; exact Nat.le_of_ble_eq_true rfl; rfl
  (repeat (first | refine ax_st rfl ?_ | (apply ev_get rfl; assumption; rfl))); try dsimp only
  refine ev_put rfl o1 ?_ ?_ ?_; exact Nat.le_of_ble_eq_true rfl; rfl
  exact ax_rt rfl
theorem k_snd {o : Nat} (ho : ob h o 4 [.inr none, .inr none, .inl 0, .inl 0]) : ∃ h', mt d 29 [.inr (some o)] h none h' ∧ ob h' o 4 [.inr (some h.1), .inr (some (h.1 + 1)), .inl (nI 0), .inl 0] ∧ ar h' h.1 0 60 (fun _ => 0) ∧ ar h' (h.1 + 1) 0 60 (fun _ => 0) ∧ fg h h' 2 120 (fun q => q = o) := by
  have hp : 0 < h.1 := Nat.lt_trans ho.2.1 ho.2.2
  have f1 : fg h (ax_push h 60 (.inl (0, 60, .inl (fun _ => 0)))) 1 60 (fun q => q = o) := fg.pu
  have o1 := ho.fg (fg.pu (n := 60) (c := .inl (0, 60, .inl (fun _ => 0))) (A := fun _ => False)) (fun z => z)
  have a1 : ar (ax_push h 60 (.inl (0, 60, .inl (fun _ => 0)))) h.1 0 60 (fun _ => 0) := ar_pu hp
  have hne : h.1 ≠ o := fun z => absurd ho.2.2 (by omega)
  have hne2 : h.1 + 1 ≠ o := fun z => absurd ho.2.2 (by omega)
  have o2 := o1.st 4 [.inr (some h.1), .inr none, .inl 0, .inl 0]
  have a2 := a1.ne (.inr (4, [.inr (some h.1), .inr none, .inl 0, .inl 0])) hne
  have f2 := f1.tr (fg.st (o := o) (c := .inr (4, [.inr (some h.1), .inr none, .inl 0, .inl 0])) (A := fun q => q = o) rfl) (fun q _ z => z)
  generalize hh : ax_set (ax_push h 60 (.inl (0, 60, .inl (fun _ => 0)))) o (.inr (4, [.inr (some h.1), .inr none, .inl 0, .inl 0])) = g at o2 a2 f2
  have hg1 : g.1 = h.1 + 1 := f2.1
  have o3 := o2.fg (fg.pu (n := 60) (c := .inl (0, 60, .inl (fun _ => 0))) (A := fun _ => False)) (fun z => z)
  have a3 := a2.fg (fg.pu (n := 60) (c := .inl (0, 60, .inl (fun _ => 0))) (A := fun _ => False)) (fun z => z)
  have b3 : ar (ax_push g 60 (.inl (0, 60, .inl (fun _ => 0)))) g.1 0 60 (fun _ => 0) := ar_pu (by omega)
  have f3 := f2.tr (fg.pu (n := 60) (c := .inl (0, 60, .inl (fun _ => 0))) (A := fun q => q = o)) (fun q _ z => z)
  rw [hg1] at b3
  have o4 := o3.st 4 [.inr (some h.1), .inr (some (h.1 + 1)), .inl 0, .inl 0]
  have o5 := o4.st 4 [.inr (some h.1), .inr (some (h.1 + 1)), .inl (nI 0), .inl 0]
  have o6 := o5.st 4 [.inr (some h.1), .inr (some (h.1 + 1)), .inl (nI 0), .inl 0]
  refine ⟨_, ?_, o6, ((a3.ne _ hne).ne _ hne).ne _ hne, ((b3.ne _ hne2).ne _ hne2).ne _ hne2, ((f3.tr (fg.st (A := fun q => q = o) rfl) (fun q _ z => z)).tr (fg.st (A := fun q => q = o) rfl) (fun q _ z => z)).tr (fg.st (A := fun q => q = o) rfl) (fun q _ z => z)⟩
  iterate 4 (refine ax_st rfl ?_)
  refine ax_st (h1 := ax_push h 60 (.inl (0, 60, .inl (fun _ => 0)))) rfl ?_
  refine ev_put rfl o1 ?_ ?_ ?_; exact Nat.le_of_ble_eq_true rfl; rfl
  show Ev d 29 6 _ _ (ax_set (ax_push h 60 (.inl (0, 60, .inl (fun _ => 0)))) o (.inr (4, [.inr (some h.1), .inr none, .inl 0, .inl 0]))) _ _
  rw [hh]
  iterate 2 (refine ax_st rfl ?_)
  refine ax_st (h1 := ax_push g 60 (.inl (0, 60, .inl (fun _ => 0)))) (st1 := [.inr (some g.1), .inr (some o)]) rfl ?_
  rw [hg1]
  refine ev_put rfl o3 ?_ ?_ ?_; exact Nat.le_of_ble_eq_true rfl; rfl
  (repeat (first | refine ax_st rfl ?_ | (apply ev_get rfl; assumption; rfl))); try dsimp only
  refine ev_put rfl o4 ?_ ?_ ?_; exact Nat.le_of_ble_eq_true rfl; rfl
  (repeat (first | refine ax_st rfl ?_ | (apply ev_get rfl; assumption; rfl))); try dsimp only
  refine ev_put rfl o5 ?_ ?_ ?_; exact Nat.le_of_ble_eq_true rfl; rfl
  exact ax_rt rfl
theorem k_play {o t : Nat} (ho : ob h o 2 [.inr none, .inl 0, .inl 0]) : ∃ h', mt d 14 [.inr (some o), .inr (some t)] h none h' ∧ pl h' o t false 0 ∧ fg h h' 0 0 (fun q => q = o) := by
  have o1 := ho.st 2 [.inr none, .inl 0, .inl 0]
  have o2 := o1.st 2 [.inr none, .inl 0, .inl 0]
  have o3 := o2.st 2 [.inr (some t), .inl (bi false), .inl (nI 0)]
  refine ⟨_, ?_, o3, ((fg.st (A := fun q => q = o) rfl).tr (fg.st (A := fun q => q = o) rfl) (fun q _ z => z)).tr (fg.st (A := fun q => q = o) rfl) (fun q _ z => z)⟩
  (repeat (first | refine ax_st rfl ?_ | (apply ev_get rfl; assumption; rfl))); try dsimp only
  refine ev_put rfl ho ?_ ?_ ?_; exact Nat.le_of_ble_eq_true rfl; rfl
  (repeat (first | refine ax_st rfl ?_ | (apply ev_get rfl; assumption; rfl))); try dsimp only
  refine ev_put rfl o1 ?_ ?_ ?_; exact Nat.le_of_ble_eq_true rfl; rfl
  (repeat (first | refine ax_st rfl ?_ | (apply ev_get rfl; assumption; rfl))); try dsimp only
  refine ev_put rfl o2 ?_ ?_ ?_; exact Nat.le_of_ble_eq_true rfl; rfl
  exact ax_rt rfl
theorem k_wri {o t rc : Nat} (hrc : rc < 65536) (ho : ob h o 1 [.inr none, .inl 0, .inr none, .inl 0]) : ∃ h', mt d 6 [.inr (some o), .inr (some 2), .inl (nI rc), .inr (some t)] h none h' ∧ wr h' o t rc 0 ∧ fg h h' 0 0 (fun q => q = o) := by
  have o1 := ho.st 1 [.inr none, .inl 0, .inr none, .inl 0]
  have o2 := o1.st 1 [.inr (some 2), .inl 0, .inr none, .inl 0]
  have o3 := o2.st 1 [.inr (some 2), .inl (nI rc), .inr none, .inl 0]
  have o4 := o3.st 1 [.inr (some 2), .inl (nI rc), .inr (some t), .inl (nI 0)]
  refine ⟨_, ?_, o4, (((fg.st (A := fun q => q = o) rfl).tr (fg.st (A := fun q => q = o) rfl) (fun q _ z => z)).tr (fg.st (A := fun q => q = o) rfl) (fun q _ z => z)).tr (fg.st (A := fun q => q = o) rfl) (fun q _ z => z)⟩
  (repeat (first | refine ax_st rfl ?_ | (apply ev_get rfl; assumption; rfl))); try dsimp only
  refine ev_put rfl ho ?_ ?_ ?_; exact Nat.le_of_ble_eq_true rfl; rfl
  (repeat (first | refine ax_st rfl ?_ | (apply ev_get rfl; assumption; rfl))); try dsimp only
  refine ev_put rfl o1 ?_ ?_ ?_; exact Nat.le_of_ble_eq_true rfl; rfl
  (repeat (first | refine ax_st rfl ?_ | (apply ev_get rfl; assumption; rfl))); try dsimp only
  refine ev_put rfl o2 (Nat.le_of_ble_eq_true rfl) (cf_fit (cf_nI hrc)) ?_
  (repeat (first | refine ax_st rfl ?_ | (apply ev_get rfl; assumption; rfl))); try dsimp only
  refine ev_put rfl o3 ?_ ?_ ?_; exact Nat.le_of_ble_eq_true rfl; rfl
  exact ax_rt rfl
end CTR
theorem ev_aast {d j i : Nat} {L : ax_L} {st : List ax_V} {h : ax_H} {r : Option ax_V} {h' : ax_H} {o t n nx v ci : Nat} {fs : List ax_V} {f : Nat → Option Nat} {x : Int32} (hP : ax_P j i = ax_aast nx) (ho : aq h o t n f) (hv : ob h v ci fs) (ht : 2 ≤ t ∧ t ≤ 4) (hc : ci = ax_ec t) (hi : ax_in x n = true) (kk : Ev d j nx L st (ax_set h o (.inl (t, n, .inr (va_up f x.toNatClampNeg (some v))))) r h') : Ev d j i L (.inr (some v) :: .inl x :: .inr (some o) :: st) h r h' := by
  refine ax_st (i1 := nx) (L1 := L) (st1 := st) (h1 := ax_set h o (.inl (t, n, .inr (va_up f x.toNatClampNeg (some v))))) ?_ kk
  rw [hP]
  simp only [ax_aast, ho.1, hv.1]
  rw [if_pos ⟨ht.1, ht.2, ho.2.1, ho.2.2, hi, hv.2.1, hv.2.2, hc⟩]
