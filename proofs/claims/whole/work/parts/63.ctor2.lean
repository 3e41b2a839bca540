/-! The constructor of RoleParts. -/
def KZ (d j i : Nat) (L : ax_L) (st : List ax_V) (h : ax_H) (Φ : ax_H → Prop) : Prop := ∃ h', Ev d j i L st h none h' ∧ Φ h'
section KZS
variable {d j i : Nat} {L : ax_L} {st : List ax_V} {h : ax_H} {Φ : ax_H → Prop}
theorem kz_st {i1 : Nat} {L1 : ax_L} {st1 : List ax_V} (hs : ax_P j i L st h = some (.inl (i1, L1, st1, h))) (k : KZ d j i1 L1 st1 h Φ) : KZ d j i L st h Φ := by
  obtain ⟨h', e, q⟩ := k
  exact ⟨h', ax_st hs e, q⟩
theorem kz_get {o ci k nx : Nat} {fs : List ax_V} {v : ax_V} (hP : ax_P j i = ax_get ci k nx) (ho : ob h o ci fs) (hv : fs[k]? = some v) (kk : KZ d j nx L (v :: st) h Φ) : KZ d j i L (.inr (some o) :: st) h Φ := by
  obtain ⟨h', e, q⟩ := kk
  exact ⟨h', ev_get hP ho hv e, q⟩
theorem kz_put {o ci k ty nx : Nat} {fs : List ax_V} {v : ax_V} (hP : ax_P j i = ax_put ci k ty nx) (ho : ob h o ci fs) (hk : k < fs.length) (hf : ax_fit ty v = true) (kk : ∀ h1, ob h1 o ci (fs.set k v) → fg h h1 0 0 (fun q => q = o) → KZ d j nx L st h1 Φ) : KZ d j i L (v :: .inr (some o) :: st) h Φ := by
  obtain ⟨h', e, q⟩ := kk _ (ho.st ci (fs.set k v)) (fg.st rfl)
  exact ⟨h', ev_put hP ho hk hf e, q⟩
theorem kz_new {ci n nx : Nat} {fs : List ax_V} (hP : ax_P j i = ax_new ci fs nx) (hn : h.1 = n) (hp : 0 < n) (kk : ∀ h1, ob h1 n ci fs → fg h h1 1 fs.length (fun _ => False) → KZ d j nx L (.inr (some n) :: st) h1 Φ) : KZ d j i L st h Φ := by
  subst hn
  obtain ⟨h', e, q⟩ := kk _ (ob_pu hp) fg.pu
  refine ⟨h', ax_st (i1 := nx) (L1 := L) (st1 := .inr (some h.1) :: st) (h1 := ax_push h fs.length (.inr (ci, fs))) ?_ e, q⟩
  rw [hP]
  rfl
theorem kz_newq {t n c nx : Nat} (hP : ax_P j i = ax_newq t nx) (hn : h.1 = n) (hp : 0 < n) (hc : c ≤ 20000) (kk : ∀ h1, aq h1 n t c (fun _ => none) → fg h h1 1 c (fun _ => False) → KZ d j nx L (.inr (some n) :: st) h1 Φ) : KZ d j i L (.inl (nI c) :: st) h Φ := by
  subst hn
  obtain ⟨h', e, q⟩ := kk _ (aq_pu hp) fg.pu
  refine ⟨h', ax_st (i1 := nx) (L1 := L) (st1 := .inr (some h.1) :: st) (h1 := ax_push h c (.inl (t, c, .inr (fun _ => none)))) ?_ e, q⟩
  rw [hP]
  unfold ax_newq
  dsimp only
  rw [nI_clamp (by omega), if_pos ⟨nI_pos (by omega), hc⟩]
theorem kz_newa {t n c nx : Nat} (hP : ax_P j i = ax_newa t nx) (hn : h.1 = n) (hp : 0 < n) (hc : c ≤ 20000) (kk : ∀ h1, ar h1 n t c (fun _ => 0) → fg h h1 1 c (fun _ => False) → KZ d j nx L (.inr (some n) :: st) h1 Φ) : KZ d j i L (.inl (nI c) :: st) h Φ := by
  subst hn
  obtain ⟨h', e, q⟩ := kk _ (ar_pu hp) fg.pu
  refine ⟨h', ax_st (i1 := nx) (L1 := L) (st1 := .inr (some h.1) :: st) (h1 := ax_push h c (.inl (t, c, .inl (fun _ => 0)))) ?_ e, q⟩
  rw [hP]
  unfold ax_newa
  dsimp only
  rw [nI_clamp (by omega), if_pos ⟨nI_pos (by omega), hc⟩]
theorem kz_aast {o t n nx v ci k : Nat} {fs : List ax_V} {f : Nat → Option Nat} (hP : ax_P j i = ax_aast nx) (ho : aq h o t n f) (hv : ob h v ci fs) (ht : 2 ≤ t ∧ t ≤ 4) (hc : ci = ax_ec t) (hk : k < n) (hn : n < 1000) (kk : ∀ h1, aq h1 o t n (va_up f k (some v)) → fg h h1 0 0 (fun q => q = o) → KZ d j nx L st h1 Φ) : KZ d j i L (.inr (some v) :: .inl (nI k) :: .inr (some o) :: st) h Φ := by
  obtain ⟨h', e, q⟩ := kk (ax_set h o (.inl (t, n, .inr (va_up f k (some v))))) ⟨ax_set_self _ _ _, ho.2.1, ho.2.2⟩ (fg.st rfl)
  refine ⟨h', ev_aast hP ho hv ht hc (in_nI hk (by omega)) ?_, q⟩
  rw [nI_clamp (by omega)]
  exact e
theorem kz_call {o k n nx : Nat} {as st1 : List ax_V} {Ψ : ax_H → Prop} (hP : ax_P j i = ax_callI k n nx) (hst : st.drop n = .inr (some o) :: st1 ∧ (st.take n).reverse = as ∧ n ≤ st.length ∧ st1.length ≤ 8) (kc : ∃ h1, mt d k (.inr (some o) :: as) h none h1 ∧ Ψ h1) (kk : ∀ h1, Ψ h1 → KZ (d + 1) j nx L st1 h1 Φ) : KZ (d + 1) j i L st h Φ := by
  obtain ⟨h1, e1, q1⟩ := kc
  obtain ⟨h', e, q⟩ := kk h1 q1
  exact ⟨h', ev_callI hP hst e1 e, q⟩
end KZS
/-- what stands once the first part of the constructor is done, then r roles, k rows -/
def IR (h : ax_H) (r k : Nat) : Prop := rob h (-1) false 0 ∧ tx h 2 3 [] ∧ ob h 4 0 [.inl 0, .inl 0] ∧ sn h 0 0 (fun _ => 0) (fun _ => 0) ∧ (∃ f, aq h 8 2 4 f ∧ ∀ s, s < r → f s = some (13 + 4 * s)) ∧ (∃ f, aq h 9 3 4 f ∧ ∀ s, s < r → f s = some (14 + 4 * s)) ∧ (∃ f, aq h 10 4 16 f ∧ ∀ s, s < k → f s = some (27 + 2 * s)) ∧ (∀ s, s < r → RR h s none 0) ∧ ∀ s, s < k → rw0 h (27 + 2 * s) (28 + 2 * s) []
theorem RR.fg {h h' : ax_H} {c s : Nat} {A : Nat → Prop} {r p : Nat} {Q : Option Tr} (R : RR h r Q p) (f : fg h h' c s A) (hA : ∀ q, 11 ≤ q → ¬ A q) : RR h' r Q p := by
  obtain ⟨⟨b, q1, q2⟩, q3, q, q4⟩ := R
  exact ⟨⟨b, q1.fg f (hA _ (by omega)) (hA _ (by omega)), q2⟩, ob.fg q3 f (hA _ (by omega)), q, ob.fg q4 f (hA _ (by omega))⟩
theorem IR.fg {h h' : ax_H} {c s : Nat} {r k : Nat} (R : IR h r k) (f : fg h h' c s (fun _ => False)) : IR h' r k := by
  obtain ⟨a1, a2, a3, a4, ⟨f8, a5, a5'⟩, ⟨f9, a6, a6'⟩, ⟨f10, a7, a7'⟩, a8, a9⟩ := R
  exact ⟨ob.fg a1 f (fun z => z), a2.fg f (fun z => z) (fun z => z), a3.fg f (fun z => z), ⟨a4.1.fg f (fun z => z), a4.2.1.fg f (fun z => z), a4.2.2.fg f (fun z => z)⟩, ⟨f8, a5.fg f (fun z => z), a5'⟩, ⟨f9, a6.fg f (fun z => z), a6'⟩, ⟨f10, a7.fg f (fun z => z), a7'⟩, fun s hs => (a8 s hs).fg f (fun _ _ z => z), fun s hs => (a9 s hs).fg f (fun z => z) (fun z => z)⟩
theorem fg.wk {h h' : ax_H} {c s : Nat} {A B : Nat → Prop} (a : fg h h' c s A) (hAB : ∀ q, q < h.1 → A q → B q) : fg h h' c s B := ⟨a.1, a.2.1, fun q h1 h2 => a.2.2 q h1 (fun z => h2 (hAB q h1 z))⟩
def TGS (h : ax_H) : Prop := tx h 2 3 [] ∧ ob h 4 0 [.inl 0, .inl 0] ∧ sn h 0 0 (fun _ => 0) (fun _ => 0)
theorem TGS.fg {h h' : ax_H} {c s : Nat} {A : Nat → Prop} (a : TGS h) (f : fg h h' c s A) (hA : ∀ q, 2 ≤ q → q ≤ 7 → ¬ A q) : TGS h' := ⟨a.1.fg f (hA _ (by decide) (by decide)) (hA _ (by decide) (by decide)), a.2.1.fg f (hA _ (by decide) (by decide)), a.2.2.1.fg f (hA _ (by decide) (by decide)), a.2.2.2.1.fg f (hA _ (by decide) (by decide)), a.2.2.2.2.fg f (hA _ (by decide) (by decide))⟩
theorem k_pro {d : Nat} {h : ax_H} {L2 L3 : Option ax_V} {Φ : ax_H → Prop} (hn : h.1 = 2) (o1 : ob h 1 6 [.inr none, .inr none, .inr none, .inr none, .inr none, .inr none, .inl 0, .inl 0, .inl 0]) (K : ∀ h1, IR h1 0 0 → h1.1 = 11 → h1.2.1 = h.2.1 + 212 → h1.2.2 0 = h.2.2 0 → KZ (d + 2) 46 40 [some (.inr (some 1)), some (.inl (nI 0)), L3] [] h1 Φ) : KZ (d + 2) 46 0 [some (.inr (some 1)), L2, L3] [] h Φ := by
  (repeat (first | refine kz_st rfl ?_ | (apply kz_get rfl; assumption; rfl))); try dsimp only
  refine kz_new rfl hn (by decide) (fun h1 p1 f1 => ?_)
  have o1 := o1.fg f1 (fun z => z)
  (repeat (first | refine kz_st rfl ?_ | (apply kz_get rfl; assumption; rfl))); try dsimp only
  refine kz_call rfl ⟨rfl, rfl, (Nat.le_of_ble_eq_true rfl), (Nat.le_of_ble_eq_true rfl)⟩ (k_text p1) (fun h2 q2 => ?_)
  obtain ⟨T, f2⟩ := q2
  have o1 := o1.fg f2 (by decide)
  have e1 : h1.1 = 3 := by rw [f1.1, hn]
  rw [e1] at T
  refine kz_put rfl o1 (Nat.le_of_ble_eq_true rfl) rfl (fun h3 o1 f3 => ?_)
  have T := T.fg f3 (by decide) (by decide)
  have n3 : h3.1 = 4 := by rw [f3.1, f2.1, e1]
  (repeat (first | refine kz_st rfl ?_ | (apply kz_get rfl; assumption; rfl))); try dsimp only
  refine kz_new rfl n3 (by decide) (fun h4 p4 f4 => ?_)
  have o1 := o1.fg f4 (fun z => z)
  have T := T.fg f4 (fun z => z) (fun z => z)
  (repeat (first | refine kz_st rfl ?_ | (apply kz_get rfl; assumption; rfl))); try dsimp only
  refine kz_call rfl ⟨rfl, rfl, (Nat.le_of_ble_eq_true rfl), (Nat.le_of_ble_eq_true rfl)⟩ (k_gram p4) (fun h5 q5 => ?_)
  obtain ⟨G, f5⟩ := q5
  have o1 := o1.fg f5 (by decide)
  have T := T.fg f5 (by decide) (by decide)
  refine kz_put rfl o1 (Nat.le_of_ble_eq_true rfl) rfl (fun h6 o1 f6 => ?_)
  have T := T.fg f6 (by decide) (by decide)
  have G := G.fg f6 (by decide)
  have n6 : h6.1 = 5 := by rw [f6.1, f5.1, f4.1, n3]
  (repeat (first | refine kz_st rfl ?_ | (apply kz_get rfl; assumption; rfl))); try dsimp only
  refine kz_new rfl n6 (by decide) (fun h7 p7 f7 => ?_)
  have o1 := o1.fg f7 (fun z => z)
  have T := T.fg f7 (fun z => z) (fun z => z)
  have G := G.fg f7 (fun z => z)
  have n7 : h7.1 = 6 := by rw [f7.1, n6]
  (repeat (first | refine kz_st rfl ?_ | (apply kz_get rfl; assumption; rfl))); try dsimp only
  refine kz_call rfl ⟨rfl, rfl, (Nat.le_of_ble_eq_true rfl), (Nat.le_of_ble_eq_true rfl)⟩ (k_snd p7) (fun h8 q8 => ?_)
  obtain ⟨S1, S2, S3, f8⟩ := q8
  rw [n7] at S1 S2 S3
  have o1 := o1.fg f8 (by decide)
  have X : TGS h8 := ⟨T.fg f8 (by decide) (by decide), G.fg f8 (by decide), S1, S2, S3⟩
  refine kz_put rfl o1 (Nat.le_of_ble_eq_true rfl) rfl (fun h9 o1 f9 => ?_)
  have X := X.fg f9 (fun q a b z => by omega)
  have n9 : h9.1 = 8 := by rw [f9.1, f8.1, n7]
  (repeat (first | refine kz_st rfl ?_ | (apply kz_get rfl; assumption; rfl))); try dsimp only
  refine kz_newq (c := 4) rfl n9 (by decide) (by decide) (fun ha q8 fa => ?_)
  have o1 := o1.fg fa (fun z => z)
  have X := X.fg fa (fun q a b z => z)
  refine kz_put rfl o1 (Nat.le_of_ble_eq_true rfl) rfl (fun hb o1 fb => ?_)
  have X := X.fg fb (fun q a b z => by omega)
  have q8 := q8.fg fb (by decide)
  have nb : hb.1 = 9 := by rw [fb.1, fa.1, n9]
  (repeat (first | refine kz_st rfl ?_ | (apply kz_get rfl; assumption; rfl))); try dsimp only
  refine kz_newq (c := 4) rfl nb (by decide) (by decide) (fun hc q9 fc => ?_)
  have o1 := o1.fg fc (fun z => z)
  have X := X.fg fc (fun q a b z => z)
  have q8 := q8.fg fc (fun z => z)
  refine kz_put rfl o1 (Nat.le_of_ble_eq_true rfl) rfl (fun hd o1 fd => ?_)
  have X := X.fg fd (fun q a b z => by omega)
  have q8 := q8.fg fd (by decide)
  have q9 := q9.fg fd (by decide)
  have nd : hd.1 = 10 := by rw [fd.1, fc.1, nb]
  (repeat (first | refine kz_st rfl ?_ | (apply kz_get rfl; assumption; rfl))); try dsimp only
  refine kz_newq (c := 16) rfl nd (by decide) (by decide) (fun he q10 fe => ?_)
  have o1 := o1.fg fe (fun z => z)
  have X := X.fg fe (fun q a b z => z)
  have q8 := q8.fg fe (fun z => z)
  have q9 := q9.fg fe (fun z => z)
  refine kz_put rfl o1 (Nat.le_of_ble_eq_true rfl) rfl (fun hf o1 ff => ?_)
  have X := X.fg ff (fun q a b z => by omega)
  have q8 := q8.fg ff (by decide)
  have q9 := q9.fg ff (by decide)
  have q10 := q10.fg ff (by decide)
  (repeat (first | refine kz_st rfl ?_ | (apply kz_get rfl; assumption; rfl))); try dsimp only
  refine kz_put rfl o1 (Nat.le_of_ble_eq_true rfl) rfl (fun hg o1 fgg => ?_)
  have X := X.fg fgg (fun q a b z => by omega)
  have q8 := q8.fg fgg (by decide)
  have q9 := q9.fg fgg (by decide)
  have q10 := q10.fg fgg (by decide)
  (repeat (first | refine kz_st rfl ?_ | (apply kz_get rfl; assumption; rfl))); try dsimp only
  refine kz_put rfl o1 (Nat.le_of_ble_eq_true rfl) rfl (fun hi o1 fi => ?_)
  have X := X.fg fi (fun q a b z => by omega)
  have q8 := q8.fg fi (by decide)
  have q9 := q9.fg fi (by decide)
  have q10 := q10.fg fi (by decide)
  (repeat (first | refine kz_st rfl ?_ | (apply kz_get rfl; assumption; rfl))); try dsimp only
  refine kz_put rfl o1 (Nat.le_of_ble_eq_true rfl) rfl (fun hj o1 fj => ?_)
  have X := X.fg fj (fun q a b z => by omega)
  have q8 := q8.fg fj (by decide)
  have q9 := q9.fg fj (by decide)
  have q10 := q10.fg fj (by decide)
  have c0 : hj.2.2 0 = h.2.2 0 := by
    rw [fj.2.2 0 (by have := q8.2.2; have := fj.1; omega) (by decide), fi.2.2 0 (by have := q8.2.2; have := fj.1; have := fi.1; omega) (by decide), fgg.2.2 0 (by have := q8.2.2; have := fj.1; have := fi.1; have := fgg.1; omega) (by decide), ff.2.2 0 (by have := fe.1; omega) (by decide), fe.2.2 0 (by omega) (fun z => z), fd.2.2 0 (by have := fc.1; omega) (by decide), fc.2.2 0 (by omega) (fun z => z), fb.2.2 0 (by have := fa.1; omega) (by decide), fa.2.2 0 (by omega) (fun z => z), f9.2.2 0 (by have := f8.1; omega) (by decide), f8.2.2 0 (by omega) (by decide), f7.2.2 0 (by omega) (fun z => z), f6.2.2 0 (by have := f5.1; have := f4.1; omega) (by decide), f5.2.2 0 (by have := f4.1; omega) (by decide), f4.2.2 0 (by omega) (fun z => z), f3.2.2 0 (by have := f2.1; omega) (by decide), f2.2.2 0 (by omega) (by decide), f1.2.2 0 (by omega) (fun z => z)]
  have nn : hj.1 = 11 := by rw [fj.1, fi.1, fgg.1, ff.1, fe.1, nd]
  have ss : hj.2.1 = h.2.1 + 212 := by
    rw [fj.2.1, fi.2.1, fgg.2.1, ff.2.1, fe.2.1, fd.2.1, fc.2.1, fb.2.1, fa.2.1, f9.2.1, f8.2.1, f7.2.1, f6.2.1, f5.2.1, f4.2.1, f3.2.1, f2.2.1, f1.2.1]
    show h.2.1 + 2 + 60 + 0 + 2 + 0 + 0 + 4 + 120 + 0 + 4 + 0 + 4 + 0 + 16 + 0 + 0 + 0 + 0 = _
    omega
  have k1 := K hj ⟨o1, X.1, X.2.1, X.2.2, ⟨_, q8, fun s hs => absurd hs (Nat.not_lt_zero _)⟩, ⟨_, q9, fun s hs => absurd hs (Nat.not_lt_zero _)⟩, ⟨_, q10, fun s hs => absurd hs (Nat.not_lt_zero _)⟩, fun s hs => absurd hs (Nat.not_lt_zero _), fun s hs => absurd hs (Nat.not_lt_zero _)⟩ nn ss c0
  repeat (first | (exact k1) | refine kz_st rfl ?_ | (apply kz_get rfl; assumption; rfl))
theorem k_roles {d : Nat} {Φ : ax_H → Prop} (B : Nat) (c0 : ax_C) (K : ∀ h1 w, IR h1 4 0 → h1.1 = 27 → h1.2.1 = B + 69 * 4 → h1.2.2 0 = c0 → KZ (d + 2) 46 71 [some (.inr (some 1)), some (.inl (nI 4)), w] [] h1 Φ) : ∀ g r (h : ax_H) (w : Option ax_V), r + g = 4 → IR h r 0 → h.1 = 11 + 4 * r → h.2.1 = B + 69 * r → h.2.2 0 = c0 → KZ (d + 2) 46 40 [some (.inr (some 1)), some (.inl (nI r)), w] [] h Φ := by
  intro g
  induction g with
  | zero =>
    intro r h w hr I hn hs hc
    have : r = 4 := by omega
    subst this
    have k1 := K h w I hn hs hc
    repeat (first | (exact k1) | refine kz_st rfl ?_ | (apply kz_get rfl; assumption; rfl))
  | succ g ih =>
    intro r h w hr I hn hs hc
    refine kz_st rfl ?_
    refine kz_st rfl ?_
    refine kz_st rfl ?_
    dsimp only
    rw [show (bif decide ((4 : Int32) ≤ nI r) then 71 else 43) = 43 from by rw [decide_eq_false (show ¬ ((4 : Int32) ≤ nI r) from fun z => absurd ((nI_leI (a := 4) (by decide) (by omega)).mp z) (by omega))]; rfl]
    refine kz_new rfl hn (by omega) (fun h1 p1 f1 => ?_)
    have n1 : h1.1 = 12 + 4 * r := by rw [f1.1, hn]; omega
    (repeat (first | refine kz_st rfl ?_ | (apply kz_get rfl; assumption; rfl))); try dsimp only
    refine kz_call rfl ⟨rfl, rfl, (Nat.le_of_ble_eq_true rfl), (Nat.le_of_ble_eq_true rfl)⟩ (k_text p1) (fun h2 q2 => ?_)
    obtain ⟨T, f2⟩ := q2
    rw [n1] at T
    have F2 : fg h h2 2 62 (fun _ => False) := f1.tr f2 (fun q a z => absurd a (by omega))
    have I2 := I.fg F2
    obtain ⟨a1, -⟩ := id I2
    have n2 : h2.1 = 13 + 4 * r := by rw [F2.1, hn]; omega
    (repeat (first | refine kz_st rfl ?_ | (apply kz_get rfl; assumption; rfl))); try dsimp only
    refine kz_new rfl n2 (by omega) (fun h3 p3 f3 => ?_)
    (repeat (first | refine kz_st rfl ?_ | (apply kz_get rfl; assumption; rfl))); try dsimp only
    refine kz_call rfl ⟨rfl, rfl, (Nat.le_of_ble_eq_true rfl), (Nat.le_of_ble_eq_true rfl)⟩ (k_play (t := 11 + 4 * r) p3) (fun h4 q4 => ?_)
    obtain ⟨pl4, f4⟩ := q4
    have F4 : fg h2 h4 1 3 (fun _ => False) := f3.tr f4 (fun q a z => absurd a (by omega))
    obtain ⟨a1, a2, a3, a4, ⟨g8, a5, a5'⟩, ⟨g9, a6, a6'⟩, ⟨g10, a7, a7'⟩, a8, -⟩ := I2.fg F4
    have T := T.fg F4 (fun z => z) (fun z => z)
    refine kz_aast rfl a5 pl4 ⟨by decide, by decide⟩ rfl (k := r) (by omega) (by decide) (fun h5 b5 f5 => ?_)
    have a1 := ob.fg a1 f5 (by decide)
    have n5 : h5.1 = 14 + 4 * r := by rw [f5.1, F4.1, n2]; omega
    (repeat (first | refine kz_st rfl ?_ | (apply kz_get rfl; assumption; rfl))); try dsimp only
    refine kz_new rfl n5 (by omega) (fun h6 p6 f6 => ?_)
    have a1 := ob.fg a1 f6 (fun z => z)
    (repeat (first | refine kz_st rfl ?_ | (apply kz_get rfl; assumption; rfl))); try dsimp only
    rw [show (65 : Int32) + nI r = nI (65 + r) from nI_add 65 r, show ((nI (65 + r)).toUInt32 % 65536).toInt32 = nI (65 + r) from cf_nI (by omega)]
    refine kz_call rfl ⟨rfl, rfl, (Nat.le_of_ble_eq_true rfl), (Nat.le_of_ble_eq_true rfl)⟩ (k_wri (t := 11 + 4 * r) (rc := 65 + r) (by omega) p6) (fun h7 q7 => ?_)
    obtain ⟨w7, f7⟩ := q7
    have F7 : fg h5 h7 1 4 (fun _ => False) := f6.tr f7 (fun q a z => absurd a (by omega))
    have a6 := (a6.fg f5 (by decide)).fg F7 (fun z => z)
    refine kz_aast rfl a6 w7 ⟨by decide, by decide⟩ rfl (k := r) (by omega) (by decide) (fun h8 b6 f8 => ?_)
    have F8 : fg h4 h8 1 4 (fun q => q = 8 ∨ q = 9) := ((f5.wk (B := fun q => q = 8 ∨ q = 9) (fun q _ z => Or.inl z)).tr F7 (fun q _ z => absurd z id)).tr f8 (fun q _ z => Or.inr z)
    have no1 : ∀ q, q ≠ 8 → q ≠ 9 → ¬ (q = 8 ∨ q = 9) := fun q a b z => z.elim a b
    have e9 := ih (r + 1) h8 (some (.inr (some (11 + 4 * r)))) (by omega) ⟨(ob.fg a1 f7 (by omega)).fg f8 (by decide), a2.fg F8 (by decide) (by decide), a3.fg F8 (by decide), ⟨a4.1.fg F8 (by decide), a4.2.1.fg F8 (by decide), a4.2.2.fg F8 (by decide)⟩, ⟨_, (b5.fg F7 (fun z => z)).fg f8 (by decide), fun s hs => by
        unfold va_up
        by_cases hsr : s = r
        · rw [if_pos hsr, hsr]
        · rw [if_neg hsr]
          exact a5' s (by omega)⟩, ⟨_, b6, fun s hs => by
        unfold va_up
        by_cases hsr : s = r
        · rw [if_pos hsr, hsr]
        · rw [if_neg hsr]
          exact a6' s (by omega)⟩, ⟨g10, a7.fg F8 (by decide), fun s hs => absurd hs (Nat.not_lt_zero _)⟩, fun s hs => by
        by_cases hsr : s = r
        · subst hsr
          exact ⟨⟨[], T.fg F8 (by omega) (by omega), fun l z => by cases z⟩, ob.fg pl4 F8 (by omega), 0, ob.fg w7 f8 (by omega)⟩
        · exact (a8 s (by omega)).fg F8 (fun q h1 h2 => by omega), fun s hs => absurd hs (Nat.not_lt_zero _)⟩ (by rw [F8.1, F4.1, n2]; omega) (by rw [F8.2.1, F4.2.1, F2.2.1, hs]; omega) (by rw [F8.2.2 0 (by rw [F4.1]; omega) (by decide), F4.2.2 0 (by omega) (fun z => z), F2.2.2 0 (by omega) (fun z => z)]; exact hc)
    rw [← nI_1 r] at e9
    repeat (first | (exact e9) | refine kz_st rfl ?_ | (apply kz_get rfl; assumption; rfl))
theorem k_rows {d : Nat} {Φ : ax_H → Prop} (B : Nat) (c0 : ax_C) (K : ∀ h1, IR h1 4 16 → h1.1 = 59 → h1.2.1 = B + 5 * 16 → h1.2.2 0 = c0 → Φ h1) : ∀ g r (h : ax_H) (w : Option ax_V), r + g = 16 → IR h 4 r → h.1 = 27 + 2 * r → h.2.1 = B + 5 * r → h.2.2 0 = c0 → KZ (d + 2) 46 73 [some (.inr (some 1)), some (.inl (nI r)), w] [] h Φ := by
  intro g
  induction g with
  | zero =>
    intro r h w hr I hn hs hc
    have : r = 16 := by omega
    subst this
    (repeat (first | refine kz_st rfl ?_ | (apply kz_get rfl; assumption; rfl))); try dsimp only
    exact ⟨h, ax_rt rfl, K h I hn hs hc⟩
  | succ g ih =>
    intro r h w hr I hn hs hc
    have a1 := I.1
    refine kz_st rfl ?_
    refine kz_st rfl ?_
    refine kz_st rfl ?_
    dsimp only
    rw [show (bif decide ((16 : Int32) ≤ nI r) then 85 else 76) = 76 from by rw [decide_eq_false (show ¬ ((16 : Int32) ≤ nI r) from fun z => absurd ((nI_leI (a := 16) (by decide) (by omega)).mp z) (by omega))]; rfl]
    (repeat (first | refine kz_st rfl ?_ | (apply kz_get rfl; assumption; rfl))); try dsimp only
    refine kz_new rfl hn (by omega) (fun h1 p1 f1 => ?_)
    have n1 : h1.1 = 28 + 2 * r := by rw [f1.1, hn]; omega
    (repeat (first | refine kz_st rfl ?_ | (apply kz_get rfl; assumption; rfl))); try dsimp only
    refine kz_call rfl ⟨rfl, rfl, (Nat.le_of_ble_eq_true rfl), (Nat.le_of_ble_eq_true rfl)⟩ (k_row p1) (fun h2 q2 => ?_)
    obtain ⟨W, f2⟩ := q2
    rw [n1] at W
    have F2 : fg h h2 2 5 (fun _ => False) := f1.tr f2 (fun q a z => absurd a (by omega))
    obtain ⟨a1, a2, a3, a4, ⟨g8, a5, a5'⟩, ⟨g9, a6, a6'⟩, ⟨g10, a7, a7'⟩, a8, a9⟩ := I.fg F2
    refine kz_aast rfl a7 W.ob ⟨by decide, by decide⟩ rfl (k := r) (by omega) (by decide) (fun h3 b7 f3 => ?_)
    have e9 := ih (r + 1) h3 w (by omega) ⟨ob.fg a1 f3 (by decide), a2.fg f3 (by decide) (by decide), a3.fg f3 (by decide), ⟨a4.1.fg f3 (by decide), a4.2.1.fg f3 (by decide), a4.2.2.fg f3 (by decide)⟩, ⟨g8, a5.fg f3 (by decide), a5'⟩, ⟨g9, a6.fg f3 (by decide), a6'⟩, ⟨_, b7, fun s hs => by
        unfold va_up
        by_cases hsr : s = r
        · rw [if_pos hsr, hsr]
        · rw [if_neg hsr]
          exact a7' s (by omega)⟩, fun s hs => (a8 s hs).fg f3 (fun q h1 h2 => by omega), fun s hs => by
        by_cases hsr : s = r
        · subst hsr
          exact W.fg f3 (by omega) (by omega)
        · exact (a9 s (by omega)).fg f3 (by omega) (by omega)⟩ (by rw [f3.1, F2.1, hn]; omega) (by rw [f3.2.1, F2.2.1, hs]; omega) (by rw [f3.2.2 0 (by rw [F2.1]; omega) (by decide), F2.2.2 0 (by omega) (fun z => z)]; exact hc)
    rw [← nI_1 r] at e9
    repeat (first | (exact e9) | refine kz_st rfl ?_ | (apply kz_get rfl; assumption; rfl))
theorem k_parts {d : Nat} {h : ax_H} (hn : h.1 = 2) (o1 : ob h 1 6 [.inr none, .inr none, .inr none, .inr none, .inr none, .inr none, .inl 0, .inl 0, .inl 0]) : ∃ h', mt (d + 2) 46 [.inr (some 1)] h none h' ∧ RC h' [] (-1) (fun _ => none) false (fun _ => 0) (fun _ => []) 0 ∧ h'.1 = 59 ∧ h'.2.1 = h.2.1 + 568 ∧ h'.2.2 0 = h.2.2 0 := by
  refine k_pro hn o1 (fun h1 I1 n1 s1 c1 => k_roles (h.2.1 + 212) (h.2.2 0) (fun h2 w I2 n2 s2 c2 => ?_) 4 0 h1 _ rfl I1 n1 s1 c1)
  have e9 := k_rows (d := d) (Φ := fun h' => RC h' [] (-1) (fun _ => none) false (fun _ => 0) (fun _ => []) 0 ∧ h'.1 = 59 ∧ h'.2.1 = h.2.1 + 568 ∧ h'.2.2 0 = h.2.2 0) (h.2.1 + 488) (h.2.2 0) (fun h3 I3 n3 s3 c3 => ⟨?_, n3, by omega, c3⟩) 16 0 h2 w rfl I2 n2 (by omega) c2
  · repeat (first | (exact e9) | refine kz_st rfl ?_ | (apply kz_get rfl; assumption; rfl))
  · obtain ⟨a1, a2, a3, a4, a5, a6, a7, a8, a9⟩ := I3
    exact ⟨a1, ⟨a5, a6, a7⟩, ⟨⟨0, 0, a3⟩, 0, 0, _, _, a4⟩, a2, a8, a9⟩
