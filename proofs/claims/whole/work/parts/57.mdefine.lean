/-! The reference: define. -/
theorem gfl_nI : ∀ (w : List Nat) (e n k : Nat), gfl w e n k = -1 ∨ ∃ j, j ≤ k + w.length ∧ gfl w e n k = nI j
  | [], e, n, k => by
    unfold gfl
    split
    · exact Or.inl rfl
    · exact Or.inr ⟨k, by simp, rfl⟩
  | c :: w, e, n, k => by
    unfold gfl
    split
    · exact Or.inr ⟨k, by simp, rfl⟩
    · rcases gfl_nI w (gst e n c).1 (gst e n c).2 (k + 1) with z | ⟨j, j1, j2⟩
      · exact Or.inl z
      · exact Or.inr ⟨j, by simp; omega, j2⟩
def cntM (F : Nat → Nat → Int32) : Nat → Nat → Nat
  | 0, _ => 0
  | g + 1, k => (if F 61 k = 3 then 1 else 0) + cntM F g (k + 1)
theorem cntM_add (F : Nat → Nat → Int32) : ∀ a b k, cntM F (a + b) k = cntM F a k + cntM F b (k + a)
  | 0, b, k => by
    rw [Nat.zero_add]
    show cntM F b k = 0 + cntM F b (k + 0)
    rw [Nat.zero_add]
    rfl
  | a + 1, b, k => by
    rw [show a + 1 + b = (a + b) + 1 by omega]
    show _ + cntM F (a + b) (k + 1) = (_ + cntM F a (k + 1)) + cntM F b (k + (a + 1))
    rw [cntM_add F a b (k + 1), show k + 1 + a = k + (a + 1) by omega]
    omega
theorem cntM_le (F : Nat → Nat → Int32) : ∀ a k, cntM F a k ≤ a
  | 0, k => Nat.le_refl _
  | a + 1, k => by
    have := cntM_le F a (k + 1)
    unfold cntM
    split <;> omega
theorem cnt_tree {F : Nat → Nat → Int32} : ∀ (t : Tr) (b : Bool) (n : Nat) (inn br : Int32), wf t b → Fl F t b n inn br → cntM F (sz t b) n = (rn t b).count 123
  | .num y, b, n, inn, br, hw, f => by
    show (if F 61 n = 3 then 1 else 0) + 0 = _
    rw [f.1, if_neg (by decide)]
    simp [rn]
  | .var y, b, n, inn, br, hw, f => by
    show (if F 61 n = 3 then 1 else 0) + 0 = _
    have := isV_b hw.2
    rw [f.1, if_neg (by decide)]
    simp [rn, List.count_cons]
    omega
  | .mulL x g, b, n, inn, br, hw, f => by
    cases b with
    | true =>
      have ih := cnt_tree g false n inn (nI x) hw.2 f
      have := isL_b hw.1
      show cntM F (sz g false) n = _
      rw [ih]
      simp [rn, List.count_cons]
      omega
    | false =>
      have ih := cnt_tree g false (n + 1) (nI n) br hw.2 f.2
      have := isV_b hw.1
      show cntM F (1 + sz g false) n = _
      rw [cntM_add, ih]
      show ((if F 61 n = 3 then 1 else 0) + 0) + _ = _
      rw [f.1.1, if_neg (by decide)]
      simp [rn, List.count_cons]
      omega
  | .mulR bs x, b, n, inn, br, hw, f => by
    have ih := cnt_tree bs true (n + 1) (nI n) br hw.2.2.2 f.2
    have h1 := isR_b hw.2.1
    have h2 := isR_b hw.2.2.1
    show cntM F (1 + sz bs true) n = _
    rw [cntM_add, ih]
    show ((if F 61 n = 3 then 1 else 0) + 0) + _ = _
    rw [f.1.1, if_pos rfl]
    show _ = ([x / 256, x % 256, 123] ++ (rn bs true ++ [125])).count 123
    rw [List.count_append, List.count_append]
    simp only [List.count_cons, List.count_nil]
    rw [show (x / 256 == 123) = false by simp; omega, show (x % 256 == 123) = false by simp; omega]
    simp
    try omega
  | .add l r, b, n, inn, br, hw, f => by
    have ih1 := cnt_tree l true n inn br hw.2.1 f.1
    have ih2 := cnt_tree r true (n + sz l true) inn br hw.2.2 f.2
    show cntM F (sz l true + sz r true) n = (rn l true ++ 44 :: rn r true).count 123
    rw [cntM_add, ih1, ih2, List.count_append, List.count_cons]
    simp
section MDF
variable {h : ax_H} {tp : List Nat} {mc mv : Int32} {P : Nat → Option Tr} {run : Bool} {pc : Nat → Nat} {rws : Nat → List Int32} {d : Nat}
theorem MT_nil {F : Nat → Nat → Int32} : MT F [] := ⟨Nat.zero_le _, (fun x hx => by cases hx), fun k hk => absurd hk (Nat.not_lt_zero _)⟩
theorem m_define1 (R : RM h tp mc P run pc rws mv) (hf : gfl tp 0 0 0 ≠ -1) : ∃ h', mt (d + 4) 94 [.inr (some 59)] h (some (.inl (gfl tp 0 0 0))) h' ∧ RM h' [] mc P run pc rws mv ∧ fr h h' (fun q => 59 ≤ q) := by
  obtain ⟨pcs, ms, th, F, m, A, T, hmc, hP, hpc, hW⟩ := R
  obtain ⟨h1, n1, F1, e1, ⟨m1, A1, T1⟩, k1, f1⟩ := m_readF (d := d + 1) m A T hf
  have m2 := m1.o (nI 0) (nI n1) th ms run mv
  have A2 := A1.o (moC (nI 0) (nI n1) th ms run mv)
  refine ⟨_, ?_, ⟨nI n1, ms, th, F1, m2, A2, MT_nil, hmc, fun r hr => ?_, fun r hr => ?_, fun k hk => ?_⟩, f1.tr (fr.st (by decide))⟩
  · obtain ⟨j, j1, j2⟩ := (gfl_nI tp 0 0 0).resolve_left hf
    have t1 := T.1
    rw [j2] at e1 ⊢
    unfold mo at m m1
    (repeat (first | refine ax_st rfl ?_ | (apply ev_get rfl; assumption; rfl))); try dsimp only
    refine ev_callV rfl m ⟨rfl, rfl, Nat.le_of_ble_eq_true rfl, Nat.le_of_ble_eq_true rfl⟩ (e1) ?_
    (repeat (first | refine ax_st rfl ?_ | (apply ev_get rfl; assumption; rfl))); try dsimp only
    refine ev_put rfl m1 ?_ ?_ ?_; exact Nat.le_of_ble_eq_true rfl; rfl
    (repeat (first | refine ax_st rfl ?_ | (apply ev_get rfl; assumption; rfl))); try dsimp only
    refine ev_f (nI_pos (by omega)) ?_
    (repeat (first | refine ax_st rfl ?_ | (apply ev_get rfl; assumption; rfl))); try dsimp only
    exact ax_rt rfl
  · have := hP r hr
    split
    · next ht =>
      rw [if_pos ht] at this
      exact this.c (k1 68 (by decide)) (k1 69 (by decide))
    · next ht =>
      rw [if_neg ht] at this
      exact this
  · rw [k1 70 (by decide)]; exact hpc r hr
  · exact (hW k hk).c (fun i _ => by rw [k1 71 (by decide)]) (by rw [k1 72 (by decide)])
/-- read and judge -/
theorem m_defA {t : Tr} (hw : wf t false) (R : RM h (rn t false) mc P run pc rws mv) : ∃ (pcs ms : Int32) (th : Bool) (F : Nat → Nat → Int32) (h1 h2 : ax_H) (F1 : Nat → Nat → Int32), mo h (nI (rn t false).length) pcs th ms run mv ∧ mo h1 (nI (rn t false).length) (nI (sz t false)) th ms run mv ∧ h2 = ax_set h1 59 (moC (nI 0) (nI (sz t false)) th ms run mv) ∧ mt (d + 3) 83 [.inr (some 59)] h (some (.inl (-1))) h1 ∧ mt (d + 3) 87 [.inr (some 59)] h2 (some (.inl (bi (sd t false 0 0 0).1))) h2 ∧ mo h2 (nI 0) (nI (sz t false)) th ms run mv ∧ MA h2 F1 ∧ Fl F1 t false 0 (-1) 0 ∧ (rn t false).length ≤ 60 ∧ (mc = if th = true then ms else -1) ∧ (∀ r, r < 4 → if th = true then MP1 F1 r (P r) else P r = none) ∧ (∀ r, r < 4 → F1 70 r = nI (pc r)) ∧ (∀ k, k < 16 → MW1 F1 k (rws k)) ∧ fr h h2 (fun q => 59 ≤ q) := by
  obtain ⟨pcs, ms, th, F, m, A, T, hmc, hP, hpc, hW⟩ := R
  obtain ⟨h1, F1, e1, ⟨m1, A1, T1⟩, k1, fl1, f1⟩ := m_readT (d := d + 1) hw m A T
  have hN : sz t false ≤ 60 := Nat.le_trans (sz_le t false) T.1
  have m2 := m1.o (nI 0) (nI (sz t false)) th ms run mv
  have A2 := A1.o (moC (nI 0) (nI (sz t false)) th ms run mv)
  obtain ⟨b, e2, hb⟩ := m_sound (d := d + 2) hN m2 A2 (fun k hk => ch_all t false 0 (-1) 0 [] hw fl1 (by omega) rfl k (Nat.zero_le _) (by omega))
  rw [ps_sound hw hN fl1] at hb
  have hb : b = (sd t false 0 0 0).1 := by
    cases b <;> cases h9 : (sd t false 0 0 0).1 <;> simp_all
  subst hb
  refine ⟨pcs, ms, th, F, h1, _, F1, m, m1, rfl, e1, e2, m2, A2, fl1, T.1, hmc, fun r hr => ?_, fun r hr => ?_, fun k hk => ?_, f1.tr (fr.st (by decide))⟩
  · have := hP r hr
    split
    · next ht =>
      rw [if_pos ht] at this
      exact this.c (k1 68 (by decide)) (k1 69 (by decide))
    · next ht =>
      rw [if_neg ht] at this
      exact this
  · rw [k1 70 (by decide)]; exact hpc r hr
  · exact (hW k hk).c (fun i _ => by rw [k1 71 (by decide)]) (by rw [k1 72 (by decide)])
theorem m_define2 {t : Tr} (hw : wf t false) (R : RM h (rn t false) mc P run pc rws mv) (hs : (sd t false 0 0 0).1 = false) : ∃ h', mt (d + 4) 94 [.inr (some 59)] h (some (.inl (-2))) h' ∧ RM h' [] mc P run pc rws mv ∧ fr h h' (fun q => 59 ≤ q) := by
  obtain ⟨pcs, ms, th, F, h1, h2, F1, m, m1, rfl, e1, e2, m2, A2, fl1, t1, hmc, hP, hpc, hW, f⟩ := m_defA (d := d) hw R
  rw [hs] at e2
  refine ⟨_, ?_, ⟨_, ms, th, F1, m2, A2, MT_nil, hmc, hP, hpc, hW⟩, f⟩
  have m2' := m2
  unfold mo at m m1 m2'
  (repeat (first | refine ax_st rfl ?_ | (apply ev_get rfl; assumption; rfl))); try dsimp only
  refine ev_callV rfl m ⟨rfl, rfl, Nat.le_of_ble_eq_true rfl, Nat.le_of_ble_eq_true rfl⟩ (e1) ?_
  (repeat (first | refine ax_st rfl ?_ | (apply ev_get rfl; assumption; rfl))); try dsimp only
  refine ev_put rfl m1 ?_ ?_ ?_; exact Nat.le_of_ble_eq_true rfl; rfl
  (repeat (first | refine ax_st rfl ?_ | (apply ev_get rfl; assumption; rfl))); try dsimp only
  refine ev_callV rfl m2' ⟨rfl, rfl, Nat.le_of_ble_eq_true rfl, Nat.le_of_ble_eq_true rfl⟩ (e2) ?_
  (repeat (first | refine ax_st rfl ?_ | (apply ev_get rfl; assumption; rfl))); try dsimp only
  exact ax_rt rfl
/-- define's loops -/
def DF (d i : Nat) (x : Int32) (w : Option ax_V) (h : ax_H) (Φ : ax_H → Prop) : Prop := ∃ h', Ev (d + 4) 94 i [some (.inr (some 59)), some (.inl (-1)), some (.inl x), w] [] h (some (.inl (-1))) h' ∧ Φ h' ∧ fr h h' (fun q => 59 ≤ q)
variable {n0 pcs ms : Int32} {th ru : Bool} {N : Nat} {F : Nat → Nat → Int32} {Φ : ax_H → Prop}
theorem df_cnt (hN : N ≤ 60) : ∀ g k c (h : ax_H), k + g = N → c + g ≤ 120 → mo h n0 (nI N) th (nI c) ru mv → MA h F → (∀ h1, mo h1 n0 (nI N) th (nI (c + cntM F g k)) ru mv → MA h1 F → DF d 42 (nI N) none h1 Φ) → DF d 22 (nI k) none h Φ := by
  intro g
  induction g with
  | zero =>
    intro k c h hk hc m A K
    have : k = N := by omega
    subst this
    obtain ⟨h', e, f⟩ := K h m A
    refine ⟨h', ?_, f⟩
    unfold mo at m
    (repeat (first | refine ax_st rfl ?_ | (apply ev_get rfl; assumption; rfl))); try dsimp only
    refine ev_t ((nI_leI (by omega) (by omega)).mpr (Nat.le_refl _)) ?_
    exact e
  | succ g ih =>
    intro k c h hk hc m A K
    have m1 := m.o n0 (nI N) th (nI (c + (if F 61 k = 3 then 1 else 0))) ru mv
    have A1 := A.o (moC n0 (nI N) th (nI (c + (if F 61 k = 3 then 1 else 0))) ru mv)
    obtain ⟨h', e, f⟩ := ih (k + 1) (c + (if F 61 k = 3 then 1 else 0)) _ (by omega) (by split <;> omega) m1 A1 (fun h1 m2 A2 => K h1 (by
      rw [Nat.add_assoc] at m2
      exact m2) A2)
    refine ⟨h', ?_, f.1, fr.tr (A := fun q => 59 ≤ q) (fr.st (by decide)) f.2⟩
    rw [← nI_1 k] at e
    have h61 := A.a61
    unfold mo at m
    (repeat (first | refine ax_st rfl ?_ | (apply ev_get rfl; assumption; rfl))); try dsimp only
    refine ev_f (fun z => absurd ((nI_leI (by omega) (by omega)).mp z) (by omega)) ?_
    (repeat (first | refine ax_st rfl ?_ | (apply ev_get rfl; assumption; rfl))); try dsimp only
    refine ev_ald rfl h61 ?_ ?_; exact in_nI (by omega) (by decide)
    rw [nI_clamp (by omega)]
    (repeat (first | refine ax_st rfl ?_ | (apply ev_get rfl; assumption; rfl))); try dsimp only
    by_cases h3 : F 61 k = 3
    · rw [if_pos h3, ← nI_add] at e
      refine ev_f (fun z => z h3) ?_
      (repeat (first | refine ax_st rfl ?_ | (apply ev_get rfl; assumption; rfl))); try dsimp only
      refine ev_put rfl m ?_ ?_ ?_; exact Nat.le_of_ble_eq_true rfl; rfl
      repeat (first | (exact e) | refine ax_st rfl ?_ | (apply ev_get rfl; assumption; rfl))
    · rw [if_neg h3, ← nI_add] at e
      refine ev_t h3 ?_
      (repeat (first | refine ax_st rfl ?_ | (apply ev_get rfl; assumption; rfl))); try dsimp only
      refine ev_put rfl m ?_ ?_ ?_; exact Nat.le_of_ble_eq_true rfl; rfl
      repeat (first | (exact e) | refine ax_st rfl ?_ | (apply ev_get rfl; assumption; rfl))
/-- the part of role r taken over up to i -/
def PC (F : Nat → Nat → Int32) (r : Nat) (T : List Nat) (i : Nat) : Prop := ∀ j, j < i → F 68 (60 * r + j) = nI (T.getD j 0)
theorem df_cp {r : Nat} {T : List Nat} {F0 : Nat → Nat → Int32} (hr : r < 4) : ∀ g i (h : ax_H) (F : Nat → Nat → Int32), i + g = T.length → mo h n0 pcs th ms ru mv → MA h F → SL F r (some T) → PC F r T i → (∀ q, q ≠ 68 → F q = F0 q) → (∀ j, j < 60 * r → F 68 j = F0 68 j) → (∀ h1 F1, mo h1 n0 pcs th ms ru mv → MA h1 F1 → PC F1 r T T.length → (∀ q, q ≠ 68 → F1 q = F0 q) → (∀ j, j < 60 * r → F1 68 j = F0 68 j) → DF d 81 (nI r) (some (.inl (nI T.length))) h1 Φ) → DF d 57 (nI r) (some (.inl (nI i))) h Φ := by
  intro g
  induction g with
  | zero =>
    intro i h F hi m A S C k0 k1 K
    have : i = T.length := by omega
    subst this
    obtain ⟨h', e, f⟩ := K h F m A C k0 k1
    refine ⟨h', ?_, f⟩
    obtain ⟨s1, s2, s3, s4⟩ := S
    have h67 := A.a67
    unfold mo at m
    (repeat (first | refine ax_st rfl ?_ | (apply ev_get rfl; assumption; rfl))); try dsimp only
    refine ev_ald rfl h67 ?_ ?_; exact in_nI (by omega) (by decide)
    rw [nI_clamp (by omega), s1]
    (repeat (first | refine ax_st rfl ?_ | (apply ev_get rfl; assumption; rfl))); try dsimp only
    refine ev_t ((nI_leI (by omega) (by omega)).mpr (Nat.le_refl _)) ?_
    exact e
  | succ g ih =>
    intro i h F hi m A S C k0 k1 K
    obtain ⟨s1, s2, s3, s4⟩ := id S
    have hc := lt_of_all s3 i
    have A1 := A.s68 (upd (F 68) (60 * r + i) (nI (T.getD i 0)))
    have m1 := m.s 68 (by decide) (.inl (1, 240, .inl (upd (F 68) (60 * r + i) (nI (T.getD i 0)))))
    obtain ⟨h', e, f⟩ := ih (i + 1) _ _ (by omega) m1 A1 (by
      unfold SL
      rw [va_up_ne _ _ (by decide), va_up_ne _ _ (by decide)]
      exact S) (fun j hj => by
      rw [va_up_self]
      by_cases h2 : j = i
      · rw [h2, upd_s]
      · rw [upd_n (by omega)]
        exact C j (by omega)) (fun q hq => by rw [va_up_ne _ _ hq]; exact k0 q hq) (fun j hj => by rw [va_up_self, upd_n (by omega)]; exact k1 j hj) K
    refine ⟨h', ?_, f.1, fr.tr (A := fun q => 59 ≤ q) (fr.st (by decide)) f.2⟩
    rw [← nI_1 i] at e
    have h67 := A.a67
    have h66 := A.a66
    have h68 := A.a68
    unfold mo at m
    (repeat (first | refine ax_st rfl ?_ | (apply ev_get rfl; assumption; rfl))); try dsimp only
    refine ev_ald rfl h67 ?_ ?_; exact in_nI (by omega) (by decide)
    rw [nI_clamp (by omega), s1]
    (repeat (first | refine ax_st rfl ?_ | (apply ev_get rfl; assumption; rfl))); try dsimp only
    refine ev_f (fun z => absurd ((nI_leI (by omega) (by omega)).mp z) (by omega)) ?_
    (repeat (first | refine ax_st rfl ?_ | (apply ev_get rfl; assumption; rfl))); try dsimp only
    rw [show (60 : Int32) * nI r = nI (60 * r) from pk_mul 60 r, nI_add]
    refine ev_ald rfl h66 ?_ ?_; exact in_nI (by omega) (by decide)
    rw [nI_clamp (by omega), s4 i (by omega)]
    refine ev_ast rfl h68 ?_ ?_; exact in_nI (by omega) (by decide)
    rw [if_pos rfl, nI_clamp (by omega), cf_nar (cf_nI hc)]
    repeat (first | (exact e) | refine ax_st rfl ?_ | (apply ev_get rfl; assumption; rfl))
theorem df_roles {Q : Nat → Option (List Nat)} {F0 : Nat → Nat → Int32} : ∀ g r (h : ax_H) (F : Nat → Nat → Int32) (w : Option ax_V), r + g = 4 → mo h n0 pcs th ms ru mv → MA h F → (∀ s, s < 4 → SL F s (Q s)) → (∀ s, s < r → F 69 s = F 67 s ∧ ∀ T, Q s = some T → PC F s T T.length) → (∀ q, q ≠ 68 → q ≠ 69 → F q = F0 q) → (∀ h1 F1, mo h1 n0 pcs th ms ru mv → MA h1 F1 → (∀ s, s < 4 → SL F1 s (Q s)) → (∀ s, s < 4 → F1 69 s = F1 67 s ∧ ∀ T, Q s = some T → PC F1 s T T.length) → (∀ q, q ≠ 68 → q ≠ 69 → F1 q = F0 q) → ∀ w, DF d 83 (nI 4) w h1 Φ) → DF d 44 (nI r) w h Φ := by
  intro g
  induction g with
  | zero =>
    intro r h F w hr m A S C k0 K
    have : r = 4 := by omega
    subst this
    obtain ⟨h', e, f⟩ := K h F m A S C k0 w
    refine ⟨h', ?_, f⟩
    repeat (first | (exact e) | refine ax_st rfl ?_ | (apply ev_get rfl; assumption; rfl))
  | succ g ih =>
    intro r h F w hr m A S C k0 K
    have hr4 : r < 4 := by omega
    have A1 := A.s69 (upd (F 69) r (F 67 r))
    have m1 := m.s 69 (by decide) (.inl (0, 4, .inl (upd (F 69) r (F 67 r))))
    have h67 := A.a67
    have h69 := A.a69
    have h67' := A1.a67
    have SL1 : ∀ s, s < 4 → SL (va_up F 69 (upd (F 69) r (F 67 r))) s (Q s) := fun s hs => by
      have := S s hs
      unfold SL at this ⊢
      rw [va_up_ne _ _ (by decide), va_up_ne _ _ (by decide)]
      exact this
    have pre : ∀ {h' : ax_H}, Ev (d + 4) 94 57 [some (.inr (some 59)), some (.inl (-1)), some (.inl (nI r)), some (.inl (nI 0))] [] (ax_set h 69 (.inl (0, 4, .inl (upd (F 69) r (F 67 r))))) (some (.inl (-1))) h' → Ev (d + 4) 94 44 [some (.inr (some 59)), some (.inl (-1)), some (.inl (nI r)), w] [] h (some (.inl (-1))) h' := by
      intro h' e
      unfold mo at m
      clear m1
      (repeat (first | refine ax_st rfl ?_ | (apply ev_get rfl; assumption; rfl))); try dsimp only
      refine ev_f (fun z => absurd ((nI_leI (a := 4) (by decide) (by omega)).mp z) (by omega)) ?_
      (repeat (first | refine ax_st rfl ?_ | (apply ev_get rfl; assumption; rfl))); try dsimp only
      refine ev_ald rfl h67 ?_ ?_; exact in_nI (by omega) (by decide)
      rw [nI_clamp (by omega)]
      refine ev_ast rfl h69 ?_ ?_; exact in_nI (by omega) (by decide)
      rw [if_neg (by decide), nI_clamp (by omega)]
      repeat (first | (exact e) | refine ax_st rfl ?_ | (apply ev_get rfl; assumption; rfl))
    have fin : DF d 57 (nI r) (some (.inl (nI 0))) (ax_set h 69 (.inl (0, 4, .inl (upd (F 69) r (F 67 r))))) Φ := by
      have post : ∀ h1 F1 w1, mo h1 n0 pcs th ms ru mv → MA h1 F1 → (∀ T, Q r = some T → PC F1 r T T.length) → (∀ q, q ≠ 68 → F1 q = va_up F 69 (upd (F 69) r (F 67 r)) q) → (∀ j, j < 60 * r → F1 68 j = F 68 j) → DF d 81 (nI r) w1 h1 Φ := by
        intro h1 F1 w1 m2 A2 C2 k2 k3
        obtain ⟨h', e, f⟩ := ih (r + 1) h1 F1 w1 (by omega) m2 A2 (fun s hs => by
          have := SL1 s hs
          unfold SL at this ⊢
          rw [k2 66 (by decide), k2 67 (by decide)]
          exact this) (fun s hs => by
          rw [k2 69 (by decide), k2 67 (by decide), va_up_self, va_up_ne _ _ (by decide)]
          by_cases hsr : s = r
          · rw [hsr, upd_s]
            exact ⟨rfl, C2⟩
          · rw [upd_n hsr]
            refine ⟨(C s (by omega)).1, fun T hT j hj => ?_⟩
            have hl : T.length ≤ 60 := by
              have := S s (by omega)
              rw [hT] at this
              exact this.2.1
            rw [k3 _ (by omega)]
            exact (C s (by omega)).2 T hT j hj) (fun q h1 h2 => by rw [k2 q h1, va_up_ne _ _ h2]; exact k0 q h1 h2) K
        refine ⟨h', ?_, f⟩
        rw [← nI_1 r] at e
        repeat (first | (exact e) | refine ax_st rfl ?_ | (apply ev_get rfl; assumption; rfl))
      cases hQ : Q r with
      | none =>
        have s0 := SL1 r hr4
        rw [hQ] at s0
        have s0 : (va_up F 69 (upd (F 69) r (F 67 r))) 67 r = -1 := s0
        obtain ⟨h', e, f⟩ := post _ _ (some (.inl (nI 0))) m1 A1 (fun T hT => by rw [hQ] at hT; cases hT) (fun q _ => rfl) (fun j _ => by rw [va_up_ne _ _ (by decide)])
        refine ⟨h', ?_, f⟩
        unfold mo at m1
        (repeat (first | refine ax_st rfl ?_ | (apply ev_get rfl; assumption; rfl))); try dsimp only
        refine ev_ald rfl h67' ?_ ?_; exact in_nI (by omega) (by decide)
        rw [nI_clamp (by omega), s0]
        repeat (first | (exact e) | refine ax_st rfl ?_ | (apply ev_get rfl; assumption; rfl))
      | some T =>
        have s0 := SL1 r hr4
        rw [hQ] at s0
        exact df_cp (d := d) (F0 := va_up F 69 (upd (F 69) r (F 67 r))) hr4 T.length 0 _ _ (Nat.zero_add _) m1 A1 s0 (fun j hj => absurd hj (Nat.not_lt_zero _)) (fun q _ => rfl) (fun j _ => rfl) (fun h1 F1 m2 A2 C2 k2 k3 => post h1 F1 _ m2 A2 (fun T' hT' => by rw [hQ] at hT'; cases hT'; exact C2) k2 (fun j hj => by rw [k3 j hj, va_up_ne _ _ (by decide)]))
    obtain ⟨h', e, f⟩ := fin
    exact ⟨h', pre e, f.1, fr.tr (A := fun q => 59 ≤ q) (fr.st (by decide)) f.2⟩
theorem m_define3 {t : Tr} (hw : wf t false) (R : RM h (rn t false) mc P run pc rws mv) (hs : (sd t false 0 0 0).1 = true) : ∃ h', mt (d + 4) 94 [.inr (some 59)] h (some (.inl (-1))) h' ∧ RM h' [] (nI ((rn t false).count 123)) (fun r => lt (65 + r) t 0) false pc rws mv ∧ fr h h' (fun q => 59 ≤ q) := by
  obtain ⟨pcs, ms, th, F, h1, h2, F1, m, m1, rfl, e1, e2, m2, A2, fl1, t1, hmc, hP, hpc, hW, f⟩ := m_defA (d := d) hw R
  rw [hs] at e2
  have hN : sz t false ≤ 60 := Nat.le_trans (sz_le t false) t1
  obtain ⟨h3, F3, e3, m3, A3, k3, S3, f3⟩ := m_project (d := d) hw hN t1 fl1 m2 A2
  have m4 := m3.o (nI 0) (nI (sz t false)) th (nI 0) run mv
  have A4 := A3.o (moC (nI 0) (nI (sz t false)) th (nI 0) run mv)
  have hcnt : cntM F3 (sz t false) 0 = (rn t false).count 123 := cnt_tree t false 0 (-1) 0 hw (Fl_c (k3 61 (by decide) (by decide)) (k3 62 (by decide) (by decide)) (k3 63 (by decide) (by decide)) (k3 64 (by decide) (by decide)) (k3 65 (by decide) (by decide)) t false 0 (-1) 0 fl1)
  obtain ⟨h', e, q, ff⟩ := df_cnt (d := d) (Φ := fun h' => RM h' [] (nI ((rn t false).count 123)) (fun r => lt (65 + r) t 0) false pc rws mv) hN (sz t false) 0 0 _ (Nat.zero_add _) (by omega) m4 A4 (fun h5 m5 A5 => by
    rw [hcnt, Nat.zero_add] at m5
    obtain ⟨h', e, q, ff⟩ := df_roles (d := d) (Q := ltx t) (F0 := F3) (Φ := fun h' => RM h' [] (nI ((rn t false).count 123)) (fun r => lt (65 + r) t 0) false pc rws mv) 4 0 h5 F3 none rfl m5 A5 S3 (fun s hs => absurd hs (Nat.not_lt_zero _)) (fun q _ _ => rfl) (fun h6 F6 m6 A6 S6 C6 k6 w => by
      have m7 := m6.o (nI 0) (nI (sz t false)) true (nI ((rn t false).count 123)) run mv
      have A7 := A6.o (moC (nI 0) (nI (sz t false)) true (nI ((rn t false).count 123)) run mv)
      have m8 := m7.o (nI 0) (nI (sz t false)) true (nI ((rn t false).count 123)) false mv
      have A8 := A7.o (moC (nI 0) (nI (sz t false)) true (nI ((rn t false).count 123)) false mv)
      refine ⟨_, ?_, ⟨_, _, true, F6, m8, A8, MT_nil, rfl, fun r hr => ?_, fun r hr => ?_, fun k hk => ?_⟩, fr.tr (A := fun q => 59 ≤ q) (fr.st (by decide)) (fr.st (by decide))⟩
      · unfold mo at m6 m7
        (repeat (first | refine ax_st rfl ?_ | (apply ev_get rfl; assumption; rfl))); try dsimp only
        refine ev_put rfl m6 ?_ ?_ ?_; exact Nat.le_of_ble_eq_true rfl; rfl
        (repeat (first | refine ax_st rfl ?_ | (apply ev_get rfl; assumption; rfl))); try dsimp only
        refine ev_put rfl m7 ?_ ?_ ?_; exact Nat.le_of_ble_eq_true rfl; rfl
        (repeat (first | refine ax_st rfl ?_ | (apply ev_get rfl; assumption; rfl))); try dsimp only
        exact ax_rt rfl
      · rw [if_pos rfl]
        have s6 := S6 r hr
        have c6 := C6 r hr
        unfold ltx at s6 c6
        show MP1 F6 r (lt (65 + r) t 0)
        cases hlt : lt (65 + r) t 0 with
        | none =>
          rw [hlt] at s6
          exact c6.1.trans s6
        | some l =>
          rw [hlt] at s6 c6
          exact ⟨c6.1.trans s6.1, s6.2.1, s6.2.2.1, c6.2 _ rfl⟩
      · rw [k6 70 (by decide) (by decide), k3 70 (by decide) (by decide)]
        exact hpc r hr
      · exact (hW k hk).c (fun i _ => by rw [k6 71 (by decide) (by decide), k3 71 (by decide) (by decide)]) (by rw [k6 72 (by decide) (by decide), k3 72 (by decide) (by decide)]))
    refine ⟨h', ?_, q, ff⟩
    repeat (first | (exact e) | refine ax_st rfl ?_ | (apply ev_get rfl; assumption; rfl))
    )
  refine ⟨h', ?_, q, (f.tr f3).tr (fr.tr (A := fun q => 59 ≤ q) (fr.st (by decide)) ff)⟩
  have m2' := m2
  have m3' := m3
  unfold mo at m m1 m2' m3'
  clear m4
  (repeat (first | refine ax_st rfl ?_ | (apply ev_get rfl; assumption; rfl))); try dsimp only
  refine ev_callV rfl m ⟨rfl, rfl, Nat.le_of_ble_eq_true rfl, Nat.le_of_ble_eq_true rfl⟩ (e1) ?_
  (repeat (first | refine ax_st rfl ?_ | (apply ev_get rfl; assumption; rfl))); try dsimp only
  refine ev_put rfl m1 ?_ ?_ ?_; exact Nat.le_of_ble_eq_true rfl; rfl
  (repeat (first | refine ax_st rfl ?_ | (apply ev_get rfl; assumption; rfl))); try dsimp only
  refine ev_callV rfl m2' ⟨rfl, rfl, Nat.le_of_ble_eq_true rfl, Nat.le_of_ble_eq_true rfl⟩ (e2) ?_
  (repeat (first | refine ax_st rfl ?_ | (apply ev_get rfl; assumption; rfl))); try dsimp only
  refine ev_callU rfl m2' ⟨rfl, rfl, Nat.le_of_ble_eq_true rfl, Nat.le_of_ble_eq_true rfl⟩ (e3) ?_
  (repeat (first | refine ax_st rfl ?_ | (apply ev_get rfl; assumption; rfl))); try dsimp only
  refine ev_put rfl m3' ?_ ?_ ?_; exact Nat.le_of_ble_eq_true rfl; rfl
  repeat (first | (exact e) | refine ax_st rfl ?_ | (apply ev_get rfl; assumption; rfl))
end MDF
