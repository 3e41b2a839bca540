/-! The reference: receive, ready, over, begin. -/
section MD5
variable {d : Nat} {h : ax_H} {tp : List Nat} {mc mv : Int32} {P : Nat → Option Tr} {run : Bool} {pc : Nat → Nat} {rws : Nat → List Int32}
theorem m_receive {x : Int32} (R : RM h tp mc P run pc rws mv) (I : mI run P pc) : ∃ h', mt (d + 5) 108 [.inr (some 59), .inl x] h (some (.inl (qRcv run P pc rws x))) h' ∧ RM h' tp mc P run (if rOK run P pc rws x = true then va_up pc x.toNatClampNeg (stl (ptx P x.toNatClampNeg) 100 (pbl (ptx P x.toNatClampNeg) (pc x.toNatClampNeg) ((rws (4 * pn (ptx P x.toNatClampNeg) (pc x.toNatClampNeg) + x.toNatClampNeg)).headD 0)).toNatClampNeg) else pc) (if rOK run P pc rws x = true then va_up rws (4 * pn (ptx P x.toNatClampNeg) (pc x.toNatClampNeg) + x.toNatClampNeg) (rws (4 * pn (ptx P x.toNatClampNeg) (pc x.toNatClampNeg) + x.toNatClampNeg)).tail else rws) (if rOK run P pc rws x = true then mv + 1 else mv) ∧ fr h h' (fun q => 59 ≤ q) := by
  have R0 := R
  by_cases hq : run = true ∧ isN x = true
  · obtain ⟨rfl, hN⟩ := hq
    obtain ⟨r, hr, rfl⟩ := isN_iff.mp hN
    have hcl : (nI r).toNatClampNeg = r := nI_clamp (by omega)
    have II := fun r hr => (I.1 rfl r hr).1
    have hok := (I.1 rfl r hr).2
    have hb := I.2 r hr
    obtain ⟨pcs, ms, th, F, m, A, hF⟩ := R
    have S : mS F r (ptx P r) := by
      obtain ⟨l', hl'⟩ := II r hr
      have hp := hF.2.2.1 r hr
      cases th with
      | false => rw [if_neg (by decide), hl'] at hp; cases hp
      | true => rw [if_pos rfl, hl'] at hp; unfold ptx; rw [hl']; exact hp
    have hpc := hF.2.2.2.1 r hr
    have m0 := m
    unfold mo at m
    have hple : pac (ptx P r) (pc r) ≤ 2 := by unfold pac; repeat' split
                                               all_goals omega
    unfold qRcv rOK
    rw [hcl]
    by_cases h1 : pac (ptx P r) (pc r) = 2
    · obtain ⟨hR, hp4, hpo⟩ := pac_R (T := ptx P r) (p := pc r) (by rw [h1]; decide)
      rw [if_pos ⟨rfl, hN, h1⟩]
      have sl := S.2.1
      have h71 := A.a71
      have h72 := A.a72
      obtain ⟨w1, w2, w3⟩ := hF.2.2.2.2 (4 * pn (ptx P r) (pc r) + r) (by omega)
      have pre : ∀ {h' : ax_H} {res : Int32}, Ev (d + 5) 108 19 [some (.inr (some 59)), some (.inl (nI r)), some (.inl (nI (4 * pn (ptx P r) (pc r) + r))), none] [.inl (nI (rws (4 * pn (ptx P r) (pc r) + r)).length)] h (some (.inl res)) h' → mt (d + 5) 108 [.inr (some 59), .inl (nI r)] h (some (.inl res)) h' := by
        intro h' res e1
        (repeat (first | refine ax_st rfl ?_ | (apply ev_get rfl; assumption; rfl))); try dsimp only
        refine ev_callV rfl m ⟨rfl, rfl, Nat.le_of_ble_eq_true rfl, Nat.le_of_ble_eq_true rfl⟩ (m_act m0 A S hr (by omega) hpc hok) ?_
        rw [h1]
        (repeat (first | refine ax_st rfl ?_ | (apply ev_get rfl; assumption; rfl))); try dsimp only
        refine ev_callV rfl m ⟨rfl, rfl, Nat.le_of_ble_eq_true rfl, Nat.le_of_ble_eq_true rfl⟩ (m_partner m0 A S hr (by omega) hpc hok) ?_
        rw [hpo]
        (repeat (first | refine ax_st rfl ?_ | (apply ev_get rfl; assumption; rfl))); try dsimp only
        rw [show (4 : Int32) * nI (pn (ptx P r) (pc r)) = nI (4 * pn (ptx P r) (pc r)) from pk_mul 4 _, nI_add]
        refine ev_ald rfl h72 ?_ ?_; exact in_nI (by omega) (by decide)
        rw [nI_clamp (by omega), w1]
        exact e1
      generalize hk : 4 * pn (ptx P r) (pc r) + r = k at *
      have hk16 : k < 16 := by omega
      generalize hrow : rws k = row at *
      cases row with
      | nil =>
        rw [decide_eq_false (fun z => z.2.2.2.1 rfl)]
        refine ⟨h, pre ?_, R0, fr.rf⟩
        (repeat (first | refine ax_st rfl ?_ | (apply ev_get rfl; assumption; rfl))); try dsimp only
        exact ax_rt rfl
      | cons y row =>
        have hl3 : (y :: row).length ≤ 3 := w2
        have w30 : F 71 (3 * k) = y := by
          have := w3 0 (by simp)
          simpa using this
        rw [List.headD_cons, List.tail_cons]
        have pre2 : ∀ {h' : ax_H} {res : Int32}, Ev (d + 5) 108 33 [some (.inr (some 59)), some (.inl (nI r)), some (.inl (nI k)), some (.inl y)] [.inl (bi (decide (pbl (ptx P r) (pc r) y ≠ -1)))] h (some (.inl res)) h' → mt (d + 5) 108 [.inr (some 59), .inl (nI r)] h (some (.inl res)) h' := by
          intro h' res e1
          refine pre ?_
          refine ax_st rfl ?_
          dsimp only
          refine ev_t (nI_ne0 (by simp) (by omega)) ?_
          (repeat (first | refine ax_st rfl ?_ | (apply ev_get rfl; assumption; rfl))); try dsimp only
          rw [show (3 : Int32) * nI k = nI (3 * k) from pk_mul 3 k]
          refine ev_ald rfl h71 ?_ ?_; exact in_nI (by omega) (by decide)
          rw [nI_clamp (by omega), w30]
          (repeat (first | refine ax_st rfl ?_ | (apply ev_get rfl; assumption; rfl))); try dsimp only
          refine ev_callV rfl m ⟨rfl, rfl, Nat.le_of_ble_eq_true rfl, Nat.le_of_ble_eq_true rfl⟩ (m_offers y m0 A S hr (by omega) hpc hok) ?_
          exact e1
        by_cases h3 : pbl (ptx P r) (pc r) y = -1
        · rw [decide_eq_false (fun z => z.2.2.2.2 h3)]
          dsimp only
          rw [if_pos h3]
          refine ⟨h, pre2 ?_, R0, fr.rf⟩
          rw [decide_eq_false (fun z => z h3)]
          (repeat (first | refine ax_st rfl ?_ | (apply ev_get rfl; assumption; rfl))); try dsimp only
          exact ax_rt rfl
        · obtain ⟨q, hq1, hq2⟩ := (pbl_nI (ptx P r) (pc r) y).resolve_left h3
          rw [decide_eq_true ⟨rfl, hN, h1, by simp, h3⟩]
          dsimp only
          rw [if_neg h3, if_pos rfl, if_pos rfl, if_pos rfl, hq1, nI_clamp (by omega)]
          have A1 := A.s71 (upd (F 71) (3 * k) (F 71 (3 * k + 1)))
          have m1 := m0.s 71 (by decide) (.inl (0, 48, .inl (upd (F 71) (3 * k) (F 71 (3 * k + 1)))))
          have A2 := A1.s71 (upd (upd (F 71) (3 * k) (F 71 (3 * k + 1))) (3 * k + 1) (F 71 (3 * k + 2)))
          have m2 := m1.s 71 (by decide) (.inl (0, 48, .inl (upd (upd (F 71) (3 * k) (F 71 (3 * k + 1))) (3 * k + 1) (F 71 (3 * k + 2)))))
          have A3 := A2.s72 (upd (F 72) k (nI row.length))
          have m3 := m2.s 72 (by decide) (.inl (0, 16, .inl (upd (F 72) k (nI row.length))))
          have m4 := m3.o (nI tp.length) pcs th ms true (mv + 1)
          have A4 := A3.o (moC (nI tp.length) pcs th ms true (mv + 1))
          have g68 : ∀ q, q ≠ 71 → q ≠ 72 → (va_up (va_up (va_up F 71 (upd (F 71) (3 * k) (F 71 (3 * k + 1)))) 71 (upd (upd (F 71) (3 * k) (F 71 (3 * k + 1))) (3 * k + 1) (F 71 (3 * k + 2)))) 72 (upd (F 72) k (nI row.length))) q = F q := fun q z1 z2 => by rw [va_up_ne _ _ z2, va_up_ne _ _ z1, va_up_ne _ _ z1]
          have S4 := S.c (g68 68 (by decide) (by decide)) (g68 69 (by decide) (by decide))
          have hpc4 := (congrFun (g68 70 (by decide) (by decide)) r).trans hpc
          obtain ⟨h', e5, m5, A5, f5⟩ := m_settle (d := d + 2) m4 A4 S4 hr (p := q) (by omega)
          refine ⟨h', pre2 ?_, ?_, (fr.tr (A := fun q => 59 ≤ q) (fr.tr (A := fun q => 59 ≤ q) (fr.tr (A := fun q => 59 ≤ q) (fr.st (by decide)) (fr.st (by decide))) (fr.st (by decide))) (fr.st (by decide))).tr (f5.wk (fun q z => by omega))⟩
          · have m1' := m1
            have m2' := m2
            have m3' := m3
            have m4' := m4
            unfold mo at m1' m2' m3' m4'
            have h71' := A1.a71
            rw [va_up_self] at h71'
            have h72' := A2.a72
            rw [va_up_ne _ _ (by decide), va_up_ne _ _ (by decide)] at h72'
            rw [decide_eq_true h3]
            (repeat (first | refine ax_st rfl ?_ | (apply ev_get rfl; assumption; rfl))); try dsimp only
            rw [show (3 : Int32) * nI k = nI (3 * k) from pk_mul 3 k, nI_1]
            refine ev_ald rfl h71 ?_ ?_; exact in_nI (by omega) (by decide)
            rw [nI_clamp (by omega)]
            refine ev_ast rfl h71 ?_ ?_; exact in_nI (by omega) (by decide)
            rw [if_neg (by decide), nI_clamp (by omega)]
            (repeat (first | refine ax_st rfl ?_ | (apply ev_get rfl; assumption; rfl))); try dsimp only
            rw [show (3 : Int32) * nI k = nI (3 * k) from pk_mul 3 k, nI_1, show nI (3 * k) + 2 = nI (3 * k + 2) from nI_add _ 2]
            refine ev_ald rfl h71' ?_ ?_; exact in_nI (by omega) (by decide)
            rw [nI_clamp (by omega), show upd (F 71) (3 * k) (F 71 (3 * k + 1)) (3 * k + 2) = F 71 (3 * k + 2) from by unfold upd; rw [if_neg (by omega)]]
            refine ev_ast rfl h71' ?_ ?_; exact in_nI (by omega) (by decide)
            rw [if_neg (by decide), nI_clamp (by omega)]
            (repeat (first | refine ax_st rfl ?_ | (apply ev_get rfl; assumption; rfl))); try dsimp only
            refine ev_ald rfl h72' ?_ ?_; exact in_nI (by omega) (by decide)
            rw [nI_clamp (by omega), w1]
            (repeat (first | refine ax_st rfl ?_ | (apply ev_get rfl; assumption; rfl))); try dsimp only
            rw [show nI (y :: row).length - 1 = nI row.length from nI_pred _]
            refine ev_ast rfl h72' ?_ ?_; exact in_nI (by omega) (by decide)
            rw [if_neg (by decide), nI_clamp (by omega)]
            (repeat (first | refine ax_st rfl ?_ | (apply ev_get rfl; assumption; rfl))); try dsimp only
            refine ev_put rfl m3' ?_ ?_ ?_; exact Nat.le_of_ble_eq_true rfl; rfl
            (repeat (first | refine ax_st rfl ?_ | (apply ev_get rfl; assumption; rfl))); try dsimp only
            refine ev_callV rfl m4' ⟨rfl, rfl, Nat.le_of_ble_eq_true rfl, Nat.le_of_ble_eq_true rfl⟩ (m_branch y m4 A4 S4 hr (by omega) hpc4 hok) ?_
            rw [pbr_pbl (isB_of h3), hq1]
            refine ev_callU rfl m4' ⟨rfl, rfl, Nat.le_of_ble_eq_true rfl, Nat.le_of_ble_eq_true rfl⟩ (e5) ?_
            (repeat (first | refine ax_st rfl ?_ | (apply ev_get rfl; assumption; rfl))); try dsimp only
            exact ax_rt rfl
          · refine m_moved R0 II hF m5 A5 ?_ ?_ ?_ ?_ ?_ ?_ ?_
            · rw [va_up_ne _ _ (by decide), g68 _ (by decide) (by decide)]
            · rw [va_up_ne _ _ (by decide), g68 _ (by decide) (by decide)]
            · rw [va_up_ne _ _ (by decide), g68 _ (by decide) (by decide)]
            · rw [va_up_self, g68 _ (by decide) (by decide)]
            · intro n hn
              rw [va_up_ne _ _ (by decide), va_up_self]
              unfold upd
              rw [if_neg hn]
            · intro n i hn hi
              rw [va_up_ne _ _ (by decide), va_up_ne _ _ (by decide), va_up_self]
              unfold upd
              rw [if_neg (by omega), if_neg (by omega)]
            · refine ⟨?_, by simp at hl3; omega, fun i hi => ?_⟩
              · rw [va_up_ne _ _ (by decide), va_up_self]
                unfold upd
                rw [if_pos rfl]
              · rw [va_up_ne _ _ (by decide), va_up_ne _ _ (by decide), va_up_self]
                simp at hl3
                have w4 := w3 (i + 1) (by simp; omega)
                rw [show (y :: row).getD (i + 1) 0 = row.getD i 0 by simp] at w4
                rw [← w4]
                unfold upd
                by_cases hi2 : i = 0
                · subst hi2
                  rw [if_neg (by omega), if_pos (by omega)]
                · rw [if_pos (by omega), show i = 1 by omega]
    · rw [if_neg (fun z => h1 z.2.2), decide_eq_false (fun z => h1 z.2.2.1)]
      refine ⟨h, ?_, R0, fr.rf⟩
      (repeat (first | refine ax_st rfl ?_ | (apply ev_get rfl; assumption; rfl))); try dsimp only
      refine ev_callV rfl m ⟨rfl, rfl, Nat.le_of_ble_eq_true rfl, Nat.le_of_ble_eq_true rfl⟩ (m_act m0 A S hr (by omega) hpc hok) ?_
      (repeat (first | refine ax_st rfl ?_ | (apply ev_get rfl; assumption; rfl))); try dsimp only
      refine ev_f (fun z => h1 ((nI_eq (b := 2) (by omega) (by decide)).mp z)) ?_
      (repeat (first | refine ax_st rfl ?_ | (apply ev_get rfl; assumption; rfl))); try dsimp only
      exact ax_rt rfl
  · unfold qRcv rOK
    rw [if_neg (fun z => hq ⟨z.1, z.2.1⟩), decide_eq_false (fun z => hq ⟨z.1, z.2.1⟩)]
    refine ⟨h, ?_, R0, fr.rf⟩
    obtain ⟨pcs, ms, th, F, m, -⟩ := R
    have m0 := m
    unfold mo at m
    (repeat (first | refine ax_st rfl ?_ | (apply ev_get rfl; assumption; rfl))); try dsimp only
    refine ev_callV rfl m ⟨rfl, rfl, Nat.le_of_ble_eq_true rfl, Nat.le_of_ble_eq_true rfl⟩ (m_actN m0 (isNo hq)) ?_
    (repeat (first | refine ax_st rfl ?_ | (apply ev_get rfl; assumption; rfl))); try dsimp only
    exact ax_rt rfl
theorem m_can {r : Nat} (R : RM h tp mc P true pc rws mv) (I : mI true P pc) (hr : r < 4) : mt (d + 4) 112 [.inr (some 59), .inl (nI r)] h (some (.inl (bi (canGo P pc rws r)))) h := by
  have R0 := R
  obtain ⟨pcs, ms, th, F, m, A, S, hpc, hW⟩ := m_role R (fun r hr => (I.1 rfl r hr).1)
  have hok := (I.1 rfl r hr).2
  have hb := I.2 r hr
  have S := S r hr
  have hpc := hpc r hr
  have m0 := m
  unfold mo at m
  have h72 := A.a72
  have hple : pac (ptx P r) (pc r) ≤ 2 := by unfold pac; repeat' split
                                             all_goals omega
  unfold canGo
  (repeat (first | refine ax_st rfl ?_ | (apply ev_get rfl; assumption; rfl))); try dsimp only
  refine ev_callV rfl m ⟨rfl, rfl, Nat.le_of_ble_eq_true rfl, Nat.le_of_ble_eq_true rfl⟩ (m_act m0 A S hr (by omega) hpc hok) ?_
  by_cases h1 : pac (ptx P r) (pc r) = 1
  · obtain ⟨hR, hp4, hpo⟩ := pac_R (T := ptx P r) (p := pc r) (by rw [h1]; decide)
    obtain ⟨w1, w2, w3⟩ := hW (4 * r + pn (ptx P r) (pc r)) (by omega)
    rw [h1]
    (repeat (first | refine ax_st rfl ?_ | (apply ev_get rfl; assumption; rfl))); try dsimp only
    rw [show (4 : Int32) * nI r = nI (4 * r) from pk_mul 4 r]
    refine ev_callV rfl m ⟨rfl, rfl, Nat.le_of_ble_eq_true rfl, Nat.le_of_ble_eq_true rfl⟩ (m_partner m0 A S hr (by omega) hpc hok) ?_
    rw [hpo]
    (repeat (first | refine ax_st rfl ?_ | (apply ev_get rfl; assumption; rfl))); try dsimp only
    rw [nI_add]
    refine ev_ald rfl h72 ?_ ?_; exact in_nI (by omega) (by decide)
    rw [nI_clamp (by omega), w1]
    (repeat (first | refine ax_st rfl ?_ | (apply ev_get rfl; assumption; rfl))); try dsimp only
    by_cases h2 : 3 ≤ (rws (4 * r + pn (ptx P r) (pc r))).length
    · refine ev_t ((nI_leI (a := 3) (by decide) (by omega)).mpr h2) ?_
      rw [decide_eq_false (fun z => z.elim (fun z => by omega) (fun z => absurd z.1 (by decide)))]
      (repeat (first | refine ax_st rfl ?_ | (apply ev_get rfl; assumption; rfl))); try dsimp only
      exact ax_rt rfl
    · refine ev_f (fun z => h2 ((nI_leI (a := 3) (by decide) (by omega)).mp z)) ?_
      rw [decide_eq_true (Or.inl ⟨rfl, by omega⟩)]
      (repeat (first | refine ax_st rfl ?_ | (apply ev_get rfl; assumption; rfl))); try dsimp only
      exact ax_rt rfl
  · (repeat (first | refine ax_st rfl ?_ | (apply ev_get rfl; assumption; rfl))); try dsimp only
    refine ev_t (fun z => h1 ((nI_eq (b := 1) (by omega) (by decide)).mp z)) ?_
    (repeat (first | refine ax_st rfl ?_ | (apply ev_get rfl; assumption; rfl))); try dsimp only
    refine ev_callV rfl m ⟨rfl, rfl, Nat.le_of_ble_eq_true rfl, Nat.le_of_ble_eq_true rfl⟩ (m_act m0 A S hr (by omega) hpc hok) ?_
    (repeat (first | refine ax_st rfl ?_ | (apply ev_get rfl; assumption; rfl))); try dsimp only
    by_cases h2 : pac (ptx P r) (pc r) = 2
    · obtain ⟨hR, hp4, hpo⟩ := pac_R (T := ptx P r) (p := pc r) (by rw [h2]; decide)
      refine ev_f (fun z => z (by rw [h2]; rfl)) ?_
      have n1 : isN (nI (pn (ptx P r) (pc r))) = true := isN_iff.mpr ⟨_, hp4, rfl⟩
      have n2 : isN (nI r) = true := isN_iff.mpr ⟨_, hr, rfl⟩
      have eon : qOn true rws (nI (pn (ptx P r) (pc r))) (nI r) = nI (rws (4 * pn (ptx P r) (pc r) + r)).length := by
        unfold qOn
        rw [if_pos ⟨rfl, n1, n2⟩, nI_clamp (by omega), nI_clamp (by omega)]
      have elb : qLab true rws (nI (pn (ptx P r) (pc r))) (nI r) 0 = (rws (4 * pn (ptx P r) (pc r) + r)).headD (-1) := by
        unfold qLab
        rw [if_pos ⟨rfl, n1, n2⟩, nI_clamp (by omega), nI_clamp (by omega)]
        cases rws (4 * pn (ptx P r) (pc r) + r) <;> rfl
      obtain ⟨w1, w2, w3⟩ := hW (4 * pn (ptx P r) (pc r) + r) (by omega)
      (repeat (first | refine ax_st rfl ?_ | (apply ev_get rfl; assumption; rfl))); try dsimp only
      refine ev_callV rfl m ⟨rfl, rfl, Nat.le_of_ble_eq_true rfl, Nat.le_of_ble_eq_true rfl⟩ (m_partner m0 A S hr (by omega) hpc hok) ?_
      rw [hpo]
      (repeat (first | refine ax_st rfl ?_ | (apply ev_get rfl; assumption; rfl))); try dsimp only
      refine ev_callV rfl m ⟨rfl, rfl, Nat.le_of_ble_eq_true rfl, Nat.le_of_ble_eq_true rfl⟩ (m_on R0) ?_
      rw [eon]
      refine ax_st rfl ?_
      dsimp only
      generalize hrow : rws (4 * pn (ptx P r) (pc r) + r) = row at *
      cases row with
      | nil =>
        refine ev_t (by decide) ?_
        rw [decide_eq_false (fun z => z.elim (fun z => h1 z.1) (fun z => z.2 (by unfold pbl; rw [if_neg (fun w => absurd w.1 (by decide))])))]
        (repeat (first | refine ax_st rfl ?_ | (apply ev_get rfl; assumption; rfl))); try dsimp only
        exact ax_rt rfl
      | cons y row =>
        refine ev_f (fun z => absurd ((nI_leI (b := 0) (by omega) (by decide)).mp z) (by simp)) ?_
        (repeat (first | refine ax_st rfl ?_ | (apply ev_get rfl; assumption; rfl))); try dsimp only
        refine ev_callV rfl m ⟨rfl, rfl, Nat.le_of_ble_eq_true rfl, Nat.le_of_ble_eq_true rfl⟩ (m_partner m0 A S hr (by omega) hpc hok) ?_
        rw [hpo]
        (repeat (first | refine ax_st rfl ?_ | (apply ev_get rfl; assumption; rfl))); try dsimp only
        refine ev_callV rfl m ⟨rfl, rfl, Nat.le_of_ble_eq_true rfl, Nat.le_of_ble_eq_true rfl⟩ (m_lab R0) ?_
        rw [elb, List.headD_cons]
        refine ev_callV rfl m ⟨rfl, rfl, Nat.le_of_ble_eq_true rfl, Nat.le_of_ble_eq_true rfl⟩ (m_offers y m0 A S hr (by omega) hpc hok) ?_
        by_cases h3 : pbl (ptx P r) (pc r) y = -1
        · rw [decide_eq_false (fun z => z h3), decide_eq_false (fun z => z.elim (fun z => h1 z.1) (fun z => z.2 h3))]
          (repeat (first | refine ax_st rfl ?_ | (apply ev_get rfl; assumption; rfl))); try dsimp only
          exact ax_rt rfl
        · rw [decide_eq_true h3, decide_eq_true (Or.inr ⟨h2, h3⟩)]
          (repeat (first | refine ax_st rfl ?_ | (apply ev_get rfl; assumption; rfl))); try dsimp only
          exact ax_rt rfl
    · refine ev_t (fun z => h2 ((nI_eq (b := 2) (by omega) (by decide)).mp z)) ?_
      rw [decide_eq_false (fun z => z.elim (fun z => h1 z.1) (fun z => h2 z.1))]
      (repeat (first | refine ax_st rfl ?_ | (apply ev_get rfl; assumption; rfl))); try dsimp only
      exact ax_rt rfl
theorem m_canN {r : Nat} {n0 pcs ms : Int32} {th : Bool} (m : mo h n0 pcs th ms false mv) : mt (d + 4) 112 [.inr (some 59), .inl (nI r)] h (some (.inl 0)) h := by
  have m0 := m
  unfold mo at m
  (repeat (first | refine ax_st rfl ?_ | (apply ev_get rfl; assumption; rfl))); try dsimp only
  refine ev_callV rfl m ⟨rfl, rfl, Nat.le_of_ble_eq_true rfl, Nat.le_of_ble_eq_true rfl⟩ (m_actN m0 (Or.inl rfl)) ?_
  (repeat (first | refine ax_st rfl ?_ | (apply ev_get rfl; assumption; rfl))); try dsimp only
  refine ev_callV rfl m ⟨rfl, rfl, Nat.le_of_ble_eq_true rfl, Nat.le_of_ble_eq_true rfl⟩ (m_actN m0 (Or.inl rfl)) ?_
  (repeat (first | refine ax_st rfl ?_ | (apply ev_get rfl; assumption; rfl))); try dsimp only
  exact ax_rt rfl
theorem mr_step {r : Nat} {n b : Int32} {n0 pcs ms : Int32} {th : Bool} {ru : Bool} {c : Bool} {res : Int32} {h' : ax_H} (m : mo h n0 pcs th ms ru mv) (e : mt (d + 4) 112 [.inr (some 59), .inl (nI r)] h (some (.inl (bi c))) h) (hr : r < 4) (k : Ev (d + 5) 113 4 [some (.inr (some 59)), some (.inl (n + bi c)), some (.inl (nI (r + 1)))] [] h (some (.inl res)) h') : Ev (d + 5) 113 4 [some (.inr (some 59)), some (.inl n), some (.inl (nI r))] [] h (some (.inl res)) h' := by
  unfold mo at m
  rw [← nI_1 r] at k
  (repeat (first | refine ax_st rfl ?_ | (apply ev_get rfl; assumption; rfl))); try dsimp only
  refine ev_f (fun q => absurd ((nI_leI (a := 4) (by decide) (by omega)).mp q) (by omega)) ?_
  (repeat (first | refine ax_st rfl ?_ | (apply ev_get rfl; assumption; rfl))); try dsimp only
  refine ev_callV rfl m ⟨rfl, rfl, Nat.le_of_ble_eq_true rfl, Nat.le_of_ble_eq_true rfl⟩ (e) ?_
  cases c with
  | true =>
    repeat (first | (exact k) | refine ax_st rfl ?_ | (apply ev_get rfl; assumption; rfl))
  | false =>
    repeat (first | (exact k) | refine ax_st rfl ?_ | (apply ev_get rfl; assumption; rfl))
theorem m_ready (R : RM h tp mc P run pc rws mv) (I : mI run P pc) : mt (d + 5) 113 [.inr (some 59)] h (some (.inl (qRdy run P pc rws))) h := by
  have R0 := R
  obtain ⟨pcs, ms, th, F, m, -⟩ := R
  have m0 := m
  unfold mo at m
  unfold qRdy
  cases run with
  | false =>
    rw [if_neg (by decide)]
    have fin : Ev (d + 5) 113 4 [some (.inr (some 59)), some (.inl (0 + bi false + bi false + bi false + bi false)), some (.inl (nI 4))] [] h (some (.inl (-1))) h := by
      (repeat (first | refine ax_st rfl ?_ | (apply ev_get rfl; assumption; rfl))); try dsimp only
      exact ax_rt rfl
    have e1 := mr_step (b := 0) (n := 0) (r := 0) m0 (m_canN m0) (by decide) (mr_step (b := 0) (r := 1) m0 (m_canN m0) (by decide) (mr_step (b := 0) (r := 2) m0 (m_canN m0) (by decide) (mr_step (b := 0) (r := 3) m0 (m_canN m0) (by decide) fin)))
    repeat (first | (exact e1) | refine ax_st rfl ?_ | (apply ev_get rfl; assumption; rfl))
  | true =>
    rw [if_pos rfl]
    have fin : Ev (d + 5) 113 4 [some (.inr (some 59)), some (.inl (0 + bi (canGo P pc rws 0) + bi (canGo P pc rws 1) + bi (canGo P pc rws 2) + bi (canGo P pc rws 3))), some (.inl (nI 4))] [] h (some (.inl (bi (canGo P pc rws 0) + bi (canGo P pc rws 1) + bi (canGo P pc rws 2) + bi (canGo P pc rws 3)))) h := by
      rw [Int32.zero_add]
      (repeat (first | refine ax_st rfl ?_ | (apply ev_get rfl; assumption; rfl))); try dsimp only
      exact ax_rt rfl
    have e1 := mr_step (b := 0) (n := 0) (r := 0) m0 (m_can R0 I (by decide)) (by decide) (mr_step (b := 0) (r := 1) m0 (m_can R0 I (by decide)) (by decide) (mr_step (b := 0) (r := 2) m0 (m_can R0 I (by decide)) (by decide) (mr_step (b := 0) (r := 3) m0 (m_can R0 I (by decide)) (by decide) fin)))
    repeat (first | (exact e1) | refine ax_st rfl ?_ | (apply ev_get rfl; assumption; rfl))
theorem mo_loop2 {n0 pcs ms : Int32} {th ru : Bool} {F : Nat → Nat → Int32} (m : mo h n0 pcs th ms ru mv) (A : MA h F) (hW : ∀ k, k < 16 → MW1 F k (rws k)) : ∀ n k (b : Bool), k + n = 16 → Ev (d + 2) 114 22 [some (.inr (some 59)), some (.inl (bi b)), some (.inl (nI k))] [] h (some (.inl (bi (b && allB (fEmp rws) n k)))) h := by
  unfold mo at m
  have h72 := A.a72
  intro n
  induction n with
  | zero =>
    intro k b hk
    have : k = 16 := by omega
    subst this
    rw [show (b && allB (fEmp rws) 0 16) = b from Bool.and_true b]
    cases b with
    | true =>
      (repeat (first | refine ax_st rfl ?_ | (apply ev_get rfl; assumption; rfl))); try dsimp only
      exact ax_rt rfl
    | false =>
      (repeat (first | refine ax_st rfl ?_ | (apply ev_get rfl; assumption; rfl))); try dsimp only
      exact ax_rt rfl
  | succ n ih =>
    intro k b hk
    have e1 := fun b => ih (k + 1) b (by omega)
    simp only [← nI_1 k] at e1
    obtain ⟨w1, w2, w3⟩ := hW k (by omega)
    (repeat (first | refine ax_st rfl ?_ | (apply ev_get rfl; assumption; rfl))); try dsimp only
    refine ev_f (fun q => absurd ((nI_leI (a := 16) (by decide) (by omega)).mp q) (by omega)) ?_
    cases b with
    | false =>
      have e2 := e1 false
      rw [Bool.false_and] at e2 ⊢
      repeat (first | (exact e2) | refine ax_st rfl ?_ | (apply ev_get rfl; assumption; rfl))
    | true =>
      rw [Bool.true_and]
      unfold allB
      (repeat (first | refine ax_st rfl ?_ | (apply ev_get rfl; assumption; rfl))); try dsimp only
      refine ev_ald rfl h72 ?_ ?_; exact in_nI (by omega) (by decide)
      rw [nI_clamp (by omega), w1]
      refine ax_st rfl ?_
      dsimp only
      by_cases h0 : rws k = []
      · rw [show fEmp rws k = true from by unfold fEmp; rw [h0]; rfl, Bool.true_and]
        have e2 := e1 true
        rw [Bool.true_and] at e2
        refine ev_f (fun z => z (by rw [h0]; rfl)) ?_
        repeat (first | (exact e2) | refine ax_st rfl ?_ | (apply ev_get rfl; assumption; rfl))
      · have : 0 < (rws k).length := List.length_pos_iff.mpr h0
        rw [show fEmp rws k = false from by unfold fEmp; simpa using h0, Bool.false_and]
        have e2 := e1 false
        rw [Bool.false_and] at e2
        refine ev_t (nI_ne0 (by omega) (by omega)) ?_
        repeat (first | (exact e2) | refine ax_st rfl ?_ | (apply ev_get rfl; assumption; rfl))
theorem mo_loop1 {n0 pcs ms : Int32} {th ru : Bool} {F : Nat → Nat → Int32} (m : mo h n0 pcs th ms ru mv) (A : MA h F) (I : ru = true → ∀ r, r < 4 → mS F r (ptx P r) ∧ okAt (ptx P r) (pc r) ∧ pc r < 2 ^ 20 ∧ F 70 r = nI (pc r)) (hW : ∀ k, k < 16 → MW1 F k (rws k)) : ∀ n k (b : Bool), (ru = false → b = false) → k + n = 4 → Ev (d + 2) 114 5 [some (.inr (some 59)), some (.inl (bi b)), some (.inl (nI k))] [] h (some (.inl (bi ((b && allB (fEnd P pc) n k) && allB (fEmp rws) 16 0)))) h := by
  have m0 := m
  unfold mo at m
  intro n
  induction n with
  | zero =>
    intro k b hb hk
    have : k = 4 := by omega
    subst this
    rw [show (b && allB (fEnd P pc) 0 4) = b from Bool.and_true b]
    have e1 := mo_loop2 (d := d) m0 A hW 16 0 b rfl
    repeat (first | (exact e1) | refine ax_st rfl ?_ | (apply ev_get rfl; assumption; rfl))
  | succ n ih =>
    intro k b hb hk
    have e1 := fun b z => ih (k + 1) b z (by omega)
    simp only [← nI_1 k] at e1
    (repeat (first | refine ax_st rfl ?_ | (apply ev_get rfl; assumption; rfl))); try dsimp only
    refine ev_f (fun q => absurd ((nI_leI (a := 4) (by decide) (by omega)).mp q) (by omega)) ?_
    cases b with
    | false =>
      have e2 := e1 false (fun _ => rfl)
      rw [Bool.false_and] at e2 ⊢
      repeat (first | (exact e2) | refine ax_st rfl ?_ | (apply ev_get rfl; assumption; rfl))
    | true =>
      cases ru with
      | false => cases hb rfl
      | true =>
        obtain ⟨S, hok, hp, hpc⟩ := I rfl k (by omega)
        have hple : pac (ptx P k) (pc k) ≤ 2 := by unfold pac; repeat' split
                                                   all_goals omega
        rw [Bool.true_and]
        unfold allB
        (repeat (first | refine ax_st rfl ?_ | (apply ev_get rfl; assumption; rfl))); try dsimp only
        refine ev_callV rfl m ⟨rfl, rfl, Nat.le_of_ble_eq_true rfl, Nat.le_of_ble_eq_true rfl⟩ (m_act m0 A S (by omega) (by omega) hpc hok) ?_
        refine ax_st rfl ?_
        dsimp only
        by_cases h0 : pac (ptx P k) (pc k) = 0
        · rw [show fEnd P pc k = true from decide_eq_true h0, Bool.true_and]
          have e2 := e1 true (fun z => by cases z)
          rw [Bool.true_and] at e2
          refine ev_f (fun z => z (by rw [h0]; rfl)) ?_
          repeat (first | (exact e2) | refine ax_st rfl ?_ | (apply ev_get rfl; assumption; rfl))
        · rw [show fEnd P pc k = false from decide_eq_false h0, Bool.false_and]
          have e2 := e1 false (fun z => by cases z)
          rw [Bool.false_and] at e2
          refine ev_t (nI_ne0 (by omega) (by omega)) ?_
          repeat (first | (exact e2) | refine ax_st rfl ?_ | (apply ev_get rfl; assumption; rfl))
theorem m_over (R : RM h tp mc P run pc rws mv) (I : mI run P pc) : mt (d + 2) 114 [.inr (some 59)] h (some (.inl (bi (qOvr run P pc rws)))) h := by
  have R0 := R
  obtain ⟨pcs, ms, th, F, m, A, hF⟩ := R
  have hI : run = true → ∀ r, r < 4 → mS F r (ptx P r) ∧ okAt (ptx P r) (pc r) ∧ pc r < 2 ^ 20 ∧ F 70 r = nI (pc r) := by
    intro hr r hr4
    obtain ⟨⟨l', hl'⟩, hok⟩ := I.1 hr r hr4
    have hp := hF.2.2.1 r hr4
    refine ⟨?_, hok, I.2 r hr4, hF.2.2.2.1 r hr4⟩
    cases th with
    | false => rw [if_neg (by decide), hl'] at hp; cases hp
    | true => rw [if_pos rfl, hl'] at hp; unfold ptx; rw [hl']; exact hp
  have e1 := mo_loop1 (d := d) (P := P) (pc := pc) (rws := rws) m A hI hF.2.2.2.2 4 0 run (fun z => z) rfl
  rw [Bool.and_assoc] at e1
  unfold qOvr
  unfold mo at m
  repeat (first | (exact e1) | refine ax_st rfl ?_ | (apply ev_get rfl; assumption; rfl))
end MD5
