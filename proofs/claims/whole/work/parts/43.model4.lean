/-! The reference: its calls in a run. -/
section MD4
variable {d : Nat} {h : ax_H} {tp : List Nat} {mc mv : Int32} {P : Nat → Option Tr} {run : Bool} {pc : Nat → Nat} {rws : Nat → List Int32}
theorem m_type {x : Nat} (hx : x < 65536) (R : RM h tp mc P run pc rws mv) : ∃ h', mt d 76 [.inr (some 59), .inl (nI x)] h (some (.inl (bi (decide (32 ≤ x ∧ x ≤ 126 ∧ tp.length < 60))))) h' ∧ RM h' (if 32 ≤ x ∧ x ≤ 126 ∧ tp.length < 60 then tp ++ [x] else tp) mc P run pc rws mv ∧ fr h h' (fun q => 59 ≤ q) := by
  have R0 := R
  obtain ⟨pcs, ms, th, F, m, A, ⟨t1, t2, t3⟩, hmc, hP, hpc, hW⟩ := R
  have m0 := m
  unfold mo at m
  have h60 := A.a60
  by_cases h1 : 32 ≤ x ∧ x ≤ 126
  · by_cases h2 : tp.length < 60
    · rw [if_pos ⟨h1.1, h1.2, h2⟩, decide_eq_true ⟨h1.1, h1.2, h2⟩]
      have A1 := A.s60 (upd (F 60) tp.length (nI x))
      have m1 := m0.s 60 (by decide) (.inl (1, 60, .inl (upd (F 60) tp.length (nI x))))
      have m2 := m1.o (nI (tp.length + 1)) pcs th ms run mv
      have A2 := A1.o (moC (nI (tp.length + 1)) pcs th ms run mv)
      have hl : (tp ++ [x]).length = tp.length + 1 := by simp
      refine ⟨_, ?_, ⟨pcs, ms, th, _, by rw [hl]; exact m2, A2, ⟨by omega, ?_, ?_⟩, hmc, ?_, ?_, ?_⟩, fr.tr (A := fun q => 59 ≤ q) (fr.st (by decide)) (fr.st (by decide))⟩
      · unfold mo at m1
        (repeat (first | refine ax_st rfl ?_ | (apply ev_get rfl; assumption; rfl))); try dsimp only
        refine ev_f (fun q => absurd ((nI_ltI (b := 32) (by omega) (by decide)).mp q) (by omega)) ?_
        (repeat (first | refine ax_st rfl ?_ | (apply ev_get rfl; assumption; rfl))); try dsimp only
        refine ev_f (fun q => absurd ((nI_ltI (a := 126) (by decide) (by omega)).mp q) (by omega)) ?_
        (repeat (first | refine ax_st rfl ?_ | (apply ev_get rfl; assumption; rfl))); try dsimp only
        refine ev_t (fun q => absurd ((nI_eq (b := 60) (by omega) (by decide)).mp q) (by omega)) ?_
        (repeat (first | refine ax_st rfl ?_ | (apply ev_get rfl; assumption; rfl))); try dsimp only
        refine ev_ast rfl h60 ?_ ?_; exact in_nI (by omega) (by decide)
        rw [if_pos rfl, nI_clamp (by omega), cf_nar (cf_nI hx)]
        (repeat (first | refine ax_st rfl ?_ | (apply ev_get rfl; assumption; rfl))); try dsimp only
        refine ev_put rfl m1 ?_ ?_ ?_; exact Nat.le_of_ble_eq_true rfl; rfl
        rw [nI_1 tp.length]
        (repeat (first | refine ax_st rfl ?_ | (apply ev_get rfl; assumption; rfl))); try dsimp only
        exact ax_rt rfl
      · intro y hy
        rcases List.mem_append.mp hy with q | q
        · exact t2 y q
        · rw [List.mem_singleton.mp q]; exact hx
      · intro k hk
        rw [va_up_self]
        unfold upd
        by_cases hk2 : k = tp.length
        · subst hk2
          simp [List.getD]
        · rw [if_neg hk2, t3 k (by omega)]
          simp only [List.getD, List.getElem?_append_left (show k < tp.length by omega)]
      · intro r hr
        have := hP r hr
        split
        · next ht =>
          rw [if_pos ht] at this
          exact this.c (va_up_ne _ _ (by decide)) (va_up_ne _ _ (by decide))
        · next ht =>
          rw [if_neg ht] at this
          exact this
      · intro r hr
        rw [va_up_ne _ _ (by decide)]
        exact hpc r hr
      · intro k hk
        exact (hW k hk).c (fun i _ => by rw [va_up_ne _ _ (by decide)]) (by rw [va_up_ne _ _ (by decide)])
    · rw [if_neg (fun q => h2 q.2.2), decide_eq_false (fun q => h2 q.2.2)]
      refine ⟨h, ?_, R0, fr.rf⟩
      (repeat (first | refine ax_st rfl ?_ | (apply ev_get rfl; assumption; rfl))); try dsimp only
      refine ev_f (fun q => absurd ((nI_ltI (b := 32) (by omega) (by decide)).mp q) (by omega)) ?_
      (repeat (first | refine ax_st rfl ?_ | (apply ev_get rfl; assumption; rfl))); try dsimp only
      refine ev_f (fun q => absurd ((nI_ltI (a := 126) (by decide) (by omega)).mp q) (by omega)) ?_
      (repeat (first | refine ax_st rfl ?_ | (apply ev_get rfl; assumption; rfl))); try dsimp only
      refine ev_f (fun q => q (by rw [show tp.length = 60 by omega]; rfl)) ?_
      (repeat (first | refine ax_st rfl ?_ | (apply ev_get rfl; assumption; rfl))); try dsimp only
      exact ax_rt rfl
  · rw [if_neg (fun q => h1 ⟨q.1, q.2.1⟩), decide_eq_false (fun q => h1 ⟨q.1, q.2.1⟩)]
    refine ⟨h, ?_, R0, fr.rf⟩
    (repeat (first | refine ax_st rfl ?_ | (apply ev_get rfl; assumption; rfl))); try dsimp only
    refine ev_if (fun c1 => ?_) (fun c1 => ?_)
    · (repeat (first | refine ax_st rfl ?_ | (apply ev_get rfl; assumption; rfl))); try dsimp only
      exact ax_rt rfl
    · have c1 : ¬ x < 32 := fun q => c1 ((nI_ltI (b := 32) (by omega) (by decide)).mpr q)
      (repeat (first | refine ax_st rfl ?_ | (apply ev_get rfl; assumption; rfl))); try dsimp only
      refine ev_t ((nI_ltI (a := 126) (by decide) (by omega)).mpr (by omega)) ?_
      (repeat (first | refine ax_st rfl ?_ | (apply ev_get rfl; assumption; rfl))); try dsimp only
      exact ax_rt rfl
/-- what is known in a run -/
def mI (run : Bool) (P : Nat → Option Tr) (pc : Nat → Nat) : Prop := (run = true → ∀ r, r < 4 → (∃ l, P r = some l) ∧ okAt (ptx P r) (pc r)) ∧ ∀ r, r < 4 → pc r < 2 ^ 20
theorem m_actR {x : Int32} (R : RM h tp mc P run pc rws mv) (I : mI run P pc) : mt (d + 1) 103 [.inr (some 59), .inl x] h (some (.inl (qAct run P pc x))) h := by
  unfold qAct
  by_cases hq : run = true ∧ isN x = true
  · rw [if_pos hq]
    obtain ⟨rfl, hN⟩ := hq
    obtain ⟨r, hr, rfl⟩ := isN_iff.mp hN
    rw [nI_clamp (by omega)]
    obtain ⟨pcs, ms, th, F, m, A, S, hpc, hW⟩ := m_role R (fun r hr => (I.1 rfl r hr).1)
    have := I.2 r hr
    exact m_act m A (S r hr) hr (by omega) (hpc r hr) (I.1 rfl r hr).2
  · rw [if_neg hq]
    obtain ⟨pcs, ms, th, F, m, -⟩ := R
    exact m_actN m (isNo hq)
theorem m_partnerR {x : Int32} (R : RM h tp mc P run pc rws mv) (I : mI run P pc) : mt (d + 2) 104 [.inr (some 59), .inl x] h (some (.inl (qPar run P pc x))) h := by
  unfold qPar
  by_cases hq : run = true ∧ isN x = true
  · rw [if_pos hq]
    obtain ⟨rfl, hN⟩ := hq
    obtain ⟨r, hr, rfl⟩ := isN_iff.mp hN
    rw [nI_clamp (by omega)]
    obtain ⟨pcs, ms, th, F, m, A, S, hpc, hW⟩ := m_role R (fun r hr => (I.1 rfl r hr).1)
    have := I.2 r hr
    exact m_partner m A (S r hr) hr (by omega) (hpc r hr) (I.1 rfl r hr).2
  · rw [if_neg hq]
    obtain ⟨pcs, ms, th, F, m, -⟩ := R
    exact m_partnerN m (isNo hq)
theorem m_offersR {x l : Int32} (R : RM h tp mc P run pc rws mv) (I : mI run P pc) : mt (d + 3) 106 [.inr (some 59), .inl x, .inl l] h (some (.inl (bi (qOff run P pc x l)))) h := by
  unfold qOff
  by_cases hq : run = true ∧ isN x = true
  · obtain ⟨rfl, hN⟩ := hq
    obtain ⟨r, hr, rfl⟩ := isN_iff.mp hN
    rw [nI_clamp (by omega)]
    obtain ⟨pcs, ms, th, F, m, A, S, hpc, hW⟩ := m_role R (fun r hr => (I.1 rfl r hr).1)
    have := I.2 r hr
    rw [show decide (true = true ∧ isN (nI r) = true ∧ pbl (ptx P r) (pc r) l ≠ -1) = decide (pbl (ptx P r) (pc r) l ≠ -1) from decide_eq_decide.mpr ⟨fun z => z.2.2, fun z => ⟨rfl, hN, z⟩⟩]
    exact m_offers l m A (S r hr) hr (by omega) (hpc r hr) (I.1 rfl r hr).2
  · rw [decide_eq_false (fun z => hq ⟨z.1, z.2.1⟩)]
    obtain ⟨pcs, ms, th, F, m, -⟩ := R
    exact m_offersN m (isNo hq)
theorem isB_of {T : List Nat} {p : Nat} {l : Int32} (h : pbl T p l ≠ -1) : isB l = true := by
  cases hq : isB l with
  | true => rfl
  | false => exact absurd (by unfold pbl; rw [if_neg (fun z => absurd (hq.symm.trans z.1) (by decide))]) h
/-- the cells behind a move of role r, with row k -/
theorem m_moved {F F' : Nat → Nat → Int32} {pcs ms mv' : Int32} {th : Bool} {h' : ax_H} {r k p' : Nat} {row' : List Int32} (R : RM h tp mc P true pc rws mv) (I : ∀ r, r < 4 → ∃ l, P r = some l) (hF : MT F tp ∧ (mc = if th = true then ms else -1) ∧ (∀ r, r < 4 → if th = true then MP1 F r (P r) else P r = none) ∧ (∀ r, r < 4 → F 70 r = nI (pc r)) ∧ ∀ k, k < 16 → MW1 F k (rws k)) (m' : mo h' (nI tp.length) pcs th ms true mv') (A' : MA h' F') (e60 : F' 60 = F 60) (e68 : F' 68 = F 68) (e69 : F' 69 = F 69) (e70 : F' 70 = upd (F 70) r (nI p')) (e72 : ∀ m, m ≠ k → F' 72 m = F 72 m) (e71 : ∀ m i, m ≠ k → i < 3 → F' 71 (3 * m + i) = F 71 (3 * m + i)) (w' : MW1 F' k row') : RM h' tp mc P true (va_up pc r p') (va_up rws k row') mv' := by
  obtain ⟨t, hmc, hP, hpc, hW⟩ := hF
  refine ⟨pcs, ms, th, F', m', A', t.c e60, hmc, fun s hs => ?_, fun s hs => ?_, fun n hn => ?_⟩
  · have := hP s hs
    split
    · next ht =>
      rw [if_pos ht] at this
      exact this.c e68 e69
    · next ht =>
      rw [if_neg ht] at this
      exact this
  · rw [e70]
    unfold upd
    by_cases hsr : s = r
    · rw [if_pos hsr, hsr, va_up_self]
    · rw [if_neg hsr, va_up_ne _ _ hsr]
      exact hpc s hs
  · by_cases hnk : n = k
    · rw [hnk, va_up_self]
      exact w'
    · rw [va_up_ne _ _ hnk]
      have hw := hW n hn
      exact hw.c (fun i hi => e71 n i hnk (by have := hw.2.1; omega)) (e72 n hnk)
theorem m_send {x l : Int32} (R : RM h tp mc P run pc rws mv) (I : mI run P pc) : ∃ h', mt (d + 5) 107 [.inr (some 59), .inl x, .inl l] h (some (.inl (bi (sOK run P pc rws x l)))) h' ∧ RM h' tp mc P run (if sOK run P pc rws x l = true then va_up pc x.toNatClampNeg (stl (ptx P x.toNatClampNeg) 100 (pbl (ptx P x.toNatClampNeg) (pc x.toNatClampNeg) l).toNatClampNeg) else pc) (if sOK run P pc rws x l = true then va_up rws (4 * x.toNatClampNeg + pn (ptx P x.toNatClampNeg) (pc x.toNatClampNeg)) (rws (4 * x.toNatClampNeg + pn (ptx P x.toNatClampNeg) (pc x.toNatClampNeg)) ++ [l]) else rws) (if sOK run P pc rws x l = true then mv + 1 else mv) ∧ fr h h' (fun q => 59 ≤ q) := by
  have R0 := R
  by_cases hq : run = true ∧ isN x = true
  · obtain ⟨rfl, hN⟩ := hq
    obtain ⟨r, hr, rfl⟩ := isN_iff.mp hN
    have hcl : (nI r).toNatClampNeg = r := nI_clamp (by omega)
    have II := fun r hr => (I.1 rfl r hr).1
    have hok := (I.1 rfl r hr).2
    have hb := I.2 r hr
    obtain ⟨pcs, ms, th, F, m, A, hF⟩ := R
    have S : mS F r (ptx P r) := by
      obtain ⟨l', hl'⟩ := II r hr
      have hp := hF.2.2.1 r hr
      cases th with
      | false => rw [if_neg (by decide), hl'] at hp; cases hp
      | true => rw [if_pos rfl, hl'] at hp; unfold ptx; rw [hl']; exact hp
    have hpc := hF.2.2.2.1 r hr
    have m0 := m
    unfold mo at m
    have hple : pac (ptx P r) (pc r) ≤ 2 := by unfold pac; repeat' split
                                               all_goals omega
    by_cases h1 : pac (ptx P r) (pc r) = 1
    · obtain ⟨hR, hp4, hpo⟩ := pac_R (T := ptx P r) (p := pc r) (by rw [h1]; decide)
      by_cases h3 : pbl (ptx P r) (pc r) l = -1
      · have hs : sOK true P pc rws (nI r) l = false := decide_eq_false (fun z => z.2.2.2.2 (by rw [hcl]; exact h3))
        rw [hs]
        refine ⟨h, ?_, R0, fr.rf⟩
        (repeat (first | refine ax_st rfl ?_ | (apply ev_get rfl; assumption; rfl))); try dsimp only
        refine ev_callV rfl m ⟨rfl, rfl, Nat.le_of_ble_eq_true rfl, Nat.le_of_ble_eq_true rfl⟩ (m_act m0 A S hr (by omega) hpc hok) ?_
        rw [h1]
        (repeat (first | refine ax_st rfl ?_ | (apply ev_get rfl; assumption; rfl))); try dsimp only
        refine ev_callV rfl m ⟨rfl, rfl, Nat.le_of_ble_eq_true rfl, Nat.le_of_ble_eq_true rfl⟩ (m_offers l m0 A S hr (by omega) hpc hok) ?_
        rw [decide_eq_false (fun z => z h3)]
        (repeat (first | refine ax_st rfl ?_ | (apply ev_get rfl; assumption; rfl))); try dsimp only
        exact ax_rt rfl
      · obtain ⟨q, hq1, hq2⟩ := (pbl_nI (ptx P r) (pc r) l).resolve_left h3
        have sl := S.2.1
        have h71 := A.a71
        have h72 := A.a72
        obtain ⟨w1, w2, w3⟩ := hF.2.2.2.2 (4 * r + pn (ptx P r) (pc r)) (by omega)
        have pre : ∀ {h' : ax_H} {res : Int32}, Ev (d + 5) 107 24 [some (.inr (some 59)), some (.inl (nI r)), some (.inl l), some (.inl (nI (4 * r + pn (ptx P r) (pc r))))] [.inl (nI (rws (4 * r + pn (ptx P r) (pc r))).length)] h (some (.inl res)) h' → mt (d + 5) 107 [.inr (some 59), .inl (nI r), .inl l] h (some (.inl res)) h' := by
          intro h' res e1
          (repeat (first | refine ax_st rfl ?_ | (apply ev_get rfl; assumption; rfl))); try dsimp only
          refine ev_callV rfl m ⟨rfl, rfl, Nat.le_of_ble_eq_true rfl, Nat.le_of_ble_eq_true rfl⟩ (m_act m0 A S hr (by omega) hpc hok) ?_
          rw [h1]
          (repeat (first | refine ax_st rfl ?_ | (apply ev_get rfl; assumption; rfl))); try dsimp only
          refine ev_callV rfl m ⟨rfl, rfl, Nat.le_of_ble_eq_true rfl, Nat.le_of_ble_eq_true rfl⟩ (m_offers l m0 A S hr (by omega) hpc hok) ?_
          rw [decide_eq_true h3]
          (repeat (first | refine ax_st rfl ?_ | (apply ev_get rfl; assumption; rfl))); try dsimp only
          rw [show (4 : Int32) * nI r = nI (4 * r) from pk_mul 4 r]
          refine ev_callV rfl m ⟨rfl, rfl, Nat.le_of_ble_eq_true rfl, Nat.le_of_ble_eq_true rfl⟩ (m_partner m0 A S hr (by omega) hpc hok) ?_
          rw [hpo]
          (repeat (first | refine ax_st rfl ?_ | (apply ev_get rfl; assumption; rfl))); try dsimp only
          rw [nI_add]
          refine ev_ald rfl h72 ?_ ?_; exact in_nI (by omega) (by decide)
          rw [nI_clamp (by omega), w1]
          exact e1
        by_cases h2 : (rws (4 * r + pn (ptx P r) (pc r))).length < 3
        · have hs : sOK true P pc rws (nI r) l = true := decide_eq_true ⟨rfl, hN, by rw [hcl]; exact h1, by rw [hcl]; exact h2, by rw [hcl]; exact h3⟩
          rw [hs, if_pos rfl, if_pos rfl, if_pos rfl, hcl, hq1, nI_clamp (by omega)]
          generalize hk : 4 * r + pn (ptx P r) (pc r) = k at *
          have hk16 : k < 16 := by omega
          generalize hrow : rws k = row at *
          have A1 := A.s71 (upd (F 71) (3 * k + row.length) l)
          have m1 := m0.s 71 (by decide) (.inl (0, 48, .inl (upd (F 71) (3 * k + row.length) l)))
          have A2 := A1.s72 (upd (F 72) k (nI (row.length + 1)))
          have m2 := m1.s 72 (by decide) (.inl (0, 16, .inl (upd (F 72) k (nI (row.length + 1)))))
          have m3 := m2.o (nI tp.length) pcs th ms true (mv + 1)
          have A3 := A2.o (moC (nI tp.length) pcs th ms true (mv + 1))
          have S3 := S.c (F' := va_up (va_up F 71 (upd (F 71) (3 * k + row.length) l)) 72 (upd (F 72) k (nI (row.length + 1)))) (by rw [va_up_ne _ _ (by decide), va_up_ne _ _ (by decide)]) (by rw [va_up_ne _ _ (by decide), va_up_ne _ _ (by decide)])
          have hpc3 : (va_up (va_up F 71 (upd (F 71) (3 * k + row.length) l)) 72 (upd (F 72) k (nI (row.length + 1)))) 70 r = nI (pc r) := by rw [va_up_ne _ _ (by decide), va_up_ne _ _ (by decide)]; exact hpc
          obtain ⟨h', e4, m4, A4, f4⟩ := m_settle (d := d + 2) m3 A3 S3 hr (p := q) (by omega)
          refine ⟨h', pre ?_, ?_, (fr.tr (A := fun q => 59 ≤ q) (fr.tr (A := fun q => 59 ≤ q) (fr.st (by decide)) (fr.st (by decide))) (fr.st (by decide))).tr (f4.wk (fun q z => by omega))⟩
          · have m1' := m1
            have m2' := m2
            have m3' := m3
            unfold mo at m1' m2' m3'
            have h72' := A1.a72
            rw [va_up_ne _ _ (by decide)] at h72'
            refine ax_st rfl ?_
            refine ax_st rfl ?_
            dsimp only
            refine ev_t (fun z => absurd ((nI_eq (b := 3) (by omega) (by decide)).mp z) (by omega)) ?_
            (repeat (first | refine ax_st rfl ?_ | (apply ev_get rfl; assumption; rfl))); try dsimp only
            refine ev_ald rfl h72 ?_ ?_; exact in_nI (by omega) (by decide)
            rw [nI_clamp (by omega), w1]
            (repeat (first | refine ax_st rfl ?_ | (apply ev_get rfl; assumption; rfl))); try dsimp only
            rw [show (3 : Int32) * nI k = nI (3 * k) from pk_mul 3 k, nI_add]
            refine ev_ast rfl h71 ?_ ?_; exact in_nI (by omega) (by decide)
            rw [if_neg (by decide), nI_clamp (by omega)]
            (repeat (first | refine ax_st rfl ?_ | (apply ev_get rfl; assumption; rfl))); try dsimp only
            refine ev_ald rfl h72' ?_ ?_; exact in_nI (by omega) (by decide)
            rw [nI_clamp (by omega), w1]
            (repeat (first | refine ax_st rfl ?_ | (apply ev_get rfl; assumption; rfl))); try dsimp only
            rw [nI_1]
            refine ev_ast rfl h72' ?_ ?_; exact in_nI (by omega) (by decide)
            rw [if_neg (by decide), nI_clamp (by omega)]
            (repeat (first | refine ax_st rfl ?_ | (apply ev_get rfl; assumption; rfl))); try dsimp only
            refine ev_put rfl m2' ?_ ?_ ?_; exact Nat.le_of_ble_eq_true rfl; rfl
            (repeat (first | refine ax_st rfl ?_ | (apply ev_get rfl; assumption; rfl))); try dsimp only
            refine ev_callV rfl m3' ⟨rfl, rfl, Nat.le_of_ble_eq_true rfl, Nat.le_of_ble_eq_true rfl⟩ (m_branch l m3 A3 S3 hr (by omega) hpc3 hok) ?_
            rw [pbr_pbl (isB_of h3), hq1]
            refine ev_callU rfl m3' ⟨rfl, rfl, Nat.le_of_ble_eq_true rfl, Nat.le_of_ble_eq_true rfl⟩ (e4) ?_
            (repeat (first | refine ax_st rfl ?_ | (apply ev_get rfl; assumption; rfl))); try dsimp only
            exact ax_rt rfl
          · refine m_moved R0 II hF m4 A4 ?_ ?_ ?_ ?_ ?_ ?_ ?_
            · rw [va_up_ne _ _ (by decide), va_up_ne _ _ (by decide), va_up_ne _ _ (by decide)]
            · rw [va_up_ne _ _ (by decide), va_up_ne _ _ (by decide), va_up_ne _ _ (by decide)]
            · rw [va_up_ne _ _ (by decide), va_up_ne _ _ (by decide), va_up_ne _ _ (by decide)]
            · rw [va_up_self, va_up_ne _ _ (by decide), va_up_ne _ _ (by decide)]
            · intro n hn
              rw [va_up_ne _ _ (by decide), va_up_self]
              unfold upd
              rw [if_neg hn]
            · intro n i hn hi
              rw [va_up_ne _ _ (by decide), va_up_ne _ _ (by decide), va_up_self]
              unfold upd
              rw [if_neg (by omega)]
            · refine ⟨?_, by simp; omega, fun i hi => ?_⟩
              · rw [va_up_ne _ _ (by decide), va_up_self]
                unfold upd
                rw [if_pos rfl]
                simp
              · rw [va_up_ne _ _ (by decide), va_up_ne _ _ (by decide), va_up_self]
                unfold upd
                simp only [List.length_append, List.length_singleton] at hi
                by_cases hi2 : i = row.length
                · rw [if_pos (by omega), hi2]
                  simp [List.getD]
                · rw [if_neg (by omega), w3 i (by omega)]
                  simp only [List.getD, List.getElem?_append_left (show i < row.length by omega)]
        · have hs : sOK true P pc rws (nI r) l = false := decide_eq_false (fun z => h2 (by have := z.2.2.2.1; rw [hcl] at this; exact this))
          rw [hs]
          refine ⟨h, pre ?_, R0, fr.rf⟩
          rw [show (rws (4 * r + pn (ptx P r) (pc r))).length = 3 by omega]
          (repeat (first | refine ax_st rfl ?_ | (apply ev_get rfl; assumption; rfl))); try dsimp only
          exact ax_rt rfl
    · have hs : sOK true P pc rws (nI r) l = false := decide_eq_false (fun z => h1 (by have := z.2.2.1; rw [hcl] at this; exact this))
      rw [hs]
      refine ⟨h, ?_, R0, fr.rf⟩
      (repeat (first | refine ax_st rfl ?_ | (apply ev_get rfl; assumption; rfl))); try dsimp only
      refine ev_callV rfl m ⟨rfl, rfl, Nat.le_of_ble_eq_true rfl, Nat.le_of_ble_eq_true rfl⟩ (m_act m0 A S hr (by omega) hpc hok) ?_
      (repeat (first | refine ax_st rfl ?_ | (apply ev_get rfl; assumption; rfl))); try dsimp only
      refine ev_t (fun z => h1 ((nI_eq (b := 1) (by omega) (by decide)).mp z)) ?_
      (repeat (first | refine ax_st rfl ?_ | (apply ev_get rfl; assumption; rfl))); try dsimp only
      exact ax_rt rfl
  · have hs : sOK run P pc rws x l = false := decide_eq_false (fun z => hq ⟨z.1, z.2.1⟩)
    rw [hs]
    refine ⟨h, ?_, R0, fr.rf⟩
    obtain ⟨pcs, ms, th, F, m, -⟩ := R
    have m0 := m
    unfold mo at m
    (repeat (first | refine ax_st rfl ?_ | (apply ev_get rfl; assumption; rfl))); try dsimp only
    refine ev_callV rfl m ⟨rfl, rfl, Nat.le_of_ble_eq_true rfl, Nat.le_of_ble_eq_true rfl⟩ (m_actN m0 (isNo hq)) ?_
    (repeat (first | refine ax_st rfl ?_ | (apply ev_get rfl; assumption; rfl))); try dsimp only
    exact ax_rt rfl
end MD4
