/-! RoleParts: send, receive, ready, over. -/
section CL3
variable {d : Nat} {h : ax_H} {tp : List Nat} {mc mv : Int32} {P : Nat → Option Tr} {run : Bool} {pc : Nat → Nat} {rws : Nat → List Int32}
theorem isNo {x : Int32} {run : Bool} (hq : ¬ (run = true ∧ isN x = true)) : run = false ∨ isN x = false := by
  cases run with
  | false => exact Or.inl rfl
  | true => exact Or.inr (isN_f (fun q => hq ⟨rfl, q⟩))
theorem c_send {x l : Int32} (R : RC h tp mc P run pc rws mv) (I : run = true → ∀ r, r < 4 → ∃ l, P r = some l) (B : ∀ r, r < 4 → pc r < 2 ^ 20) : ∃ h', mt (d + 5) 56 [.inr (some 1), .inl x, .inl l] h (some (.inl (bi (sOK run P pc rws x l)))) h' ∧ RC h' tp mc P run (if sOK run P pc rws x l = true then va_up pc x.toNatClampNeg (gon (ptx P x.toNatClampNeg) 60 (pbl (ptx P x.toNatClampNeg) (pc x.toNatClampNeg) l).toNatClampNeg) else pc) (if sOK run P pc rws x l = true then va_up rws (4 * x.toNatClampNeg + pn (ptx P x.toNatClampNeg) (pc x.toNatClampNeg)) (rws (4 * x.toNatClampNeg + pn (ptx P x.toNatClampNeg) (pc x.toNatClampNeg)) ++ [l]) else rws) (if sOK run P pc rws x l = true then mv + 1 else mv) ∧ fr h h' (fun q => 0 < q ∧ q < 59) := by
  obtain ⟨a, A, G, T, RRs, W⟩ := id R
  have a0 := a
  unfold rob at a
  by_cases hq : run = true ∧ isN x = true
  · obtain ⟨rfl, hN⟩ := hq
    obtain ⟨r, hr, rfl⟩ := isN_iff.mp hN
    have hcl : (nI r).toNatClampNeg = r := nI_clamp (by omega)
    obtain ⟨⟨b, q1, q2⟩, q3, -⟩ := RRs r hr
    obtain ⟨l0, hl0⟩ := I rfl r hr
    have := q2 l0 hl0
    subst this
    have htx : ptx P r = rn l0 false := by unfold ptx; rw [hl0]
    have hb := B r hr
    have q3' := q3
    unfold pl at q3'
    have hsz := q1.len
    have head : ∀ {h' : ax_H} {res : Int32}, ¬ nI (pac (rn l0 false) (pc r)) = 1 → res = 0 → h' = h → mt (d + 5) 56 [.inr (some 1), .inl (nI r), .inl l] h (some (.inl res)) h' := by
      intro h' res hne e1 e2
      subst e1 e2
      (repeat (first | refine ax_st rfl ?_ | (apply ev_get rfl; assumption; rfl))); try dsimp only
      refine ev_callV rfl a ⟨rfl, rfl, Nat.le_of_ble_eq_true rfl, Nat.le_of_ble_eq_true rfl⟩ (c_play a0 A hr) ?_
      (repeat (first | refine ax_st rfl ?_ | (apply ev_get rfl; assumption; rfl))); try dsimp only
      refine ev_callV rfl q3' ⟨rfl, rfl, Nat.le_of_ble_eq_true rfl, Nat.le_of_ble_eq_true rfl⟩ (pl_action q3 q1 (by omega)) ?_
      (repeat (first | refine ax_st rfl ?_ | (apply ev_get rfl; assumption; rfl))); try dsimp only
      refine ev_f hne ?_
      (repeat (first | refine ax_st rfl ?_ | (apply ev_get rfl; assumption; rfl))); try dsimp only
      exact ax_rt rfl
    have hple : pac (rn l0 false) (pc r) ≤ 2 := by unfold pac; repeat' split
                                                   all_goals omega
    by_cases h1 : pac (rn l0 false) (pc r) = 1
    · obtain ⟨hR, hp4, hpo⟩ := pac_R (T := rn l0 false) (p := pc r) (by rw [h1]; decide)
      have hw := W (4 * r + pn (rn l0 false) (pc r)) (by omega)
      have hob := hw.ob
      have mid : ∀ {h' : ax_H} {res : Int32}, Ev (d + 5) 56 21 [some (.inr (some 1)), some (.inl (nI r)), some (.inl l), some (.inr (some (13 + 4 * r))), some (.inr (some (27 + 2 * (4 * r + pn (rn l0 false) (pc r)))))] [.inr (some (27 + 2 * (4 * r + pn (rn l0 false) (pc r))))] h (some (.inl res)) h' → mt (d + 5) 56 [.inr (some 1), .inl (nI r), .inl l] h (some (.inl res)) h' := by
        intro h' res e1
        (repeat (first | refine ax_st rfl ?_ | (apply ev_get rfl; assumption; rfl))); try dsimp only
        refine ev_callV rfl a ⟨rfl, rfl, Nat.le_of_ble_eq_true rfl, Nat.le_of_ble_eq_true rfl⟩ (c_play a0 A hr) ?_
        (repeat (first | refine ax_st rfl ?_ | (apply ev_get rfl; assumption; rfl))); try dsimp only
        refine ev_callV rfl q3' ⟨rfl, rfl, Nat.le_of_ble_eq_true rfl, Nat.le_of_ble_eq_true rfl⟩ (pl_action q3 q1 (by omega)) ?_
        rw [h1]
        (repeat (first | refine ax_st rfl ?_ | (apply ev_get rfl; assumption; rfl))); try dsimp only
        refine ev_callV rfl q3' ⟨rfl, rfl, Nat.le_of_ble_eq_true rfl, Nat.le_of_ble_eq_true rfl⟩ (pl_other q3 q1 (by omega)) ?_
        rw [hpo]
        refine ev_callV rfl a ⟨rfl, rfl, Nat.le_of_ble_eq_true rfl, Nat.le_of_ble_eq_true rfl⟩ (c_rowY a0 A hr hp4) ?_
        repeat (first | (exact e1) | refine ax_st rfl ?_ | (apply ev_get rfl; assumption; rfl))
      by_cases h2 : (rws (4 * r + pn (rn l0 false) (pc r))).length < 3
      · rcases pbl_nI (rn l0 false) (pc r) l with h3 | ⟨q, h3, hq3⟩
        · have hs : sOK true P pc rws (nI r) l = false := decide_eq_false (fun z => z.2.2.2.2 (by rw [hcl, htx]; exact h3))
          rw [hs]
          refine ⟨h, mid ?_, R, fr.rf⟩
          have e1 := pl_followN (d := d + 1) l (by omega) q3 q1 h3
          refine ev_callV rfl hob ⟨rfl, rfl, Nat.le_of_ble_eq_true rfl, Nat.le_of_ble_eq_true rfl⟩ (rw_full hw) ?_
          rw [decide_eq_false (by omega)]
          (repeat (first | refine ax_st rfl ?_ | (apply ev_get rfl; assumption; rfl))); try dsimp only
          refine ev_callV rfl q3' ⟨rfl, rfl, Nat.le_of_ble_eq_true rfl, Nat.le_of_ble_eq_true rfl⟩ (e1) ?_
          (repeat (first | refine ax_st rfl ?_ | (apply ev_get rfl; assumption; rfl))); try dsimp only
          exact ax_rt rfl
        · have hne : pbl (rn l0 false) (pc r) l ≠ -1 := by rw [h3]; exact nI_m1 (by omega)
          have hs : sOK true P pc rws (nI r) l = true := decide_eq_true ⟨rfl, hN, by rw [hcl, htx]; exact h1, by rw [hcl, htx]; exact h2, by rw [hcl, htx]; exact hne⟩
          rw [hs, if_pos rfl, if_pos rfl, if_pos rfl, hcl, htx]
          obtain ⟨h1', e1, p1, f1⟩ := pl_follow (d := d + 1) l ⟨by omega, by omega⟩ (by omega) q3 q1 hne h3 (by omega)
          have hw1 := hw.fr f1 (by omega) (by omega)
          obtain ⟨h2', e2, w2, f2⟩ := rw_append (d := d + 4) hw1 h2 l
          obtain ⟨RR', FF, a2⟩ := c_moved (p' := gon (rn l0 false) 60 q) (mv' := mv + 1) R hr (by omega) rfl f1 p1 f2 w2
          rw [h3, nI_clamp (by omega)]
          refine ⟨_, mid ?_, RR', FF⟩
          have hob1 := hw1.ob
          unfold rob at a2
          refine ev_callV rfl hob ⟨rfl, rfl, Nat.le_of_ble_eq_true rfl, Nat.le_of_ble_eq_true rfl⟩ (rw_full hw) ?_
          rw [decide_eq_false (by omega)]
          (repeat (first | refine ax_st rfl ?_ | (apply ev_get rfl; assumption; rfl))); try dsimp only
          refine ev_callV rfl q3' ⟨rfl, rfl, Nat.le_of_ble_eq_true rfl, Nat.le_of_ble_eq_true rfl⟩ (e1) ?_
          (repeat (first | refine ax_st rfl ?_ | (apply ev_get rfl; assumption; rfl))); try dsimp only
          refine ev_callU rfl hob1 ⟨rfl, rfl, Nat.le_of_ble_eq_true rfl, Nat.le_of_ble_eq_true rfl⟩ (e2) ?_
          (repeat (first | refine ax_st rfl ?_ | (apply ev_get rfl; assumption; rfl))); try dsimp only
          refine ev_put rfl a2 ?_ ?_ ?_; exact Nat.le_of_ble_eq_true rfl; rfl
          (repeat (first | refine ax_st rfl ?_ | (apply ev_get rfl; assumption; rfl))); try dsimp only
          exact ax_rt rfl
      · have hs : sOK true P pc rws (nI r) l = false := decide_eq_false (fun z => h2 (by have := z.2.2.2.1; rw [hcl, htx] at this; exact this))
        rw [hs]
        refine ⟨h, mid ?_, R, fr.rf⟩
        refine ev_callV rfl hob ⟨rfl, rfl, Nat.le_of_ble_eq_true rfl, Nat.le_of_ble_eq_true rfl⟩ (rw_full hw) ?_
        rw [decide_eq_true (by omega)]
        (repeat (first | refine ax_st rfl ?_ | (apply ev_get rfl; assumption; rfl))); try dsimp only
        exact ax_rt rfl
    · have hs : sOK true P pc rws (nI r) l = false := decide_eq_false (fun z => h1 (by have := z.2.2.1; rw [hcl, htx] at this; exact this))
      rw [hs]
      exact ⟨h, head (fun z => h1 ((nI_eq (b := 1) (by omega) (by decide)).mp z)) rfl rfl, R, fr.rf⟩
  · have hs : sOK run P pc rws x l = false := decide_eq_false (fun z => hq ⟨z.1, z.2.1⟩)
    rw [hs]
    refine ⟨h, ?_, R, fr.rf⟩
    (repeat (first | refine ax_st rfl ?_ | (apply ev_get rfl; assumption; rfl))); try dsimp only
    refine ev_callV rfl a ⟨rfl, rfl, Nat.le_of_ble_eq_true rfl, Nat.le_of_ble_eq_true rfl⟩ (c_playN a0 (isNo hq)) ?_
    (repeat (first | refine ax_st rfl ?_ | (apply ev_get rfl; assumption; rfl))); try dsimp only
    exact ax_rt rfl
/-- what receive answers -/
def qRcv (run : Bool) (P : Nat → Option Tr) (pc : Nat → Nat) (rws : Nat → List Int32) (x : Int32) : Int32 := if run = true ∧ isN x = true ∧ pac (ptx P x.toNatClampNeg) (pc x.toNatClampNeg) = 2 then (match rws (4 * pn (ptx P x.toNatClampNeg) (pc x.toNatClampNeg) + x.toNatClampNeg) with | [] => -1 | y :: _ => if pbl (ptx P x.toNatClampNeg) (pc x.toNatClampNeg) y = -1 then -2 else y) else -1
def rOK (run : Bool) (P : Nat → Option Tr) (pc : Nat → Nat) (rws : Nat → List Int32) (x : Int32) : Bool := decide (run = true ∧ isN x = true ∧ pac (ptx P x.toNatClampNeg) (pc x.toNatClampNeg) = 2 ∧ rws (4 * pn (ptx P x.toNatClampNeg) (pc x.toNatClampNeg) + x.toNatClampNeg) ≠ [] ∧ pbl (ptx P x.toNatClampNeg) (pc x.toNatClampNeg) ((rws (4 * pn (ptx P x.toNatClampNeg) (pc x.toNatClampNeg) + x.toNatClampNeg)).headD 0) ≠ -1)
theorem c_receive {x : Int32} (R : RC h tp mc P run pc rws mv) (I : run = true → ∀ r, r < 4 → ∃ l, P r = some l) (B : ∀ r, r < 4 → pc r < 2 ^ 20) : ∃ h', mt (d + 5) 57 [.inr (some 1), .inl x] h (some (.inl (qRcv run P pc rws x))) h' ∧ RC h' tp mc P run (if rOK run P pc rws x = true then va_up pc x.toNatClampNeg (gon (ptx P x.toNatClampNeg) 60 (pbl (ptx P x.toNatClampNeg) (pc x.toNatClampNeg) ((rws (4 * pn (ptx P x.toNatClampNeg) (pc x.toNatClampNeg) + x.toNatClampNeg)).headD 0)).toNatClampNeg) else pc) (if rOK run P pc rws x = true then va_up rws (4 * pn (ptx P x.toNatClampNeg) (pc x.toNatClampNeg) + x.toNatClampNeg) (rws (4 * pn (ptx P x.toNatClampNeg) (pc x.toNatClampNeg) + x.toNatClampNeg)).tail else rws) (if rOK run P pc rws x = true then mv + 1 else mv) ∧ fr h h' (fun q => 0 < q ∧ q < 59) := by
  obtain ⟨a, A, G, T, RRs, W⟩ := id R
  have a0 := a
  unfold rob at a
  by_cases hq : run = true ∧ isN x = true
  · obtain ⟨rfl, hN⟩ := hq
    obtain ⟨r, hr, rfl⟩ := isN_iff.mp hN
    have hcl : (nI r).toNatClampNeg = r := nI_clamp (by omega)
    obtain ⟨⟨b, q1, q2⟩, q3, -⟩ := RRs r hr
    obtain ⟨l0, hl0⟩ := I rfl r hr
    have := q2 l0 hl0
    subst this
    have htx : ptx P r = rn l0 false := by unfold ptx; rw [hl0]
    have hb := B r hr
    have q3' := q3
    unfold pl at q3'
    have hsz := q1.len
    have hple : pac (rn l0 false) (pc r) ≤ 2 := by unfold pac; repeat' split
                                                   all_goals omega
    unfold qRcv rOK
    rw [hcl, htx]
    by_cases h1 : pac (rn l0 false) (pc r) = 2
    · obtain ⟨hR, hp4, hpo⟩ := pac_R (T := rn l0 false) (p := pc r) (by rw [h1]; decide)
      have hw := W (4 * pn (rn l0 false) (pc r) + r) (by omega)
      rw [if_pos ⟨rfl, hN, h1⟩]
      have mid : ∀ {h' : ax_H} {res : Int32}, Ev (d + 5) 57 21 [some (.inr (some 1)), some (.inl (nI r)), some (.inr (some (13 + 4 * r))), some (.inr (some (27 + 2 * (4 * pn (rn l0 false) (pc r) + r)))), none] [.inr (some (27 + 2 * (4 * pn (rn l0 false) (pc r) + r)))] h (some (.inl res)) h' → mt (d + 5) 57 [.inr (some 1), .inl (nI r)] h (some (.inl res)) h' := by
        intro h' res e1
        (repeat (first | refine ax_st rfl ?_ | (apply ev_get rfl; assumption; rfl))); try dsimp only
        refine ev_callV rfl a ⟨rfl, rfl, Nat.le_of_ble_eq_true rfl, Nat.le_of_ble_eq_true rfl⟩ (c_play a0 A hr) ?_
        (repeat (first | refine ax_st rfl ?_ | (apply ev_get rfl; assumption; rfl))); try dsimp only
        refine ev_callV rfl q3' ⟨rfl, rfl, Nat.le_of_ble_eq_true rfl, Nat.le_of_ble_eq_true rfl⟩ (pl_action q3 q1 (by omega)) ?_
        rw [h1]
        (repeat (first | refine ax_st rfl ?_ | (apply ev_get rfl; assumption; rfl))); try dsimp only
        refine ev_callV rfl q3' ⟨rfl, rfl, Nat.le_of_ble_eq_true rfl, Nat.le_of_ble_eq_true rfl⟩ (pl_other q3 q1 (by omega)) ?_
        rw [hpo]
        (repeat (first | refine ax_st rfl ?_ | (apply ev_get rfl; assumption; rfl))); try dsimp only
        refine ev_callV rfl a ⟨rfl, rfl, Nat.le_of_ble_eq_true rfl, Nat.le_of_ble_eq_true rfl⟩ (c_rowY a0 A hp4 hr) ?_
        repeat (first | (exact e1) | refine ax_st rfl ?_ | (apply ev_get rfl; assumption; rfl))
      generalize hrow : rws (4 * pn (rn l0 false) (pc r) + r) = row at hw ⊢
      have hob := hw.ob
      cases row with
      | nil =>
        rw [decide_eq_false (fun z => z.2.2.2.1 rfl)]
        refine ⟨h, mid ?_, R, fr.rf⟩
        refine ev_callV rfl hob ⟨rfl, rfl, Nat.le_of_ble_eq_true rfl, Nat.le_of_ble_eq_true rfl⟩ (rw_size hw) ?_
        (repeat (first | refine ax_st rfl ?_ | (apply ev_get rfl; assumption; rfl))); try dsimp only
        exact ax_rt rfl
      | cons y row =>
        have hl3 : (y :: row).length ≤ 3 := by obtain ⟨-, -, -, hh, -⟩ := hw; exact hh
        rw [List.headD_cons, List.tail_cons]
        rcases pbl_nI (rn l0 false) (pc r) y with h3 | ⟨q, h3, hq3⟩
        · rw [decide_eq_false (fun z => z.2.2.2.2 h3)]
          dsimp only
          rw [if_pos h3]
          refine ⟨h, mid ?_, R, fr.rf⟩
          have e1 := pl_followN (d := d + 1) y (by omega) q3 q1 h3
          refine ev_callV rfl hob ⟨rfl, rfl, Nat.le_of_ble_eq_true rfl, Nat.le_of_ble_eq_true rfl⟩ (rw_size hw) ?_
          refine ax_st rfl ?_
          dsimp only
          refine ev_t (nI_ne0 (by simp) (by omega)) ?_
          (repeat (first | refine ax_st rfl ?_ | (apply ev_get rfl; assumption; rfl))); try dsimp only
          refine ev_callV rfl hob ⟨rfl, rfl, Nat.le_of_ble_eq_true rfl, Nat.le_of_ble_eq_true rfl⟩ (rw_get hw 0) ?_
          rw [show rg (y :: row) 0 = y from rfl]
          (repeat (first | refine ax_st rfl ?_ | (apply ev_get rfl; assumption; rfl))); try dsimp only
          refine ev_callV rfl q3' ⟨rfl, rfl, Nat.le_of_ble_eq_true rfl, Nat.le_of_ble_eq_true rfl⟩ (e1) ?_
          (repeat (first | refine ax_st rfl ?_ | (apply ev_get rfl; assumption; rfl))); try dsimp only
          exact ax_rt rfl
        · have hne : pbl (rn l0 false) (pc r) y ≠ -1 := by rw [h3]; exact nI_m1 (by omega)
          rw [decide_eq_true ⟨rfl, hN, h1, by simp, hne⟩]
          dsimp only
          rw [if_neg hne]
          obtain ⟨h1', e1, p1, f1⟩ := pl_follow (d := d + 1) y ⟨by omega, by omega⟩ (by omega) q3 q1 hne h3 (by omega)
          have hw1 := hw.fr f1 (by omega) (by omega)
          obtain ⟨h2', e2, w2, f2⟩ := rw_rem (d := d + 4) hw1
          obtain ⟨RR', FF, a2⟩ := c_moved (p' := gon (rn l0 false) 60 q) (mv' := mv + 1) R hr (by omega) rfl f1 p1 f2 w2
          rw [h3, nI_clamp (by omega), if_pos rfl, if_pos rfl, if_pos rfl]
          refine ⟨_, mid ?_, RR', FF⟩
          have hob1 := hw1.ob
          unfold rob at a2
          refine ev_callV rfl hob ⟨rfl, rfl, Nat.le_of_ble_eq_true rfl, Nat.le_of_ble_eq_true rfl⟩ (rw_size hw) ?_
          refine ax_st rfl ?_
          dsimp only
          refine ev_t (nI_ne0 (by simp) (by omega)) ?_
          (repeat (first | refine ax_st rfl ?_ | (apply ev_get rfl; assumption; rfl))); try dsimp only
          refine ev_callV rfl hob ⟨rfl, rfl, Nat.le_of_ble_eq_true rfl, Nat.le_of_ble_eq_true rfl⟩ (rw_get hw 0) ?_
          rw [show rg (y :: row) 0 = y from rfl]
          (repeat (first | refine ax_st rfl ?_ | (apply ev_get rfl; assumption; rfl))); try dsimp only
          refine ev_callV rfl q3' ⟨rfl, rfl, Nat.le_of_ble_eq_true rfl, Nat.le_of_ble_eq_true rfl⟩ (e1) ?_
          (repeat (first | refine ax_st rfl ?_ | (apply ev_get rfl; assumption; rfl))); try dsimp only
          refine ev_callU rfl hob1 ⟨rfl, rfl, Nat.le_of_ble_eq_true rfl, Nat.le_of_ble_eq_true rfl⟩ (e2) ?_
          (repeat (first | refine ax_st rfl ?_ | (apply ev_get rfl; assumption; rfl))); try dsimp only
          refine ev_put rfl a2 ?_ ?_ ?_; exact Nat.le_of_ble_eq_true rfl; rfl
          (repeat (first | refine ax_st rfl ?_ | (apply ev_get rfl; assumption; rfl))); try dsimp only
          exact ax_rt rfl
    · rw [if_neg (fun z => h1 z.2.2), decide_eq_false (fun z => h1 z.2.2.1)]
      refine ⟨h, ?_, R, fr.rf⟩
      (repeat (first | refine ax_st rfl ?_ | (apply ev_get rfl; assumption; rfl))); try dsimp only
      refine ev_callV rfl a ⟨rfl, rfl, Nat.le_of_ble_eq_true rfl, Nat.le_of_ble_eq_true rfl⟩ (c_play a0 A hr) ?_
      (repeat (first | refine ax_st rfl ?_ | (apply ev_get rfl; assumption; rfl))); try dsimp only
      refine ev_callV rfl q3' ⟨rfl, rfl, Nat.le_of_ble_eq_true rfl, Nat.le_of_ble_eq_true rfl⟩ (pl_action q3 q1 (by omega)) ?_
      (repeat (first | refine ax_st rfl ?_ | (apply ev_get rfl; assumption; rfl))); try dsimp only
      refine ev_f (fun z => h1 ((nI_eq (b := 2) (by omega) (by decide)).mp z)) ?_
      (repeat (first | refine ax_st rfl ?_ | (apply ev_get rfl; assumption; rfl))); try dsimp only
      exact ax_rt rfl
  · unfold qRcv rOK
    rw [if_neg (fun z => hq ⟨z.1, z.2.1⟩), decide_eq_false (fun z => hq ⟨z.1, z.2.1⟩)]
    refine ⟨h, ?_, R, fr.rf⟩
    (repeat (first | refine ax_st rfl ?_ | (apply ev_get rfl; assumption; rfl))); try dsimp only
    refine ev_callV rfl a ⟨rfl, rfl, Nat.le_of_ble_eq_true rfl, Nat.le_of_ble_eq_true rfl⟩ (c_playN a0 (isNo hq)) ?_
    (repeat (first | refine ax_st rfl ?_ | (apply ev_get rfl; assumption; rfl))); try dsimp only
    exact ax_rt rfl
/-- whether a role can go on -/
def canGo (P : Nat → Option Tr) (pc : Nat → Nat) (rws : Nat → List Int32) (r : Nat) : Bool := decide ((pac (ptx P r) (pc r) = 1 ∧ (rws (4 * r + pn (ptx P r) (pc r))).length < 3) ∨ (pac (ptx P r) (pc r) = 2 ∧ pbl (ptx P r) (pc r) ((rws (4 * pn (ptx P r) (pc r) + r)).headD (-1)) ≠ -1))
theorem c_can {r : Nat} (R : RC h tp mc P true pc rws mv) (I : ∀ r, r < 4 → ∃ l, P r = some l) (B : ∀ r, r < 4 → pc r < 2 ^ 20) (hr : r < 4) : mt (d + 4) 68 [.inr (some 1), .inl (nI r)] h (some (.inl (bi (canGo P pc rws r)))) h := by
  obtain ⟨a, A, G, T, RRs, W⟩ := id R
  have a0 := a
  unfold rob at a
  obtain ⟨⟨b, q1, q2⟩, q3, -⟩ := RRs r hr
  obtain ⟨l0, hl0⟩ := I r hr
  have := q2 l0 hl0
  subst this
  have htx : ptx P r = rn l0 false := by unfold ptx; rw [hl0]
  have hb := B r hr
  have q3' := q3
  unfold pl at q3'
  have hple : pac (rn l0 false) (pc r) ≤ 2 := by unfold pac; repeat' split
                                                 all_goals omega
  unfold canGo
  rw [htx]
  (repeat (first | refine ax_st rfl ?_ | (apply ev_get rfl; assumption; rfl))); try dsimp only
  refine ev_callV rfl a ⟨rfl, rfl, Nat.le_of_ble_eq_true rfl, Nat.le_of_ble_eq_true rfl⟩ (c_play a0 A hr) ?_
  (repeat (first | refine ax_st rfl ?_ | (apply ev_get rfl; assumption; rfl))); try dsimp only
  refine ev_callV rfl q3' ⟨rfl, rfl, Nat.le_of_ble_eq_true rfl, Nat.le_of_ble_eq_true rfl⟩ (pl_action q3 q1 (by omega)) ?_
  by_cases h1 : pac (rn l0 false) (pc r) = 1
  · obtain ⟨hR, hp4, hpo⟩ := pac_R (T := rn l0 false) (p := pc r) (by rw [h1]; decide)
    have hw := W (4 * r + pn (rn l0 false) (pc r)) (by omega)
    have hob := hw.ob
    rw [h1]
    (repeat (first | refine ax_st rfl ?_ | (apply ev_get rfl; assumption; rfl))); try dsimp only
    refine ev_callV rfl q3' ⟨rfl, rfl, Nat.le_of_ble_eq_true rfl, Nat.le_of_ble_eq_true rfl⟩ (pl_other q3 q1 (by omega)) ?_
    rw [hpo]
    refine ev_callV rfl a ⟨rfl, rfl, Nat.le_of_ble_eq_true rfl, Nat.le_of_ble_eq_true rfl⟩ (c_rowY a0 A hr hp4) ?_
    (repeat (first | refine ax_st rfl ?_ | (apply ev_get rfl; assumption; rfl))); try dsimp only
    refine ev_callV rfl hob ⟨rfl, rfl, Nat.le_of_ble_eq_true rfl, Nat.le_of_ble_eq_true rfl⟩ (rw_full hw) ?_
    by_cases h2 : 3 ≤ (rws (4 * r + pn (rn l0 false) (pc r))).length
    · rw [decide_eq_true h2, decide_eq_false (fun z => z.elim (fun z => by omega) (fun z => absurd z.1 (by decide)))]
      (repeat (first | refine ax_st rfl ?_ | (apply ev_get rfl; assumption; rfl))); try dsimp only
      exact ax_rt rfl
    · rw [decide_eq_false h2, decide_eq_true (Or.inl ⟨rfl, by omega⟩)]
      (repeat (first | refine ax_st rfl ?_ | (apply ev_get rfl; assumption; rfl))); try dsimp only
      exact ax_rt rfl
  · by_cases h2 : pac (rn l0 false) (pc r) = 2
    · obtain ⟨hR, hp4, hpo⟩ := pac_R (T := rn l0 false) (p := pc r) (by rw [h2]; decide)
      have hw := W (4 * pn (rn l0 false) (pc r) + r) (by omega)
      have hob := hw.ob
      have hg : rg (rws (4 * pn (rn l0 false) (pc r) + r)) 0 = (rws (4 * pn (rn l0 false) (pc r) + r)).headD (-1) := by
        cases rws (4 * pn (rn l0 false) (pc r) + r) <;> rfl
      rw [h2]
      (repeat (first | refine ax_st rfl ?_ | (apply ev_get rfl; assumption; rfl))); try dsimp only
      refine ev_callV rfl q3' ⟨rfl, rfl, Nat.le_of_ble_eq_true rfl, Nat.le_of_ble_eq_true rfl⟩ (pl_other q3 q1 (by omega)) ?_
      rw [hpo]
      (repeat (first | refine ax_st rfl ?_ | (apply ev_get rfl; assumption; rfl))); try dsimp only
      refine ev_callV rfl a ⟨rfl, rfl, Nat.le_of_ble_eq_true rfl, Nat.le_of_ble_eq_true rfl⟩ (c_rowY a0 A hp4 hr) ?_
      (repeat (first | refine ax_st rfl ?_ | (apply ev_get rfl; assumption; rfl))); try dsimp only
      refine ev_callV rfl hob ⟨rfl, rfl, Nat.le_of_ble_eq_true rfl, Nat.le_of_ble_eq_true rfl⟩ (rw_get hw 0) ?_
      rw [hg]
      refine ev_callV rfl q3' ⟨rfl, rfl, Nat.le_of_ble_eq_true rfl, Nat.le_of_ble_eq_true rfl⟩ (pl_behind ((rws (4 * pn (rn l0 false) (pc r) + r)).headD (-1)) q3 q1 (by omega)) ?_
      (repeat (first | refine ax_st rfl ?_ | (apply ev_get rfl; assumption; rfl))); try dsimp only
      refine ev_if (fun c1 => ?_) (fun c1 => ?_)
      · rw [decide_eq_false (fun z => z.elim (fun z => absurd z.1 (by decide)) (fun z => z.2 c1))]
        (repeat (first | refine ax_st rfl ?_ | (apply ev_get rfl; assumption; rfl))); try dsimp only
        exact ax_rt rfl
      · rw [decide_eq_true (Or.inr ⟨rfl, c1⟩)]
        (repeat (first | refine ax_st rfl ?_ | (apply ev_get rfl; assumption; rfl))); try dsimp only
        exact ax_rt rfl
    · have h0 : pac (rn l0 false) (pc r) = 0 := by omega
      rw [h0, decide_eq_false (fun z => z.elim (fun z => absurd z.1 (by decide)) (fun z => absurd z.1 (by decide)))]
      (repeat (first | refine ax_st rfl ?_ | (apply ev_get rfl; assumption; rfl))); try dsimp only
      exact ax_rt rfl
/-- how many roles can go on -/
def qRdy (run : Bool) (P : Nat → Option Tr) (pc : Nat → Nat) (rws : Nat → List Int32) : Int32 := if run = true then bi (canGo P pc rws 0) + bi (canGo P pc rws 1) + bi (canGo P pc rws 2) + bi (canGo P pc rws 3) else -1
theorem rdy_step {r : Nat} {n : Int32} {res : Int32} {h' : ax_H} (R : RC h tp mc P true pc rws mv) (I : ∀ r, r < 4 → ∃ l, P r = some l) (B : ∀ r, r < 4 → pc r < 2 ^ 20) (hr : r < 4) (k : Ev (d + 5) 61 9 [some (.inr (some 1)), some (.inl (n + bi (canGo P pc rws r))), some (.inl (nI (r + 1)))] [] h (some (.inl res)) h') : Ev (d + 5) 61 9 [some (.inr (some 1)), some (.inl n), some (.inl (nI r))] [] h (some (.inl res)) h' := by
  have a := R.1
  unfold rob at a
  rw [← nI_1 r] at k
  (repeat (first | refine ax_st rfl ?_ | (apply ev_get rfl; assumption; rfl))); try dsimp only
  refine ev_f (fun q => absurd ((nI_leI (a := 4) (by decide) (by omega)).mp q) (by omega)) ?_
  (repeat (first | refine ax_st rfl ?_ | (apply ev_get rfl; assumption; rfl))); try dsimp only
  refine ev_callV rfl a ⟨rfl, rfl, Nat.le_of_ble_eq_true rfl, Nat.le_of_ble_eq_true rfl⟩ (c_can R I B hr) ?_
  refine ax_st rfl ?_
  dsimp only
  cases hq : canGo P pc rws r with
  | true =>
    rw [hq] at k
    refine ev_f (by decide) ?_
    repeat (first | (exact k) | refine ax_st rfl ?_ | (apply ev_get rfl; assumption; rfl))
  | false =>
    rw [hq, show n + bi false = n from Int32.add_zero n] at k
    refine ev_t rfl ?_
    repeat (first | (exact k) | refine ax_st rfl ?_ | (apply ev_get rfl; assumption; rfl))
theorem c_ready (R : RC h tp mc P run pc rws mv) (I : run = true → ∀ r, r < 4 → ∃ l, P r = some l) (B : ∀ r, r < 4 → pc r < 2 ^ 20) : mt (d + 5) 61 [.inr (some 1)] h (some (.inl (qRdy run P pc rws))) h := by
  have a := R.1
  unfold rob at a
  unfold qRdy
  cases run with
  | false =>
    (repeat (first | refine ax_st rfl ?_ | (apply ev_get rfl; assumption; rfl))); try dsimp only
    exact ax_rt rfl
  | true =>
    rw [if_pos rfl]
    have fin : Ev (d + 5) 61 9 [some (.inr (some 1)), some (.inl (0 + bi (canGo P pc rws 0) + bi (canGo P pc rws 1) + bi (canGo P pc rws 2) + bi (canGo P pc rws 3))), some (.inl (nI 4))] [] h (some (.inl (bi (canGo P pc rws 0) + bi (canGo P pc rws 1) + bi (canGo P pc rws 2) + bi (canGo P pc rws 3)))) h := by
      rw [Int32.zero_add]
      (repeat (first | refine ax_st rfl ?_ | (apply ev_get rfl; assumption; rfl))); try dsimp only
      exact ax_rt rfl
    have I' := I rfl
    have e1 := rdy_step (n := 0) (r := 0) R I' B (by decide) (rdy_step (r := 1) R I' B (by decide) (rdy_step (r := 2) R I' B (by decide) (rdy_step (r := 3) R I' B (by decide) fin)))
    repeat (first | (exact e1) | refine ax_st rfl ?_ | (apply ev_get rfl; assumption; rfl))
/-- whether all have ended, and nothing is on the way -/
def allB (f : Nat → Bool) : Nat → Nat → Bool
  | 0, _ => true
  | n + 1, k => f k && allB f n (k + 1)
def fEnd (P : Nat → Option Tr) (pc : Nat → Nat) (r : Nat) : Bool := decide (pac (ptx P r) (pc r) = 0)
def fEmp (rws : Nat → List Int32) (k : Nat) : Bool := (rws k).isEmpty
def qOvr (run : Bool) (P : Nat → Option Tr) (pc : Nat → Nat) (rws : Nat → List Int32) : Bool := run && (allB (fEnd P pc) 4 0 && allB (fEmp rws) 16 0)
theorem ae_loop (R : RC h tp mc P true pc rws mv) (I : ∀ r, r < 4 → ∃ l, P r = some l) (B : ∀ r, r < 4 → pc r < 2 ^ 20) : ∀ n r, r + n = 4 → Ev (d + 3) 69 2 [some (.inr (some 1)), some (.inl (nI r))] [] h (some (.inl (bi (allB (fEnd P pc) n r)))) h := by
  have a := R.1
  have A := R.2.1
  unfold rob at a
  intro n
  induction n with
  | zero =>
    intro r hr
    have : r = 4 := by omega
    subst this
    (repeat (first | refine ax_st rfl ?_ | (apply ev_get rfl; assumption; rfl))); try dsimp only
    exact ax_rt rfl
  | succ n ih =>
    intro r hr
    obtain ⟨e, q1, q2⟩ := c_role R I (r := r) (by omega)
    have q1' := q1
    unfold pl at q1'
    have hb := B r (by omega)
    have hple : pac (ptx P r) (pc r) ≤ 2 := by unfold pac; repeat' split
                                               all_goals omega
    have e1 := ih (r + 1) (by omega)
    rw [← nI_1 r] at e1
    unfold allB
    (repeat (first | refine ax_st rfl ?_ | (apply ev_get rfl; assumption; rfl))); try dsimp only
    refine ev_f (fun q => absurd ((nI_leI (a := 4) (by decide) (by omega)).mp q) (by omega)) ?_
    (repeat (first | refine ax_st rfl ?_ | (apply ev_get rfl; assumption; rfl))); try dsimp only
    refine c_player A (by omega) rfl ?_
    refine ev_callV rfl q1' ⟨rfl, rfl, Nat.le_of_ble_eq_true rfl, Nat.le_of_ble_eq_true rfl⟩ (pl_action q1 q2 (by omega)) ?_
    refine ax_st rfl ?_
    dsimp only
    by_cases h0 : pac (ptx P r) (pc r) = 0
    · rw [show fEnd P pc r = true from decide_eq_true h0, Bool.true_and]
      refine ev_t (by rw [h0]; rfl) ?_
      repeat (first | (exact e1) | refine ax_st rfl ?_ | (apply ev_get rfl; assumption; rfl))
    · rw [show fEnd P pc r = false from decide_eq_false h0, Bool.false_and]
      refine ev_f (nI_ne0 (by omega) (by omega)) ?_
      (repeat (first | refine ax_st rfl ?_ | (apply ev_get rfl; assumption; rfl))); try dsimp only
      exact ax_rt rfl
theorem no_loop (R : RC h tp mc P run pc rws mv) : ∀ n k, k + n = 16 → Ev (d + 2) 70 2 [some (.inr (some 1)), some (.inl (nI k))] [] h (some (.inl (bi (allB (fEmp rws) n k)))) h := by
  have a := R.1
  have A := R.2.1
  have W := R.2.2.2.2.2
  unfold rob at a
  intro n
  induction n with
  | zero =>
    intro r hr
    have : r = 16 := by omega
    subst this
    (repeat (first | refine ax_st rfl ?_ | (apply ev_get rfl; assumption; rfl))); try dsimp only
    exact ax_rt rfl
  | succ n ih =>
    intro r hr
    have hw := W r (by omega)
    have hob := hw.ob
    have hl3 : (rws r).length ≤ 3 := by obtain ⟨-, -, -, hh, -⟩ := hw; exact hh
    have e1 := ih (r + 1) (by omega)
    rw [← nI_1 r] at e1
    unfold allB
    (repeat (first | refine ax_st rfl ?_ | (apply ev_get rfl; assumption; rfl))); try dsimp only
    refine ev_f (fun q => absurd ((nI_leI (a := 16) (by decide) (by omega)).mp q) (by omega)) ?_
    (repeat (first | refine ax_st rfl ?_ | (apply ev_get rfl; assumption; rfl))); try dsimp only
    refine c_row A (by omega) rfl ?_
    refine ev_callV rfl hob ⟨rfl, rfl, Nat.le_of_ble_eq_true rfl, Nat.le_of_ble_eq_true rfl⟩ (rw_size hw) ?_
    refine ax_st rfl ?_
    dsimp only
    by_cases h0 : rws r = []
    · rw [show fEmp rws r = true from by unfold fEmp; rw [h0]; rfl, Bool.true_and]
      refine ev_t (by rw [h0]; rfl) ?_
      repeat (first | (exact e1) | refine ax_st rfl ?_ | (apply ev_get rfl; assumption; rfl))
    · have : 0 < (rws r).length := List.length_pos_iff.mpr h0
      rw [show fEmp rws r = false from by unfold fEmp; simpa using h0, Bool.false_and]
      refine ev_f (nI_ne0 (by omega) (by omega)) ?_
      (repeat (first | refine ax_st rfl ?_ | (apply ev_get rfl; assumption; rfl))); try dsimp only
      exact ax_rt rfl
theorem c_over (R : RC h tp mc P run pc rws mv) (I : run = true → ∀ r, r < 4 → ∃ l, P r = some l) (B : ∀ r, r < 4 → pc r < 2 ^ 20) : mt (d + 4) 62 [.inr (some 1)] h (some (.inl (bi (qOvr run P pc rws)))) h := by
  have a := R.1
  unfold rob at a
  unfold qOvr
  cases run with
  | false =>
    rw [Bool.false_and]
    (repeat (first | refine ax_st rfl ?_ | (apply ev_get rfl; assumption; rfl))); try dsimp only
    exact ax_rt rfl
  | true =>
    have e1 : mt (d + 3) 69 [.inr (some 1)] h (some (.inl (bi (allB (fEnd P pc) 4 0)))) h := by
      have := ae_loop (d := d) R (I rfl) B 4 0 rfl
      repeat (first | (exact this) | refine ax_st rfl ?_ | (apply ev_get rfl; assumption; rfl))
    have e2 : mt (d + 3) 70 [.inr (some 1)] h (some (.inl (bi (allB (fEmp rws) 16 0)))) h := by
      have := no_loop (d := d + 1) R 16 0 rfl
      repeat (first | (exact this) | refine ax_st rfl ?_ | (apply ev_get rfl; assumption; rfl))
    rw [Bool.true_and]
    (repeat (first | refine ax_st rfl ?_ | (apply ev_get rfl; assumption; rfl))); try dsimp only
    refine ev_callV rfl a ⟨rfl, rfl, Nat.le_of_ble_eq_true rfl, Nat.le_of_ble_eq_true rfl⟩ (e1) ?_
    cases allB (fEnd P pc) 4 0 with
    | true =>
      (repeat (first | refine ax_st rfl ?_ | (apply ev_get rfl; assumption; rfl))); try dsimp only
      refine ev_callV rfl a ⟨rfl, rfl, Nat.le_of_ble_eq_true rfl, Nat.le_of_ble_eq_true rfl⟩ (e2) ?_
      cases allB (fEmp rws) 16 0 with
      | true =>
        (repeat (first | refine ax_st rfl ?_ | (apply ev_get rfl; assumption; rfl))); try dsimp only
        exact ax_rt rfl
      | false =>
        (repeat (first | refine ax_st rfl ?_ | (apply ev_get rfl; assumption; rfl))); try dsimp only
        exact ax_rt rfl
    | false =>
      (repeat (first | refine ax_st rfl ?_ | (apply ev_get rfl; assumption; rfl))); try dsimp only
      exact ax_rt rfl
end CL3
