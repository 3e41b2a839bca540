/-! Both sides answer alike, call by call. -/
section OPS
variable {h h1 : ax_H} {tp : List Nat} {mc mv : Int32} {P : Nat → Option Tr} {run : Bool} {pc : Nat → Nat} {rws : Nat → List Int32}
theorem RC.frm (R : RC h tp mc P run pc rws mv) (f : fr h h1 (fun q => 59 ≤ q)) : RC h1 tp mc P run pc rws mv := by
  obtain ⟨a, A, G, T, RRs, W⟩ := R
  exact ⟨ob.fr a f (by decide), A.fr f (by decide) (by decide) (by decide), G.fr f (by decide) (by decide) (by decide) (by decide), T.fr f (by decide) (by decide), fun s hs => (RRs s hs).fr f ⟨by omega, by omega, by omega, by omega⟩, fun k hk => (W k hk).fr f (by omega) (by omega)⟩
theorem RM.frc (R : RM h tp mc P run pc rws mv) (f : fr h h1 (fun q => 0 < q ∧ q < 59)) : RM h1 tp mc P run pc rws mv := by
  obtain ⟨pcs, ms, th, F, m, A, q⟩ := R
  exact ⟨pcs, ms, th, F, ob.fr m f (by decide), A.fr f (fun q hq z => by omega), q⟩
theorem RM.eqf {pc' : Nat → Nat} (R : RM h tp mc P run pc rws mv) (he : ∀ r, r < 4 → pc' r = pc r) : RM h tp mc P run pc' rws mv := by
  obtain ⟨pcs, ms, th, F, m, A, a, b, c, d, e⟩ := R
  exact ⟨pcs, ms, th, F, m, A, a, b, c, fun r hr => by rw [he r hr]; exact d r hr, e⟩
/-- what is known of parts and places -/
def PGs (P : Nat → Option Tr) (run : Bool) (pc : Nat → Nat) : Prop := (∀ r, r < 4 → ∀ l, P r = some l → PG l) ∧ (∀ r, r < 4 → pc r < 2 ^ 20) ∧ (run = true → ∀ r, r < 4 → ∃ l, P r = some l ∧ posC l (pc r))
theorem PGs.I (g : PGs P run pc) : run = true → ∀ r, r < 4 → ∃ l, P r = some l := fun hr r h4 => by
  obtain ⟨l, h1, -⟩ := g.2.2 hr r h4
  exact ⟨l, h1⟩
theorem PGs.mI (g : PGs P run pc) : mI run P pc := by
  refine ⟨fun hr r h4 => ?_, g.2.1⟩
  obtain ⟨l, h1, h2⟩ := g.2.2 hr r h4
  refine ⟨⟨l, h1⟩, ?_⟩
  have := (posC_ok (g.1 r h4 l h1) h2).1
  unfold ptx
  rw [h1]
  exact this
def LI (C : ax_C) (N S : Nat) (h : ax_H) : Prop := h.1 = N ∧ h.2.1 = S ∧ h.2.2 0 = C ∧ ∃ tp mc P run pc rws mv, RC h tp mc P run pc rws mv ∧ RM h tp mc P run pc rws mv ∧ PGs P run pc
/-- a call of both, with the same answer -/
def OP (C : ax_C) (N S : Nat) (jc jm : Nat) (as : List ax_V) (h : ax_H) : Prop := ∃ v h1 h2 fs1 fs2, mt 999 jc (.inr (some 1) :: as) h (some (.inl v)) h1 ∧ mt 999 jm (.inr (some 59) :: as) h1 (some (.inl v)) h2 ∧ ob h 1 6 fs1 ∧ ob h1 59 7 fs2 ∧ LI C N S h2 ∧ h1.2.2 0 = C
variable {C : ax_C} {N S : Nat}
theorem op_look {jc jm : Nat} {as : List ax_V} {v : Int32} (L : LI C N S h) (e1 : mt 999 jc (.inr (some 1) :: as) h (some (.inl v)) h) (e2 : mt 999 jm (.inr (some 59) :: as) h (some (.inl v)) h) : OP C N S jc jm as h := by
  obtain ⟨n1, s1, c1, tp, mc, P, run, pc, rws, mv, R, M, g⟩ := id L
  obtain ⟨pcs, ms, th, F, m, -⟩ := id M
  exact ⟨v, h, h, _, _, e1, e2, R.1, m, L, c1⟩
theorem op_move {jc jm : Nat} {as : List ax_V} {v : Int32} {h2 : ax_H} {tp' : List Nat} {mc' mv' : Int32} {P' : Nat → Option Tr} {run' : Bool} {pc' : Nat → Nat} {rws' : Nat → List Int32} (n1 : h.1 = N) (s1 : h.2.1 = S) (c1 : h.2.2 0 = C) (R : RC h tp mc P run pc rws mv) (M : RM h tp mc P run pc rws mv) (e1 : mt 999 jc (.inr (some 1) :: as) h (some (.inl v)) h1) (R1 : RC h1 tp' mc' P' run' pc' rws' mv') (f1 : fr h h1 (fun q => 0 < q ∧ q < 59)) (e2 : mt 999 jm (.inr (some 59) :: as) h1 (some (.inl v)) h2) (M2 : RM h2 tp' mc' P' run' pc' rws' mv') (f2 : fr h1 h2 (fun q => 59 ≤ q)) (g : PGs P' run' pc') : OP C N S jc jm as h := by
  have M1 := M.frc f1
  obtain ⟨pcs, ms, th, F, m, -⟩ := M1
  have c2 : h1.2.2 0 = C := (f1.2.2 0 (by decide)).trans c1
  exact ⟨v, h1, h2, _, _, e1, e2, R.1, m, ⟨by rw [f2.1, f1.1]; exact n1, by rw [f2.2.1, f1.2.1]; exact s1, (f2.2.2 0 (by decide)).trans c2, tp', mc', P', run', pc', rws', mv', R1.frm f2, M2, g⟩, c2⟩
theorem op_type {x : Nat} (hx : x < 65536) (L : LI C N S h) : OP C N S 47 76 [.inl (nI x)] h := by
  obtain ⟨n1, s1, c1, tp, mc, P, run, pc, rws, mv, R, M, g⟩ := L
  obtain ⟨h1, e1, R1, f1⟩ := c_type (d := 997) hx R
  obtain ⟨h2, e2, M2, f2⟩ := m_type (d := 999) hx (M.frc f1)
  exact op_move n1 s1 c1 R M e1 R1 f1 e2 M2 f2 g
theorem op_define (L : LI C N S h) : OP C N S 48 94 [] h := by
  obtain ⟨n1, s1, c1, tp, mc, P, run, pc, rws, mv, R, M, g⟩ := L
  by_cases hf : gfl tp 0 0 0 = -1
  · have hlen := R.2.2.2.1.len
    obtain ⟨t, hw, rfl⟩ := tree_of hlen hf
    cases hs : (sd t false 0 0 0).1 with
    | false =>
      obtain ⟨h1, e1, R1, f1⟩ := c_define2 hw R hf hs
      obtain ⟨h2, e2, M2, f2⟩ := m_define2 (d := 995) hw (M.frc f1) hs
      exact op_move n1 s1 c1 R M (ax_dle (by decide) e1) R1 f1 e2 M2 f2 g
    | true =>
      obtain ⟨h1, e1, R1, f1⟩ := c_define3 hw R hf hs
      obtain ⟨h2, e2, M2, f2⟩ := m_define3 (d := 995) hw (M.frc f1) hs
      refine op_move n1 s1 c1 R M (ax_dle (by decide) e1) R1 f1 e2 M2 f2 ⟨fun r hr l hl => pg_of hw hs hlen hl, g.2.1, (fun z => by cases z)⟩
  · obtain ⟨h1, e1, R1, f1⟩ := c_define1 R hf
    obtain ⟨h2, e2, M2, f2⟩ := m_define1 (d := 995) (M.frc f1) hf
    exact op_move n1 s1 c1 R M (ax_dle (by decide) e1) R1 f1 e2 M2 f2 g
theorem op_begin (L : LI C N S h) : OP C N S 52 102 [] h := by
  obtain ⟨n1, s1, c1, tp, mc, P, run, pc, rws, mv, R, M, g⟩ := L
  obtain ⟨h1, e1, R1, f1⟩ := c_begin (d := 994) R
  obtain ⟨h2, e2, M2, f2⟩ := m_begin (d := 996) (M.frc f1)
  cases hA : allB (fSome P) 4 0 with
  | false =>
    rw [hA] at e1 R1 e2 M2
    exact op_move n1 s1 c1 R M e1 R1 f1 e2 M2 f2 g
  | true =>
    rw [hA] at e1 R1 e2 M2
    rw [if_pos rfl, if_pos rfl, if_pos rfl, if_pos rfl] at R1 M2
    have I : ∀ r, r < 4 → ∃ l, P r = some l := fun r hr => Option.isSome_iff_exists.mp (allB_t 4 0 hA r (Nat.zero_le _) (by omega))
    have key : ∀ r, r < 4 → ∃ l, P r = some l ∧ stl (ptx P r) 100 0 = gon (ptx P r) 60 0 ∧ posC l (gon (ptx P r) 60 0) ∧ gon (ptx P r) 60 0 < 60 := by
      intro r hr
      obtain ⟨l, hl⟩ := I r hr
      have hg := g.1 r hr l hl
      have hpt : ptx P r = rn l false := by unfold ptx; rw [hl]
      obtain ⟨k1, k2⟩ := settle_eq hg ⟨l, [], Oc_self l 0 [] hg.1.1⟩
      rw [hpt]
      exact ⟨l, hl, k1, k2, (posC_ok hg k2).2⟩
    refine op_move n1 s1 c1 R M e1 R1 f1 e2 (M2.eqf (fun r hr => ?_)) f2 ⟨g.1, fun r hr => ?_, fun _ r hr => ?_⟩
    · obtain ⟨l, -, k1, -⟩ := key r hr
      exact k1.symm
    · obtain ⟨l, -, -, -, k⟩ := key r hr
      show gon (ptx P r) 60 0 < 2 ^ 20
      omega
    · obtain ⟨l, k0, -, k2, -⟩ := key r hr
      exact ⟨l, k0, k2⟩
/-- a move of role r along the label y -/
theorem mv_ok {r : Nat} {y : Int32} (g : PGs P true pc) (hr : r < 4) (hy : pbl (ptx P r) (pc r) y ≠ -1) : stl (ptx P r) 100 (pbl (ptx P r) (pc r) y).toNatClampNeg = gon (ptx P r) 60 (pbl (ptx P r) (pc r) y).toNatClampNeg ∧ PGs P true (va_up pc r (gon (ptx P r) 60 (pbl (ptx P r) (pc r) y).toNatClampNeg)) := by
  obtain ⟨l, hl, hc⟩ := g.2.2 rfl r hr
  have hg := g.1 r hr l hl
  have hpt : ptx P r = rn l false := by unfold ptx; rw [hl]
  rw [hpt] at hy ⊢
  obtain ⟨q, hq1, hq2⟩ := (pbl_nI (rn l false) (pc r) y).resolve_left hy
  have hlen := hg.2
  have hp := pbl_pos hg hc (show q < 2 ^ 31 by omega) hq1
  rw [hq1, nI_clamp (by omega)]
  obtain ⟨k1, k2⟩ := settle_eq hg hp
  have k3 := (posC_ok hg k2).2
  refine ⟨k1, g.1, fun s hs => ?_, fun _ s hs => ?_⟩
  · unfold va_up
    split
    · omega
    · exact g.2.1 s hs
  · unfold va_up
    by_cases hsr : s = r
    · rw [if_pos hsr, hsr]
      exact ⟨l, hl, k2⟩
    · rw [if_neg hsr]
      exact g.2.2 rfl s hs
theorem op_send {x l : Int32} (L : LI C N S h) : OP C N S 56 107 [.inl x, .inl l] h := by
  obtain ⟨n1, s1, c1, tp, mc, P, run, pc, rws, mv, R, M, g⟩ := L
  obtain ⟨h1, e1, R1, f1⟩ := c_send (d := 994) (x := x) (l := l) R g.I g.2.1
  obtain ⟨h2, e2, M2, f2⟩ := m_send (d := 994) (x := x) (l := l) (M.frc f1) g.mI
  cases hA : sOK run P pc rws x l with
  | false =>
    rw [hA] at e1 R1 e2 M2
    exact op_move n1 s1 c1 R M e1 R1 f1 e2 M2 f2 g
  | true =>
    rw [hA] at e1 R1 e2 M2
    rw [if_pos rfl, if_pos rfl, if_pos rfl] at R1 M2
    obtain ⟨rfl, hN, h1', h2', h3'⟩ := of_decide_eq_true hA
    obtain ⟨r, hr, rfl⟩ := isN_iff.mp hN
    rw [nI_clamp (by omega)] at R1 M2 h3'
    obtain ⟨k1, k2⟩ := mv_ok g hr h3'
    rw [k1] at M2
    exact op_move n1 s1 c1 R M e1 R1 f1 e2 M2 f2 k2
theorem op_receive {x : Int32} (L : LI C N S h) : OP C N S 57 108 [.inl x] h := by
  obtain ⟨n1, s1, c1, tp, mc, P, run, pc, rws, mv, R, M, g⟩ := L
  obtain ⟨h1, e1, R1, f1⟩ := c_receive (d := 994) (x := x) R g.I g.2.1
  obtain ⟨h2, e2, M2, f2⟩ := m_receive (d := 994) (x := x) (M.frc f1) g.mI
  cases hA : rOK run P pc rws x with
  | false =>
    rw [hA] at R1 M2
    exact op_move n1 s1 c1 R M e1 R1 f1 e2 M2 f2 g
  | true =>
    rw [hA] at R1 M2
    rw [if_pos rfl, if_pos rfl, if_pos rfl] at R1 M2
    obtain ⟨rfl, hN, h1', h2', h3'⟩ := of_decide_eq_true hA
    obtain ⟨r, hr, rfl⟩ := isN_iff.mp hN
    rw [nI_clamp (by omega)] at R1 M2 h3'
    obtain ⟨k1, k2⟩ := mv_ok g hr h3'
    rw [k1] at M2
    exact op_move n1 s1 c1 R M e1 R1 f1 e2 M2 f2 k2
theorem op_messages (L : LI C N S h) : OP C N S 49 96 [] h := by
  obtain ⟨-, -, -, tp, mc, P, run, pc, rws, mv, R, M, g⟩ := id L
  exact op_look L (c_messages R) (m_messages M)
theorem op_moves (L : LI C N S h) : OP C N S 60 111 [] h := by
  obtain ⟨-, -, -, tp, mc, P, run, pc, rws, mv, R, M, g⟩ := id L
  exact op_look L (c_moves R) (m_moves M)
theorem op_length {x : Int32} (L : LI C N S h) : OP C N S 50 97 [.inl x] h := by
  obtain ⟨-, -, -, tp, mc, P, run, pc, rws, mv, R, M, g⟩ := id L
  exact op_look L (c_length (d := 997) R) (m_length (d := 998) M)
theorem op_charAt {x k : Int32} (L : LI C N S h) : OP C N S 51 98 [.inl x, .inl k] h := by
  obtain ⟨-, -, -, tp, mc, P, run, pc, rws, mv, R, M, g⟩ := id L
  exact op_look L (c_charAt (d := 997) R) (m_charAt (d := 998) M)
theorem op_act {x : Int32} (L : LI C N S h) : OP C N S 53 103 [.inl x] h := by
  obtain ⟨-, -, -, tp, mc, P, run, pc, rws, mv, R, M, g⟩ := id L
  exact op_look L (c_act (d := 997) R g.I g.2.1) (m_actR (d := 998) M g.mI)
theorem op_partner {x : Int32} (L : LI C N S h) : OP C N S 54 104 [.inl x] h := by
  obtain ⟨-, -, -, tp, mc, P, run, pc, rws, mv, R, M, g⟩ := id L
  exact op_look L (c_partner (d := 997) R g.I g.2.1) (m_partnerR (d := 997) M g.mI)
theorem op_offers {x l : Int32} (L : LI C N S h) : OP C N S 55 106 [.inl x, .inl l] h := by
  obtain ⟨-, -, -, tp, mc, P, run, pc, rws, mv, R, M, g⟩ := id L
  exact op_look L (c_offers (d := 996) R g.I g.2.1) (m_offersR (d := 996) M g.mI)
theorem op_on {x y : Int32} (L : LI C N S h) : OP C N S 58 109 [.inl x, .inl y] h := by
  obtain ⟨-, -, -, tp, mc, P, run, pc, rws, mv, R, M, g⟩ := id L
  exact op_look L (c_on (d := 997) R) (m_on (d := 998) M)
theorem op_lab {x y k : Int32} (L : LI C N S h) : OP C N S 59 110 [.inl x, .inl y, .inl k] h := by
  obtain ⟨-, -, -, tp, mc, P, run, pc, rws, mv, R, M, g⟩ := id L
  exact op_look L (c_lab (d := 997) R) (m_lab (d := 997) M)
theorem op_ready (L : LI C N S h) : OP C N S 61 113 [] h := by
  obtain ⟨-, -, -, tp, mc, P, run, pc, rws, mv, R, M, g⟩ := id L
  exact op_look L (c_ready (d := 994) R g.I g.2.1) (m_ready (d := 994) M g.mI)
theorem op_over (L : LI C N S h) : OP C N S 62 114 [] h := by
  obtain ⟨-, -, -, tp, mc, P, run, pc, rws, mv, R, M, g⟩ := id L
  exact op_look L (c_over (d := 995) R g.I g.2.1) (m_over (d := 997) M g.mI)
end OPS
