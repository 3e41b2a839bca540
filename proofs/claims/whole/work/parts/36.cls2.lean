/-! RoleParts: the run. -/
def ptx (P : Nat → Option Tr) (r : Nat) : List Nat := match P r with
  | some l => rn l false
  | none => []
theorem bls_nI {P : List Nat} {x : Int32} : ∀ (n k : Nat) (o : Int32), k + n ≤ P.length → bls P x n k o = -1 ∨ ∃ q, bls P x n k o = nI q ∧ q < P.length + 3
  | 0, _, _, _ => Or.inl rfl
  | n + 1, k, o, h => by
    unfold bls
    split
    · exact Or.inl rfl
    · split
      · exact Or.inr ⟨k + 3, rfl, by omega⟩
      · exact bls_nI n (k + 1) _ (by omega)
theorem pbl_nI (P : List Nat) (p : Nat) (x : Int32) : pbl P p x = -1 ∨ ∃ q, pbl P p x = nI q ∧ q < P.length + 3 := by
  unfold pbl
  split
  · by_cases h : p + 2 ≤ P.length
    · exact bls_nI _ _ _ (by omega)
    · rw [show P.length - (p + 2) = 0 by omega]
      exact Or.inl rfl
  · exact Or.inl rfl
theorem nI_m1 {q : Nat} (h : q < 2 ^ 31) : nI q ≠ -1 := by
  intro e
  have := nI_pos (n := q) h
  rw [e] at this
  exact this (by decide)
theorem gon_le (P : List Nat) : ∀ n p, gon P n p ≤ p + 3 * n
  | 0, p => by simp [gon]
  | n + 1, p => by
    unfold gon
    split
    · have := gon_le P n (p + 3); omega
    · split
      · have := gon_le P n (bod P (P.getD p 0) p)
        have := bod_le P (P.getD p 0) p
        omega
      · omega
def qAct (run : Bool) (P : Nat → Option Tr) (pc : Nat → Nat) (x : Int32) : Int32 := if run = true ∧ isN x = true then nI (pac (ptx P x.toNatClampNeg) (pc x.toNatClampNeg)) else -1
def qPar (run : Bool) (P : Nat → Option Tr) (pc : Nat → Nat) (x : Int32) : Int32 := if run = true ∧ isN x = true then pot (ptx P x.toNatClampNeg) (pc x.toNatClampNeg) else -1
def qOff (run : Bool) (P : Nat → Option Tr) (pc : Nat → Nat) (x l : Int32) : Bool := decide (run = true ∧ isN x = true ∧ pbl (ptx P x.toNatClampNeg) (pc x.toNatClampNeg) l ≠ -1)
def qOn (run : Bool) (rws : Nat → List Int32) (x y : Int32) : Int32 := if run = true ∧ isN x = true ∧ isN y = true then nI (rws (4 * x.toNatClampNeg + y.toNatClampNeg)).length else -1
def qLab (run : Bool) (rws : Nat → List Int32) (x y k : Int32) : Int32 := if run = true ∧ isN x = true ∧ isN y = true then rg (rws (4 * x.toNatClampNeg + y.toNatClampNeg)) k else -1
/-- the partner's number -/
def pn (T : List Nat) (p : Nat) : Nat := T.getD p 0 - 65
def sOK (run : Bool) (P : Nat → Option Tr) (pc : Nat → Nat) (rws : Nat → List Int32) (x l : Int32) : Bool := decide (run = true ∧ isN x = true ∧ pac (ptx P x.toNatClampNeg) (pc x.toNatClampNeg) = 1 ∧ (rws (4 * x.toNatClampNeg + pn (ptx P x.toNatClampNeg) (pc x.toNatClampNeg))).length < 3 ∧ pbl (ptx P x.toNatClampNeg) (pc x.toNatClampNeg) l ≠ -1)
theorem pac_R {T : List Nat} {p : Nat} (h : pac T p ≠ 0) : isR (T.getD p 0) = true ∧ pn T p < 4 ∧ pot T p = nI (pn T p) := by
  have hr : isR (T.getD p 0) = true := by
    cases hq : isR (T.getD p 0) with
    | true => rfl
    | false => exact absurd (by unfold pac; rw [hq]; rfl) h
  have := isR_b hr
  refine ⟨hr, by unfold pn; omega, ?_⟩
  unfold pot
  rw [if_pos hr]
  rfl
section CL2
variable {d : Nat} {h : ax_H} {tp : List Nat} {mc mv : Int32} {P : Nat → Option Tr} {run : Bool} {pc : Nat → Nat} {rws : Nat → List Int32}
/-- a role in a run -/
theorem c_role (R : RC h tp mc P run pc rws mv) (I : ∀ r, r < 4 → ∃ l, P r = some l) {r : Nat} (hr : r < 4) : ∃ e, pl h (13 + 4 * r) (11 + 4 * r) e (pc r) ∧ tx h (11 + 4 * r) (12 + 4 * r) (ptx P r) := by
  obtain ⟨a, A, G, T, RRs, W⟩ := R
  obtain ⟨⟨b, q1, q2⟩, q3, -⟩ := RRs r hr
  obtain ⟨l, hl⟩ := I r hr
  have := q2 l hl
  subst this
  exact ⟨_, q3, by unfold ptx; rw [hl]; exact q1⟩
theorem c_act {x : Int32} (R : RC h tp mc P run pc rws mv) (I : run = true → ∀ r, r < 4 → ∃ l, P r = some l) (B : ∀ r, r < 4 → pc r < 2 ^ 20) : mt (d + 2) 53 [.inr (some 1), .inl x] h (some (.inl (qAct run P pc x))) h := by
  obtain ⟨a, A, G, T, RRs, W⟩ := id R
  have a0 := a
  unfold rob at a
  unfold qAct
  by_cases hq : run = true ∧ isN x = true
  · rw [if_pos hq]
    obtain ⟨rfl, hN⟩ := hq
    obtain ⟨r, hr, rfl⟩ := isN_iff.mp hN
    rw [nI_clamp (by omega)]
    obtain ⟨e, q1, q2⟩ := c_role R (I rfl) hr
    have hb := B r hr
    have q1' := q1
    unfold pl at q1'
    (repeat (first | refine ax_st rfl ?_ | (apply ev_get rfl; assumption; rfl))); try dsimp only
    refine ev_callV rfl a ⟨rfl, rfl, Nat.le_of_ble_eq_true rfl, Nat.le_of_ble_eq_true rfl⟩ (c_play a0 A hr) ?_
    (repeat (first | refine ax_st rfl ?_ | (apply ev_get rfl; assumption; rfl))); try dsimp only
    refine ev_callV rfl q1' ⟨rfl, rfl, Nat.le_of_ble_eq_true rfl, Nat.le_of_ble_eq_true rfl⟩ (pl_action q1 q2 (by omega)) ?_
    exact ax_rt rfl
  · rw [if_neg hq]
    have hq : run = false ∨ isN x = false := by
      cases run with
      | false => exact Or.inl rfl
      | true => exact Or.inr (isN_f (fun q => hq ⟨rfl, q⟩))
    (repeat (first | refine ax_st rfl ?_ | (apply ev_get rfl; assumption; rfl))); try dsimp only
    refine ev_callV rfl a ⟨rfl, rfl, Nat.le_of_ble_eq_true rfl, Nat.le_of_ble_eq_true rfl⟩ (c_playN a0 hq) ?_
    (repeat (first | refine ax_st rfl ?_ | (apply ev_get rfl; assumption; rfl))); try dsimp only
    exact ax_rt rfl
theorem c_partner {x : Int32} (R : RC h tp mc P run pc rws mv) (I : run = true → ∀ r, r < 4 → ∃ l, P r = some l) (B : ∀ r, r < 4 → pc r < 2 ^ 20) : mt (d + 2) 54 [.inr (some 1), .inl x] h (some (.inl (qPar run P pc x))) h := by
  obtain ⟨a, A, G, T, RRs, W⟩ := id R
  have a0 := a
  unfold rob at a
  unfold qPar
  by_cases hq : run = true ∧ isN x = true
  · rw [if_pos hq]
    obtain ⟨rfl, hN⟩ := hq
    obtain ⟨r, hr, rfl⟩ := isN_iff.mp hN
    rw [nI_clamp (by omega)]
    obtain ⟨e, q1, q2⟩ := c_role R (I rfl) hr
    have hb := B r hr
    have q1' := q1
    unfold pl at q1'
    (repeat (first | refine ax_st rfl ?_ | (apply ev_get rfl; assumption; rfl))); try dsimp only
    refine ev_callV rfl a ⟨rfl, rfl, Nat.le_of_ble_eq_true rfl, Nat.le_of_ble_eq_true rfl⟩ (c_play a0 A hr) ?_
    (repeat (first | refine ax_st rfl ?_ | (apply ev_get rfl; assumption; rfl))); try dsimp only
    refine ev_callV rfl q1' ⟨rfl, rfl, Nat.le_of_ble_eq_true rfl, Nat.le_of_ble_eq_true rfl⟩ (pl_other q1 q2 (by omega)) ?_
    exact ax_rt rfl
  · rw [if_neg hq]
    have hq : run = false ∨ isN x = false := by
      cases run with
      | false => exact Or.inl rfl
      | true => exact Or.inr (isN_f (fun q => hq ⟨rfl, q⟩))
    (repeat (first | refine ax_st rfl ?_ | (apply ev_get rfl; assumption; rfl))); try dsimp only
    refine ev_callV rfl a ⟨rfl, rfl, Nat.le_of_ble_eq_true rfl, Nat.le_of_ble_eq_true rfl⟩ (c_playN a0 hq) ?_
    (repeat (first | refine ax_st rfl ?_ | (apply ev_get rfl; assumption; rfl))); try dsimp only
    exact ax_rt rfl
theorem c_offers {x l : Int32} (R : RC h tp mc P run pc rws mv) (I : run = true → ∀ r, r < 4 → ∃ l, P r = some l) (B : ∀ r, r < 4 → pc r < 2 ^ 20) : mt (d + 3) 55 [.inr (some 1), .inl x, .inl l] h (some (.inl (bi (qOff run P pc x l)))) h := by
  obtain ⟨a, A, G, T, RRs, W⟩ := id R
  have a0 := a
  unfold rob at a
  unfold qOff
  by_cases hq : run = true ∧ isN x = true
  · obtain ⟨rfl, hN⟩ := hq
    obtain ⟨r, hr, rfl⟩ := isN_iff.mp hN
    rw [nI_clamp (by omega)]
    obtain ⟨e, q1, q2⟩ := c_role R (I rfl) hr
    have hb := B r hr
    have q1' := q1
    unfold pl at q1'
    (repeat (first | refine ax_st rfl ?_ | (apply ev_get rfl; assumption; rfl))); try dsimp only
    refine ev_callV rfl a ⟨rfl, rfl, Nat.le_of_ble_eq_true rfl, Nat.le_of_ble_eq_true rfl⟩ (c_play a0 A hr) ?_
    (repeat (first | refine ax_st rfl ?_ | (apply ev_get rfl; assumption; rfl))); try dsimp only
    refine ev_callV rfl q1' ⟨rfl, rfl, Nat.le_of_ble_eq_true rfl, Nat.le_of_ble_eq_true rfl⟩ (pl_behind l q1 q2 (by omega)) ?_
    (repeat (first | refine ax_st rfl ?_ | (apply ev_get rfl; assumption; rfl))); try dsimp only
    refine ev_if (fun c1 => ?_) (fun c1 => ?_)
    · rw [decide_eq_false (fun q => q.2.2 c1)]
      (repeat (first | refine ax_st rfl ?_ | (apply ev_get rfl; assumption; rfl))); try dsimp only
      exact ax_rt rfl
    · rw [decide_eq_true ⟨rfl, hN, c1⟩]
      (repeat (first | refine ax_st rfl ?_ | (apply ev_get rfl; assumption; rfl))); try dsimp only
      exact ax_rt rfl
  · rw [decide_eq_false (fun q => hq ⟨q.1, q.2.1⟩)]
    have hq : run = false ∨ isN x = false := by
      cases run with
      | false => exact Or.inl rfl
      | true => exact Or.inr (isN_f (fun q => hq ⟨rfl, q⟩))
    (repeat (first | refine ax_st rfl ?_ | (apply ev_get rfl; assumption; rfl))); try dsimp only
    refine ev_callV rfl a ⟨rfl, rfl, Nat.le_of_ble_eq_true rfl, Nat.le_of_ble_eq_true rfl⟩ (c_playN a0 hq) ?_
    (repeat (first | refine ax_st rfl ?_ | (apply ev_get rfl; assumption; rfl))); try dsimp only
    exact ax_rt rfl
theorem not3 {x y : Int32} {run : Bool} (hq : ¬ (run = true ∧ isN x = true ∧ isN y = true)) : run = false ∨ isN x = false ∨ isN y = false := by
  cases run with
  | false => exact Or.inl rfl
  | true =>
    cases hx : isN x with
    | false => exact Or.inr (Or.inl rfl)
    | true => exact Or.inr (Or.inr (isN_f (fun q => hq ⟨rfl, hx, q⟩)))
theorem c_on {x y : Int32} (R : RC h tp mc P run pc rws mv) : mt (d + 2) 58 [.inr (some 1), .inl x, .inl y] h (some (.inl (qOn run rws x y))) h := by
  obtain ⟨a, A, G, T, RRs, W⟩ := id R
  have a0 := a
  unfold rob at a
  unfold qOn
  by_cases hq : run = true ∧ isN x = true ∧ isN y = true
  · rw [if_pos hq]
    obtain ⟨rfl, hN, hM⟩ := hq
    obtain ⟨r, hr, rfl⟩ := isN_iff.mp hN
    obtain ⟨s, hs, rfl⟩ := isN_iff.mp hM
    rw [nI_clamp (by omega), nI_clamp (by omega)]
    have hw := W (4 * r + s) (by omega)
    have hob := hw.ob
    (repeat (first | refine ax_st rfl ?_ | (apply ev_get rfl; assumption; rfl))); try dsimp only
    refine ev_callV rfl a ⟨rfl, rfl, Nat.le_of_ble_eq_true rfl, Nat.le_of_ble_eq_true rfl⟩ (c_rowY a0 A hr hs) ?_
    (repeat (first | refine ax_st rfl ?_ | (apply ev_get rfl; assumption; rfl))); try dsimp only
    refine ev_callV rfl hob ⟨rfl, rfl, Nat.le_of_ble_eq_true rfl, Nat.le_of_ble_eq_true rfl⟩ (rw_size hw) ?_
    exact ax_rt rfl
  · rw [if_neg hq]
    (repeat (first | refine ax_st rfl ?_ | (apply ev_get rfl; assumption; rfl))); try dsimp only
    refine ev_callV rfl a ⟨rfl, rfl, Nat.le_of_ble_eq_true rfl, Nat.le_of_ble_eq_true rfl⟩ (c_rowN a0 (not3 hq)) ?_
    (repeat (first | refine ax_st rfl ?_ | (apply ev_get rfl; assumption; rfl))); try dsimp only
    exact ax_rt rfl
theorem c_lab {x y k : Int32} (R : RC h tp mc P run pc rws mv) : mt (d + 2) 59 [.inr (some 1), .inl x, .inl y, .inl k] h (some (.inl (qLab run rws x y k))) h := by
  obtain ⟨a, A, G, T, RRs, W⟩ := id R
  have a0 := a
  unfold rob at a
  unfold qLab
  by_cases hq : run = true ∧ isN x = true ∧ isN y = true
  · rw [if_pos hq]
    obtain ⟨rfl, hN, hM⟩ := hq
    obtain ⟨r, hr, rfl⟩ := isN_iff.mp hN
    obtain ⟨s, hs, rfl⟩ := isN_iff.mp hM
    rw [nI_clamp (by omega), nI_clamp (by omega)]
    have hw := W (4 * r + s) (by omega)
    have hob := hw.ob
    (repeat (first | refine ax_st rfl ?_ | (apply ev_get rfl; assumption; rfl))); try dsimp only
    refine ev_callV rfl a ⟨rfl, rfl, Nat.le_of_ble_eq_true rfl, Nat.le_of_ble_eq_true rfl⟩ (c_rowY a0 A hr hs) ?_
    (repeat (first | refine ax_st rfl ?_ | (apply ev_get rfl; assumption; rfl))); try dsimp only
    refine ev_callV rfl hob ⟨rfl, rfl, Nat.le_of_ble_eq_true rfl, Nat.le_of_ble_eq_true rfl⟩ (rw_get hw k) ?_
    exact ax_rt rfl
  · rw [if_neg hq]
    (repeat (first | refine ax_st rfl ?_ | (apply ev_get rfl; assumption; rfl))); try dsimp only
    refine ev_callV rfl a ⟨rfl, rfl, Nat.le_of_ble_eq_true rfl, Nat.le_of_ble_eq_true rfl⟩ (c_rowN a0 (not3 hq)) ?_
    (repeat (first | refine ax_st rfl ?_ | (apply ev_get rfl; assumption; rfl))); try dsimp only
    exact ax_rt rfl
/-- a role and a row are changed, and the number of moves -/
theorem c_moved {h1 h2 : ax_H} {r k p' : Nat} {row' : List Int32} {e : Bool} (R : RC h tp mc P true pc rws mv) (hr : r < 4) (hk : k < 16) (he : e = (P r).isSome) (f1 : fr h h1 (fun q => q = 13 + 4 * r)) (p1 : pl h1 (13 + 4 * r) (11 + 4 * r) e p') (f2 : fr h1 h2 (fun q => q = 27 + 2 * k ∨ q = 28 + 2 * k)) (w2 : rw0 h2 (27 + 2 * k) (28 + 2 * k) row') (mv' : Int32) : RC (ax_set h2 1 (.inr (6, [.inr (some 2), .inr (some 4), .inr (some 5), .inr (some 8), .inr (some 9), .inr (some 10), .inl mc, .inl (bi true), .inl mv']))) tp mc P true (va_up pc r p') (va_up rws k row') mv' ∧ fr h (ax_set h2 1 (.inr (6, [.inr (some 2), .inr (some 4), .inr (some 5), .inr (some 8), .inr (some 9), .inr (some 10), .inl mc, .inl (bi true), .inl mv']))) (fun q => 0 < q ∧ q < 59) ∧ rob h2 mc true mv := by
  obtain ⟨a, A, G, T, RRs, W⟩ := R
  have F : fr h (ax_set h2 1 (.inr (6, [.inr (some 2), .inr (some 4), .inr (some 5), .inr (some 8), .inr (some 9), .inr (some 10), .inl mc, .inl (bi true), .inl mv']))) (fun q => q = 1 ∨ q = 13 + 4 * r ∨ q = 27 + 2 * k ∨ q = 28 + 2 * k) := fr.tr (A := fun q => q = 1 ∨ q = 13 + 4 * r ∨ q = 27 + 2 * k ∨ q = 28 + 2 * k) (fr.tr (A := fun q => q = 1 ∨ q = 13 + 4 * r ∨ q = 27 + 2 * k ∨ q = 28 + 2 * k) (f1.wk (fun q z => Or.inr (Or.inl z))) (f2.wk (fun q z => Or.inr (Or.inr z)))) (fr.st (Or.inl rfl))
  have F2 : fr h1 (ax_set h2 1 (.inr (6, [.inr (some 2), .inr (some 4), .inr (some 5), .inr (some 8), .inr (some 9), .inr (some 10), .inl mc, .inl (bi true), .inl mv']))) (fun q => q = 1 ∨ q = 27 + 2 * k ∨ q = 28 + 2 * k) := fr.tr (A := fun q => q = 1 ∨ q = 27 + 2 * k ∨ q = 28 + 2 * k) (f2.wk (fun q z => Or.inr z)) (fr.st (Or.inl rfl))
  have F3 : fr h2 (ax_set h2 1 (.inr (6, [.inr (some 2), .inr (some 4), .inr (some 5), .inr (some 8), .inr (some 9), .inr (some 10), .inl mc, .inl (bi true), .inl mv']))) (fun q => q = 1) := fr.st rfl
  have a2 : rob h2 mc true mv := (ob.fr (ob.fr a f1 (by omega)) f2 (by omega))
  refine ⟨⟨ob.st a2 _ _, ?_, ?_, T.fr F (by omega) (by omega), fun s hs => ?_, fun m hm => ?_⟩, F.wk (fun q z => by omega), a2⟩
  · obtain ⟨⟨f, q1, q2⟩, ⟨g, q3, q4⟩, ⟨n, q5, q6⟩⟩ := A
    exact ⟨⟨f, q1.fr F (by omega), q2⟩, ⟨g, q3.fr F (by omega), q4⟩, ⟨n, q5.fr F (by omega), q6⟩⟩
  · obtain ⟨⟨u, v, q1⟩, n, lo, f, g, q2, q3, q4⟩ := G
    exact ⟨⟨u, v, q1.fr F (by omega)⟩, n, lo, f, g, q2.fr F (by omega), q3.fr F (by omega), q4.fr F (by omega)⟩
  · obtain ⟨⟨b, q1, q2⟩, q3, q, q4⟩ := RRs s hs
    refine ⟨⟨b, q1.fr F (by omega) (by omega), q2⟩, ?_, q, q4.fr F (by omega)⟩
    by_cases hsr : s = r
    · subst hsr
      rw [va_up_self, ← he]
      exact p1.fr F2 (by omega)
    · rw [va_up_ne _ _ hsr]
      exact q3.fr F (by omega)
  · by_cases hmk : m = k
    · subst hmk
      rw [va_up_self]
      exact w2.fr F3 (by omega) (by omega)
    · rw [va_up_ne _ _ hmk]
      exact (W m hm).fr F (by omega) (by omega)
end CL2
