/-! RoleParts: define. -/
section CL5
variable {h h1 : ax_H} {tp : List Nat} {mc mv : Int32} {P : Nat → Option Tr} {run : Bool} {pc : Nat → Nat} {rws : Nat → List Int32}
/-- adopting the parts -/
def AD (i : Nat) (x : Int32) (h : ax_H) (Φ : ax_H → Prop) : Prop := ∃ h', Ev 202 64 i [some (.inr (some 1)), some (.inl x)] [] h none h' ∧ Φ h' ∧ fr h h' (fun q => 0 < q ∧ q < 59)
theorem ad_loop (Φ : ax_H → Prop) {t : Tr} (hw : wf t false) : ∀ n r (h : ax_H) (P : Nat → Option Tr), r + n = 4 → RC h (rn t false) mc P run pc rws mv → (∀ (h1 : ax_H) (P1 : Nat → Option Tr), RC h1 (rn t false) mc P1 run pc rws mv → (∀ s, r ≤ s → s < 4 → P1 s = lt (65 + s) t 0) → (∀ s, s < r → P1 s = P s) → AD 23 (nI 4) h1 Φ) → AD 8 (nI r) h Φ := by
  intro n
  induction n with
  | zero =>
    intro r h P hr R K
    have : r = 4 := by omega
    subst this
    obtain ⟨h', q1, q2, q3⟩ := K h P R (fun s h1 h2 => absurd h1 (by omega)) (fun s _ => rfl)
    refine ⟨h', ?_, q2, q3⟩
    repeat (first | (exact q1) | refine ax_st rfl ?_ | (apply ev_get rfl; assumption; rfl))
  | succ n ih =>
    intro r h P hr R K
    have a := R.1
    unfold rob at a
    obtain ⟨⟨b, q1, q2⟩, pe, q, w0⟩ := R.2.2.2.2.1 r (by omega)
    have hD : wD (14 + 4 * r) (11 + 4 * r) (12 + 4 * r) := ⟨⟨by omega, by omega, by omega⟩, ⟨by omega, by omega⟩, ⟨by omega, by omega⟩, ⟨by omega, by omega⟩⟩
    obtain ⟨h1, e1, ⟨p', b', w1, t1⟩, l1, f1⟩ := w_part hD (by omega) hw w0 R.2.2.2.1 q1
    have e1 := ax_dle (show 200 ≤ 201 by decide) e1
    have p1 := pe.fr f1 (by unfold wA; omega)
    have w0' := w0
    unfold wr at w0'
    unfold pl at p1
    have p2 := p1.st 2 [.inr (some (11 + 4 * r)), .inl (bi (lt (65 + r) t 0).isSome), .inl (nI (pc r))]
    have f2 : fr h1 (ax_set h1 (13 + 4 * r) (.inr (2, [.inr (some (11 + 4 * r)), .inl (bi (lt (65 + r) t 0).isSome), .inl (nI (pc r))]))) (fun q => q = 13 + 4 * r) := fr.st rfl
    have F : fr h (ax_set h1 (13 + 4 * r) (.inr (2, [.inr (some (11 + 4 * r)), .inl (bi (lt (65 + r) t 0).isSome), .inl (nI (pc r))]))) (fun q => q = 11 + 4 * r ∨ q = 12 + 4 * r ∨ q = 13 + 4 * r ∨ q = 14 + 4 * r) := (f1.wk (fun q z => by unfold wA at z; omega)).tr (f2.wk (fun q z => by omega))
    have hb : ∃ b, tx h1 (11 + 4 * r) (12 + 4 * r) b ∧ ∀ l, lt (65 + r) t 0 = some l → b = rn l false := by
      cases hl : lt (65 + r) t 0 with
      | none => exact ⟨b', t1, fun l hl' => by cases hl'⟩
      | some l => exact ⟨rn l false, l1 l hl, fun l' hl' => by cases hl'; rfl⟩
    obtain ⟨b2, t2, hb2⟩ := hb
    have R1 := R.role' (Q := lt (65 + r) t 0) (by omega) F ⟨⟨b2, t2.fr f2 (by omega) (by omega), hb2⟩, p2, p', w1.fr f2 (by omega)⟩
    obtain ⟨h', z1, z2, z3⟩ := ih (r + 1) _ (va_up P r (lt (65 + r) t 0)) (by omega) R1 (fun h2 P2 b1 b2 b3 => K h2 P2 b1 (fun s u v => by
        by_cases hs : s = r
        · rw [hs, b3 r (by omega), va_up_self]
        · exact b2 s (by omega) v) (fun s u => by rw [b3 s (by omega), va_up_ne _ _ (by omega)]))
    refine ⟨h', ?_, z2, (F.wk (fun q z => by omega)).tr z3⟩
    rw [← nI_1 r] at z1
    (repeat (first | refine ax_st rfl ?_ | (apply ev_get rfl; assumption; rfl))); try dsimp only
    refine ev_f (fun q => absurd ((nI_leI (a := 4) (by decide) (by omega)).mp q) (by omega)) ?_
    (repeat (first | refine ax_st rfl ?_ | (apply ev_get rfl; assumption; rfl))); try dsimp only
    refine c_player R.2.1 (by omega) rfl ?_
    (repeat (first | refine ax_st rfl ?_ | (apply ev_get rfl; assumption; rfl))); try dsimp only
    refine c_writer R.2.1 (by omega) rfl ?_
    refine ev_callV rfl w0' ⟨rfl, rfl, Nat.le_of_ble_eq_true rfl, Nat.le_of_ble_eq_true rfl⟩ (e1) ?_
    refine ev_put rfl p1 (Nat.le_of_ble_eq_true rfl) (bi_fit _) ?_
    repeat (first | (exact z1) | refine ax_st rfl ?_ | (apply ev_get rfl; assumption; rfl))
theorem c_adopt {t : Tr} (hw : wf t false) (R : RC h (rn t false) mc P run pc rws mv) : ∃ h', mt 202 64 [.inr (some 1)] h none h' ∧ RC h' (rn t false) (nI ((rn t false).count 123)) (fun r => lt (65 + r) t 0) false pc rws mv ∧ fr h h' (fun q => 0 < q ∧ q < 59) := by
  have a := R.1
  unfold rob at a
  have T := R.2.2.2.1
  have hto := T.ob
  have R1 := R.ob' (nI ((rn t false).count 123)) run mv
  obtain ⟨h', q1, q2, q3⟩ := ad_loop (fun h' => RC h' (rn t false) (nI ((rn t false).count 123)) (fun r => lt (65 + r) t 0) false pc rws mv) hw 4 0 _ P rfl R1 (fun h2 P2 b1 b2 b3 => by
    have R2 := b1.ob' (nI ((rn t false).count 123)) false mv
    refine ⟨_, ?_, R2.eqf (fun r hr => (b2 r (Nat.zero_le _) hr).symm) (fun _ _ => rfl) (fun _ _ => rfl), fr.st (by decide)⟩
    have a2 := b1.1
    unfold rob at a2
    (repeat (first | refine ax_st rfl ?_ | (apply ev_get rfl; assumption; rfl))); try dsimp only
    refine ev_put rfl a2 ?_ ?_ ?_; exact Nat.le_of_ble_eq_true rfl; rfl
    exact ax_rt rfl)
  refine ⟨h', ?_, q2, (fr.st (by decide)).tr q3⟩
  (repeat (first | refine ax_st rfl ?_ | (apply ev_get rfl; assumption; rfl))); try dsimp only
  refine ev_callV rfl hto ⟨rfl, rfl, Nat.le_of_ble_eq_true rfl, Nat.le_of_ble_eq_true rfl⟩ (tx_count (x := 123) T (by decide)) ?_
  refine ev_put rfl a ?_ ?_ ?_; exact Nat.le_of_ble_eq_true rfl; rfl
  repeat (first | (exact q1) | refine ax_st rfl ?_ | (apply ev_get rfl; assumption; rfl))
/-- judging the text -/
theorem c_judge1 (R : RC h tp mc P run pc rws mv) (hf : gfl tp 0 0 0 ≠ -1) : ∃ h', mt 202 63 [.inr (some 1)] h (some (.inl (gfl tp 0 0 0))) h' ∧ RC h' tp mc P run pc rws mv ∧ fr h h' (fun q => 0 < q ∧ q < 59) := by
  have a := R.1
  unfold rob at a
  obtain ⟨⟨u, v, g0⟩, n, lo, f, g, s0⟩ := R.2.2.1
  obtain ⟨h1, e', n', e1, g1, f1⟩ := gr_fault (d := 198) ⟨by decide, by decide⟩ R.2.2.2.1 g0
  refine ⟨h1, ?_, R.gs' (f1.wk (fun q z => by omega)) ⟨⟨_, _, g1⟩, n, lo, f, g, s0.1.fr f1 (by decide), s0.2.1.fr f1 (by decide), s0.2.2.fr f1 (by decide)⟩, f1.wk (fun q z => by omega)⟩
  (repeat (first | refine ax_st rfl ?_ | (apply ev_get rfl; assumption; rfl))); try dsimp only
  refine ev_callV rfl g0 ⟨rfl, rfl, Nat.le_of_ble_eq_true rfl, Nat.le_of_ble_eq_true rfl⟩ (e1) ?_
  (repeat (first | refine ax_st rfl ?_ | (apply ev_get rfl; assumption; rfl))); try dsimp only
  refine ev_f hf ?_
  (repeat (first | refine ax_st rfl ?_ | (apply ev_get rfl; assumption; rfl))); try dsimp only
  exact ax_rt rfl
theorem c_judge2 {t : Tr} (hw : wf t false) (R : RC h (rn t false) mc P run pc rws mv) (hf : gfl (rn t false) 0 0 0 = -1) : ∃ h', mt 202 63 [.inr (some 1)] h (some (.inl (if (sd t false 0 0 0).1 = true then -1 else -2))) h' ∧ RC h' (rn t false) mc P run pc rws mv ∧ fr h h' (fun q => 0 < q ∧ q < 59) := by
  have a := R.1
  have a0 := a
  unfold rob at a
  obtain ⟨⟨u, v, g0⟩, n, lo, f, g, s0⟩ := R.2.2.1
  obtain ⟨h1, e', n', e1, g1, f1⟩ := gr_fault (d := 198) ⟨by decide, by decide⟩ R.2.2.2.1 g0
  have T1 := R.2.2.2.1.fr f1 (by decide) (by decide)
  have s1 : sn h1 n lo f g := ⟨s0.1.fr f1 (by decide), s0.2.1.fr f1 (by decide), s0.2.2.fr f1 (by decide)⟩
  obtain ⟨h2, e2, s2, f2⟩ := so_holds (d := 197) hw T1 s1
  have a1 := ob.fr a0 f1 (by decide)
  have F : fr h h2 (fun q => q = 4 ∨ q = 5 ∨ q = 6 ∨ q = 7) := (f1.wk (fun q z => by omega)).tr (f2.wk (fun q z => by unfold sA at z; omega))
  have g2 : gm h2 4 e' n' := ob.fr g1 f2 (by unfold sA; decide)
  have so := s1.1
  refine ⟨h2, ?_, R.gs' F ⟨⟨_, _, g2⟩, s2⟩, F.wk (fun q z => by omega)⟩
  (repeat (first | refine ax_st rfl ?_ | (apply ev_get rfl; assumption; rfl))); try dsimp only
  refine ev_callV rfl g0 ⟨rfl, rfl, Nat.le_of_ble_eq_true rfl, Nat.le_of_ble_eq_true rfl⟩ (e1) ?_
  rw [hf]
  (repeat (first | refine ax_st rfl ?_ | (apply ev_get rfl; assumption; rfl))); try dsimp only
  refine ev_callV rfl so ⟨rfl, rfl, Nat.le_of_ble_eq_true rfl, Nat.le_of_ble_eq_true rfl⟩ (e2) ?_
  cases (sd t false 0 0 0).1 with
  | true =>
    (repeat (first | refine ax_st rfl ?_ | (apply ev_get rfl; assumption; rfl))); try dsimp only
    exact ax_rt rfl
  | false =>
    (repeat (first | refine ax_st rfl ?_ | (apply ev_get rfl; assumption; rfl))); try dsimp only
    exact ax_rt rfl
theorem c_define1 (R : RC h tp mc P run pc rws mv) (hf : gfl tp 0 0 0 ≠ -1) : ∃ h', mt 203 48 [.inr (some 1)] h (some (.inl (gfl tp 0 0 0))) h' ∧ RC h' [] mc P run pc rws mv ∧ fr h h' (fun q => 0 < q ∧ q < 59) := by
  have a := R.1
  unfold rob at a
  obtain ⟨h1, e1, R1, f1⟩ := c_judge1 R hf
  have a1 := R1.1
  unfold rob at a1
  have T1 := R1.2.2.2.1
  have hto := T1.ob
  obtain ⟨h2, e2, t2, f2⟩ := tx_shorten (d := 202) T1 (k := 0) (Nat.zero_le _)
  rw [List.take_zero] at t2
  refine ⟨h2, ?_, R1.tx' (f2.wk (fun q z => Or.inl z)) t2, f1.tr (f2.wk (fun q z => by omega))⟩
  (repeat (first | refine ax_st rfl ?_ | (apply ev_get rfl; assumption; rfl))); try dsimp only
  refine ev_callV rfl a ⟨rfl, rfl, Nat.le_of_ble_eq_true rfl, Nat.le_of_ble_eq_true rfl⟩ (e1) ?_
  (repeat (first | refine ax_st rfl ?_ | (apply ev_get rfl; assumption; rfl))); try dsimp only
  refine ev_t hf ?_
  (repeat (first | refine ax_st rfl ?_ | (apply ev_get rfl; assumption; rfl))); try dsimp only
  refine ev_callU rfl hto ⟨rfl, rfl, Nat.le_of_ble_eq_true rfl, Nat.le_of_ble_eq_true rfl⟩ (e2) ?_
  (repeat (first | refine ax_st rfl ?_ | (apply ev_get rfl; assumption; rfl))); try dsimp only
  exact ax_rt rfl
theorem c_define2 {t : Tr} (hw : wf t false) (R : RC h (rn t false) mc P run pc rws mv) (hf : gfl (rn t false) 0 0 0 = -1) (hs : (sd t false 0 0 0).1 = false) : ∃ h', mt 203 48 [.inr (some 1)] h (some (.inl (-2))) h' ∧ RC h' [] mc P run pc rws mv ∧ fr h h' (fun q => 0 < q ∧ q < 59) := by
  have a := R.1
  unfold rob at a
  obtain ⟨h1, e1, R1, f1⟩ := c_judge2 hw R hf
  rw [hs] at e1
  have a1 := R1.1
  unfold rob at a1
  have T1 := R1.2.2.2.1
  have hto := T1.ob
  obtain ⟨h2, e2, t2, f2⟩ := tx_shorten (d := 202) T1 (k := 0) (Nat.zero_le _)
  rw [List.take_zero] at t2
  refine ⟨h2, ?_, R1.tx' (f2.wk (fun q z => Or.inl z)) t2, f1.tr (f2.wk (fun q z => by omega))⟩
  (repeat (first | refine ax_st rfl ?_ | (apply ev_get rfl; assumption; rfl))); try dsimp only
  refine ev_callV rfl a ⟨rfl, rfl, Nat.le_of_ble_eq_true rfl, Nat.le_of_ble_eq_true rfl⟩ (e1) ?_
  (repeat (first | refine ax_st rfl ?_ | (apply ev_get rfl; assumption; rfl))); try dsimp only
  refine ev_callU rfl hto ⟨rfl, rfl, Nat.le_of_ble_eq_true rfl, Nat.le_of_ble_eq_true rfl⟩ (e2) ?_
  (repeat (first | refine ax_st rfl ?_ | (apply ev_get rfl; assumption; rfl))); try dsimp only
  exact ax_rt rfl
theorem c_define3 {t : Tr} (hw : wf t false) (R : RC h (rn t false) mc P run pc rws mv) (hf : gfl (rn t false) 0 0 0 = -1) (hs : (sd t false 0 0 0).1 = true) : ∃ h', mt 203 48 [.inr (some 1)] h (some (.inl (-1))) h' ∧ RC h' [] (nI ((rn t false).count 123)) (fun r => lt (65 + r) t 0) false pc rws mv ∧ fr h h' (fun q => 0 < q ∧ q < 59) := by
  have a := R.1
  unfold rob at a
  obtain ⟨h1, e1, R1, f1⟩ := c_judge2 hw R hf
  rw [hs] at e1
  have a1 := R1.1
  unfold rob at a1
  obtain ⟨h1', e1', R1', f1'⟩ := c_adopt hw R1
  have a2 := R1'.1
  unfold rob at a2
  have T1 := R1'.2.2.2.1
  have hto := T1.ob
  obtain ⟨h2, e2, t2, f2⟩ := tx_shorten (d := 202) T1 (k := 0) (Nat.zero_le _)
  rw [List.take_zero] at t2
  refine ⟨h2, ?_, R1'.tx' (f2.wk (fun q z => Or.inl z)) t2, (f1.tr f1').tr (f2.wk (fun q z => by omega))⟩
  (repeat (first | refine ax_st rfl ?_ | (apply ev_get rfl; assumption; rfl))); try dsimp only
  refine ev_callV rfl a ⟨rfl, rfl, Nat.le_of_ble_eq_true rfl, Nat.le_of_ble_eq_true rfl⟩ (e1) ?_
  (repeat (first | refine ax_st rfl ?_ | (apply ev_get rfl; assumption; rfl))); try dsimp only
  refine ev_callU rfl a1 ⟨rfl, rfl, Nat.le_of_ble_eq_true rfl, Nat.le_of_ble_eq_true rfl⟩ (e1') ?_
  (repeat (first | refine ax_st rfl ?_ | (apply ev_get rfl; assumption; rfl))); try dsimp only
  refine ev_callU rfl hto ⟨rfl, rfl, Nat.le_of_ble_eq_true rfl, Nat.le_of_ble_eq_true rfl⟩ (e2) ?_
  (repeat (first | refine ax_st rfl ?_ | (apply ev_get rfl; assumption; rfl))); try dsimp only
  exact ax_rt rfl
end CL5
