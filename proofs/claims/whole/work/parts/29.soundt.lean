/-! Soundness.holdsFor over a tree's text. -/
def SO (d k : Nat) (h : ax_H) (r : Int32) : Prop := ∃ h', Ev (d + 4) 30 13 [some (.inr (some 5)), some (.inr (some 2)), some (.inl (nI k))] [] h (some (.inl r)) h' ∧ (∃ n lo f g, sn h' n lo f g) ∧ fr h h' sA
theorem so_next {d k n : Nat} {h h1 : ax_H} {lo : Int32} {f g : Nat → Int32} {T : List Nat} {r : Int32} (t : tx h 2 3 T) (a : sn h n lo f g) (hk : k < T.length) (e : mt (d + 3) 31 [.inr (some 5), .inr (some 2), .inl (nI k)] h (some (.inl 1)) h1) (f1 : fr h h1 sA) (K : SO d (k + 1) h1 r) : SO d k h r := by
  obtain ⟨h', b1, b2, b3⟩ := K
  refine ⟨h', ?_, b2, f1.tr b3⟩
  have ho := a.1
  have hto := t.ob
  have hl := t.len
  rw [← nI_1 k] at b1
  (repeat (first | refine ax_st rfl ?_ | (apply ev_get rfl; assumption; rfl))); try dsimp only
  refine ev_callV rfl hto ⟨rfl, rfl, Nat.le_of_ble_eq_true rfl, Nat.le_of_ble_eq_true rfl⟩ (tx_size t) ?_
  refine ax_st rfl ?_
  dsimp only
  refine ev_f (fun q => absurd ((nI_leI (by omega) (by omega)).mp q) (by omega)) ?_
  (repeat (first | refine ax_st rfl ?_ | (apply ev_get rfl; assumption; rfl))); try dsimp only
  refine ev_callV rfl ho ⟨rfl, rfl, Nat.le_of_ble_eq_true rfl, Nat.le_of_ble_eq_true rfl⟩ (e) ?_
  refine ax_st rfl ?_
  repeat (first | (exact b1) | refine ax_st rfl ?_ | (apply ev_get rfl; assumption; rfl))
theorem so_stop {d k n : Nat} {h h1 : ax_H} {lo : Int32} {f g : Nat → Int32} {T : List Nat} (t : tx h 2 3 T) (a : sn h n lo f g) (hk : k < T.length) (e : mt (d + 3) 31 [.inr (some 5), .inr (some 2), .inl (nI k)] h (some (.inl 0)) h1) (f1 : fr h h1 sA) (a1 : ∃ n lo f g, sn h1 n lo f g) : SO d k h 0 := by
  refine ⟨h1, ?_, a1, f1⟩
  have ho := a.1
  have hto := t.ob
  have hl := t.len
  (repeat (first | refine ax_st rfl ?_ | (apply ev_get rfl; assumption; rfl))); try dsimp only
  refine ev_callV rfl hto ⟨rfl, rfl, Nat.le_of_ble_eq_true rfl, Nat.le_of_ble_eq_true rfl⟩ (tx_size t) ?_
  refine ax_st rfl ?_
  dsimp only
  refine ev_f (fun q => absurd ((nI_leI (by omega) (by omega)).mp q) (by omega)) ?_
  (repeat (first | refine ax_st rfl ?_ | (apply ev_get rfl; assumption; rfl))); try dsimp only
  refine ev_callV rfl ho ⟨rfl, rfl, Nat.le_of_ble_eq_true rfl, Nat.le_of_ble_eq_true rfl⟩ (e) ?_
  (repeat (first | refine ax_st rfl ?_ | (apply ev_get rfl; assumption; rfl))); try dsimp only
  exact ax_rt rfl
theorem so_end {d n : Nat} {h : ax_H} {lo : Int32} {f g : Nat → Int32} {T : List Nat} (t : tx h 2 3 T) (a : sn h n lo f g) : SO d T.length h 1 := by
  refine ⟨h, ?_, ⟨_, _, _, _, a⟩, fr.rf⟩
  have hto := t.ob
  (repeat (first | refine ax_st rfl ?_ | (apply ev_get rfl; assumption; rfl))); try dsimp only
  refine ev_callV rfl hto ⟨rfl, rfl, Nat.le_of_ble_eq_true rfl, Nat.le_of_ble_eq_true rfl⟩ (tx_size t) ?_
  refine ax_st rfl ?_
  dsimp only
  refine ev_t (Int32.le_refl _) ?_
  (repeat (first | refine ax_st rfl ?_ | (apply ev_get rfl; assumption; rfl))); try dsimp only
  exact ax_rt rfl
theorem sA2 : ¬ sA 2 := by unfold sA; decide
theorem sA3 : ¬ sA 3 := by unfold sA; decide
theorem sd2_lt : ∀ (t : Tr) (lo la lu : Nat), wf t true → lu < 64 → (sd t true lo la lu).2 < 64
  | .num _, _, _, _, _, h => h
  | .var _, _, _, _, _, h => h
  | .mulL _ _, _, _, _, _, h => h
  | .mulR _ _, _, _, _, _, h => h
  | .add l r, lo, la, lu, hw, h => by
    have h1 := sd2_lt l 0 la lu hw.2.1 h
    have hb := isL_b (fl_L r hw.2.2).1
    have h2 := sd2_lt r 0 la ((sd l true 0 la lu).2 ||| 2 ^ (fl r - 112)) hw.2.2 (bit_or64 _ h1 _ (by omega))
    unfold sd
    split
    · exact h2
    · decide
theorem so_tree {d : Nat} {T : List Nat} (hT : T.length ≤ 60) : ∀ (t : Tr) (b : Bool) (u v : List Nat) (n lo la lu : Nat) (h : ax_H) (lx : Int32) (f g : Nat → Int32), wf t b → T = u ++ (rn t b ++ v) → tx h 2 3 T → sn h n lx f g → n ≤ u.length → lo < 8 → la < 8 → lu < 64 → f n = nI la → (b = false → lx = nI lo ∧ (u = [] ∨ ∃ u', u = u' ++ [46])) → (b = true → g n = nI lu ∧ lx = nI la) →
    ((sd t b lo la lu).1 = false → SO d u.length h 0) ∧
    ((sd t b lo la lu).1 = true → ∀ r, (∀ (h1 : ax_H) (lx1 : Int32) (f1 g1 : Nat → Int32), sn h1 n lx1 f1 g1 → (∀ i, i ≤ n → f1 i = f i) → (∀ i, i < n → g1 i = g i) → (b = false → g1 n = g n) → (b = true → g1 n = nI (sd t b lo la lu).2) → fr h h1 sA → SO d (u.length + (rn t b).length) h1 r) → SO d u.length h r) := by
  intro t
  induction t with
  | num m =>
    intro b u v n lo la lu h lx f g hw hTe ht a hn hlo hla hlu hf hb1 hb2
    have hlen : T.length = u.length + (1 + v.length) := by rw [hTe]; simp [rn]; omega
    have c0 : T.getD u.length 0 = 101 := by rw [hTe]; have := gd_at u (rn (.num m) b ++ v) 0; simpa [rn] using this
    refine ⟨fun q => Bool.noConfusion (show true = false from q), fun _ r K => ?_⟩
    refine so_next ht a (by omega) (sa_x (d := d + 1) a ht (by omega) (by rw [c0]; decide) (by rw [c0]; decide) (by rw [c0]; decide) (by rw [c0]; decide) (Or.inl (by rw [c0]; decide))) fr.rf ?_
    exact K h lx f g a (fun _ _ => rfl) (fun _ _ => rfl) (fun _ => rfl) (fun q => (hb2 q).1) fr.rf
  | var x =>
    intro b u v n lo la lu h lx f g hw hTe ht a hn hlo hla hlu hf hb1 hb2
    have hlen : T.length = u.length + (1 + v.length) := by rw [hTe]; simp [rn]; omega
    have c0 : T.getD u.length 0 = x := by rw [hTe]; have := gd_at u (rn (.var x) b ++ v) 0; simpa [rn] using this
    obtain ⟨rfl, hx⟩ := hw
    have hp : u.length = 0 ∨ T.getD (u.length - 1) 0 ≠ 109 := by
      rcases (hb1 rfl).2 with rfl | ⟨u', rfl⟩
      · exact Or.inl rfl
      · refine Or.inr ?_
        rw [hTe, gd_lt _ _ (by simp)]
        simp [List.getD]
    have e := sa_v (d := d + 1) (k := u.length) a ht (by omega) (by omega) hla hf (by rw [c0]; exact hx) hp
    rw [c0] at e
    refine ⟨fun q => ?_, fun q r K => ?_⟩
    · have q : la.testBit (x - 88) = false := q
      rw [q] at e
      exact so_stop ht a (by omega) e fr.rf ⟨_, _, _, _, a⟩
    · have q : la.testBit (x - 88) = true := q
      rw [q] at e
      refine so_next ht a (by omega) e fr.rf ?_
      exact K h lx f g a (fun _ _ => rfl) (fun _ _ => rfl) (fun _ => rfl) (fun q => by cases q) fr.rf
  | mulL k gg ih =>
    intro b u v n lo la lu h lx f g hw hTe ht a hn hlo hla hlu hf hb1 hb2
    cases b with
    | false =>
      obtain ⟨hk, hwg⟩ := hw
      have hk : isV k = true := hk
      have hkb := isV_b hk
      have hpos := rn_pos gg false hwg
      have hlen : T.length = u.length + (3 + (rn gg false).length + v.length) := by rw [hTe]; simp [rn]; omega
      have c0 : T.getD u.length 0 = 109 := by rw [hTe]; have := gd_at u (rn (.mulL k gg) false ++ v) 0; simpa [rn] using this
      have c1 : T.getD (u.length + 1) 0 = k := by rw [hTe]; have := gd_at u (rn (.mulL k gg) false ++ v) 1; simpa [rn] using this
      have c2 : T.getD (u.length + 2) 0 = 46 := by rw [hTe]; have := gd_at u (rn (.mulL k gg) false ++ v) 2; simpa [rn] using this
      obtain ⟨rfl, -⟩ := hb1 rfl
      obtain ⟨h1, e1, e2, e3, e4⟩ := sa_m (d := d + 1) (k := u.length) a ht (by omega) hlo c0 (by rw [c1]; exact hk)
      rw [c1] at e1 e3
      have hsd : (sd (.mulL k gg) false lo la lu).1 = (!lo.testBit (k - 88) && (sd gg false (lo ||| 2 ^ (k - 88)) la 0).1) := rfl
      rw [hsd]
      by_cases hq : lo.testBit (k - 88) = true
      · rw [hq] at e1 ⊢
        refine ⟨fun _ => so_stop ht a (by omega) e1 e2 (by obtain ⟨lo', e5⟩ := e4; exact ⟨_, _, _, _, e5⟩), fun q => by cases q⟩
      · have hq : lo.testBit (k - 88) = false := by simpa using hq
        rw [hq] at e1 ⊢
        have a1 := e3 hq
        have t1 := ht.fr e2 sA2 sA3
        have st1 := sa_x (d := d + 1) (k := u.length + 1) a1 t1 (by omega) (by rw [c1]; omega) (by rw [c1]; omega) (by rw [c1]; omega) (by rw [c1]; omega) (Or.inr ⟨by omega, by rw [show u.length + 1 - 1 = u.length by omega]; exact c0⟩)
        have st2 := sa_x (d := d + 1) (k := u.length + 2) a1 t1 (by omega) (by rw [c2]; decide) (by rw [c2]; decide) (by rw [c2]; decide) (by rw [c2]; decide) (Or.inl (by rw [c2]; decide))
        have IH := ih false (u ++ [109, k, 46]) v n (lo ||| 2 ^ (k - 88)) la 0 h1 _ f g hwg (by rw [hTe]; simp [rn]) t1 a1 (by simp; omega) (bit_or8 lo hlo _ (by omega)) hla (by decide) hf (fun _ => ⟨rfl, Or.inr ⟨u ++ [109, k], by simp⟩⟩) (fun q => by cases q)
        have hul : (u ++ [109, k, 46]).length = u.length + 3 := by simp
        rw [hul] at IH
        have go : ∀ r, SO d (u.length + 3) h1 r → SO d u.length h r := fun r K => so_next ht a (by omega) e1 e2 (so_next t1 a1 (by omega) st1 fr.rf (so_next t1 a1 (by omega) st2 fr.rf K))
        refine ⟨fun q => go 0 (IH.1 (by simpa using q)), fun q r K => go r (IH.2 (by simpa using q) r (fun h2 lx2 f2 g2 b1 b2 b3 b4 b5 b6 => ?_))⟩
        have := K h2 lx2 f2 g2 b1 b2 b3 b4 (fun q => by cases q) (e2.tr b6)
        rw [show u.length + 3 + (rn gg false).length = u.length + (rn (.mulL k gg) false).length by simp [rn]; omega]
        exact this
    | true =>
      obtain ⟨hk, hwg⟩ := hw
      have hk : isL k = true := hk
      have hkb := isL_b hk
      have hpos := rn_pos gg false hwg
      have hlen : T.length = u.length + (2 + (rn gg false).length + v.length) := by rw [hTe]; simp [rn]; omega
      have c0 : T.getD u.length 0 = k := by rw [hTe]; have := gd_at u (rn (.mulL k gg) true ++ v) 0; simpa [rn] using this
      have c1 : T.getD (u.length + 1) 0 = 46 := by rw [hTe]; have := gd_at u (rn (.mulL k gg) true ++ v) 1; simpa [rn] using this
      obtain ⟨hg0, rfl⟩ := hb2 rfl
      have hkv : isV k = false := decide_eq_false (by omega)
      have st1 := sa_x (d := d + 1) (k := u.length) a ht (by omega) (by rw [c0]; omega) (by rw [c0]; omega) (by rw [c0]; omega) (by rw [c0]; omega) (Or.inl (by rw [c0]; exact hkv))
      have st2 := sa_x (d := d + 1) (k := u.length + 1) a ht (by omega) (by rw [c1]; decide) (by rw [c1]; decide) (by rw [c1]; decide) (by rw [c1]; decide) (Or.inl (by rw [c1]; decide))
      have IH := ih false (u ++ [k, 46]) v n la la 0 h _ f g hwg (by rw [hTe]; simp [rn]) ht a (by simp; omega) hla hla (by decide) hf (fun _ => ⟨rfl, Or.inr ⟨u ++ [k], by simp⟩⟩) (fun q => by cases q)
      have hul : (u ++ [k, 46]).length = u.length + 2 := by simp
      rw [hul] at IH
      have hsd : (sd (.mulL k gg) true lo la lu) = ((sd gg false la la 0).1, lu) := rfl
      rw [hsd]
      have go : ∀ r, SO d (u.length + 2) h r → SO d u.length h r := fun r K => so_next ht a (by omega) st1 fr.rf (so_next ht a (by omega) st2 fr.rf K)
      refine ⟨fun q => go 0 (IH.1 q), fun q r K => go r (IH.2 q r (fun h2 lx2 f2 g2 b1 b2 b3 b4 b5 b6 => ?_))⟩
      have := K h2 lx2 f2 g2 b1 b2 b3 (fun q => by cases q) (fun _ => (b4 rfl).trans hg0) b6
      rw [show u.length + 2 + (rn gg false).length = u.length + (rn (.mulL k gg) true).length by simp [rn]; omega]
      exact this
  | mulR bs k ih =>
    intro b u v n lo la lu h lx f g hw hTe ht a hn hlo hla hlu hf hb1 hb2
    obtain ⟨rfl, hr1, hr2, hwb⟩ := hw
    have hr1b := isR_b hr1
    have hr2b := isR_b hr2
    have hpos := rn_pos bs true hwb
    obtain ⟨hfl, w, hfw⟩ := fl_L bs hwb
    have hflb := isL_b hfl
    have hlen : T.length = u.length + (4 + (rn bs true).length + v.length) := by rw [hTe]; simp [rn]; omega
    have c0 : T.getD u.length 0 = k / 256 := by rw [hTe]; have := gd_at u (rn (.mulR bs k) false ++ v) 0; simpa [rn] using this
    have c1 : T.getD (u.length + 1) 0 = k % 256 := by rw [hTe]; have := gd_at u (rn (.mulR bs k) false ++ v) 1; simpa [rn] using this
    have c2 : T.getD (u.length + 2) 0 = 123 := by rw [hTe]; have := gd_at u (rn (.mulR bs k) false ++ v) 2; simpa [rn] using this
    have c3 : T.getD (u.length + 2 + 1) 0 = fl bs := by rw [hTe, show u.length + 2 + 1 = u.length + 3 by omega]; have := gd_at u (rn (.mulR bs k) false ++ v) 3; simpa [rn, hfw] using this
    have cE : T.getD (u.length + 3 + (rn bs true).length) 0 = 125 := by
      rw [hTe, show u.length + 3 + (rn bs true).length = u.length + (3 + (rn bs true).length) by omega, gd_at]
      simp [rn, List.getD, List.getElem?_append_right, show 3 + (rn bs true).length = (rn bs true).length + 1 + 1 + 1 by omega]
    obtain ⟨rfl, -⟩ := hb1 rfl
    have st1 := sa_x (d := d + 1) (k := u.length) a ht (by omega) (by rw [c0]; omega) (by rw [c0]; omega) (by rw [c0]; omega) (by rw [c0]; omega) (Or.inl (by rw [c0]; exact decide_eq_false (by omega)))
    have st2 := sa_x (d := d + 1) (k := u.length + 1) a ht (by omega) (by rw [c1]; omega) (by rw [c1]; omega) (by rw [c1]; omega) (by rw [c1]; omega) (Or.inl (by rw [c1]; exact decide_eq_false (by omega)))
    obtain ⟨h1, e1, e2, e3, e4⟩ := sa_o (d := d) (k := u.length + 2) a ht (by omega) (by omega) (by omega) c2 (by rw [c3]; exact hfl)
    rw [show u.length + 2 - 2 = u.length by omega, show u.length + 2 - 1 = u.length + 1 by omega, c0, c1] at e1 e3
    rw [c3] at e3
    have hsd : (sd (.mulR bs k) false lo la lu).1 = (decide (k / 256 ≠ k % 256) && (sd bs true 0 lo (2 ^ (fl bs - 112))).1) := rfl
    rw [hsd]
    have pre : ∀ r, SO d (u.length + 2) h r → SO d u.length h r := fun r K => so_next ht a (by omega) st1 fr.rf (so_next ht a (by omega) st2 fr.rf K)
    by_cases hq : k / 256 = k % 256
    · rw [decide_eq_false (fun z => z hq)] at e1 ⊢
      exact ⟨fun _ => pre 0 (so_stop ht a (by omega) e1 e2 e4), fun q => by cases q⟩
    · rw [decide_eq_true hq] at e1 ⊢
      have a1 := e3 hq
      have t1 := ht.fr e2 sA2 sA3
      have IH := ih true (u ++ [k / 256, k % 256, 123]) (125 :: v) (n + 1) 0 lo (2 ^ (fl bs - 112)) h1 _ _ _ hwb (by rw [hTe]; simp [rn]) t1 a1 (by simp; omega) (by decide) hlo (by have := bit_or64 0 (by decide) (fl bs - 112) (by omega); rwa [Nat.zero_or] at this) (by unfold upd; rw [if_pos rfl]) (fun q => by cases q) (fun _ => ⟨by unfold upd; rw [if_pos rfl], rfl⟩)
      have hul : (u ++ [k / 256, k % 256, 123]).length = u.length + 3 := by simp
      rw [hul] at IH
      have go : ∀ r, SO d (u.length + 3) h1 r → SO d u.length h r := fun r K => pre r (so_next ht a (by omega) e1 e2 K)
      refine ⟨fun q => go 0 (IH.1 (by simpa using q)), fun q r K => go r (IH.2 (by simpa using q) r (fun h2 lx2 f2 g2 b1 b2 b3 b4 b5 b6 => ?_))⟩
      have t2 := t1.fr b6 sA2 sA3
      obtain ⟨h3, s1, s2, s3⟩ := sa_e (d := d + 1) (k := u.length + 3 + (rn bs true).length) b1 t2 (by omega) (by omega) cE
      refine so_next t2 b1 (by omega) s1 s2 ?_
      have := K h3 lx2 f2 g2 s3 (fun i hi => by rw [b2 i (by omega)]; unfold upd; rw [if_neg (by omega)]) (fun i hi => by rw [b3 i (by omega)]; unfold upd; rw [if_neg (by omega), if_neg (by omega)]) (fun _ => by rw [b3 n (by omega)]; unfold upd; rw [if_neg (by omega), if_neg (by omega)]) (fun q => by cases q) ((e2.tr b6).tr s2)
      rw [show u.length + 3 + (rn bs true).length + 1 = u.length + (rn (.mulR bs k) false).length by simp [rn]; omega]
      exact this
  | add l r ihl ihr =>
    intro b u v n lo la lu h lx f g hw hTe ht a hn hlo hla hlu hf hb1 hb2
    obtain ⟨rfl, hwl, hwr⟩ := hw
    obtain ⟨hfl, w, hfw⟩ := fl_L r hwr
    have hflb := isL_b hfl
    have hposl := rn_pos l true hwl
    have hposr := rn_pos r true hwr
    have hlen : T.length = u.length + ((rn l true).length + 1 + (rn r true).length + v.length) := by rw [hTe]; simp [rn]; omega
    have c0 : T.getD (u.length + (rn l true).length) 0 = 44 := by
      rw [hTe, gd_at]
      simp [rn, List.getD, List.getElem?_append_right]
    have c1 : T.getD (u.length + (rn l true).length + 1) 0 = fl r := by
      rw [hTe, show u.length + (rn l true).length + 1 = u.length + ((rn l true).length + 1) by omega, gd_at]
      simp [rn, List.getD, List.getElem?_append_right, hfw]
    have IHl := ihl true u (44 :: rn r true ++ v) n 0 la lu h lx f g hwl (by rw [hTe]; simp [rn]) ht a hn (by decide) hla hlu hf (fun q => by cases q) hb2
    have hsd : sd (.add l r) true lo la lu = if (sd l true 0 la lu).1 = true ∧ (sd l true 0 la lu).2.testBit (fl r - 112) = false then sd r true 0 la ((sd l true 0 la lu).2 ||| 2 ^ (fl r - 112)) else (false, 0) := rfl
    rw [hsd]
    have hl2 := sd2_lt l 0 la lu hwl hlu
    by_cases hq1 : (sd l true 0 la lu).1 = true
    · by_cases hq2 : (sd l true 0 la lu).2.testBit (fl r - 112) = false
      · rw [if_pos ⟨hq1, hq2⟩]
        have key : ∀ res, (∀ (h1 : ax_H) (lx1 : Int32) (f1 g1 : Nat → Int32), sn h1 n lx1 f1 g1 → (∀ i, i ≤ n → f1 i = f i) → (∀ i, i < n → g1 i = g i) → g1 n = nI ((sd l true 0 la lu).2 ||| 2 ^ (fl r - 112)) → lx1 = nI la → fr h h1 sA → SO d (u.length + (rn l true).length + 1) h1 res) → SO d u.length h res := by
          intro res K
          refine IHl.2 hq1 res (fun h1 lx1 f1 g1 b1 b2 b3 b4 b5 b6 => ?_)
          have t1 := ht.fr b6 sA2 sA3
          obtain ⟨h2, s1, s2, s3, -⟩ := sa_c (d := d + 1) (k := u.length + (rn l true).length) b1 t1 (by omega) (by omega) hl2 (b5 rfl) c0 (by rw [c1]; exact hfl)
          rw [c1] at s1 s3
          rw [hq2] at s1
          have s4 := s3 hq2
          refine so_next t1 b1 (by omega) s1 s2 ?_
          exact K h2 _ _ _ s4 b2 (fun i hi => by unfold upd; rw [if_neg (by omega)]; exact b3 i hi) (by unfold upd; rw [if_pos rfl]) (by rw [b2 n (Nat.le_refl _), hf]) (b6.tr s2)
        have hul : (u ++ (rn l true ++ [44])).length = u.length + (rn l true).length + 1 := by simp; omega
        refine ⟨fun q => key 0 (fun h1 lx1 f1 g1 b1 b2 b3 b4 b5 b6 => ?_), fun q res K => key res (fun h1 lx1 f1 g1 b1 b2 b3 b4 b5 b6 => ?_)⟩
        · have IHr := ihr true (u ++ (rn l true ++ [44])) v n 0 la ((sd l true 0 la lu).2 ||| 2 ^ (fl r - 112)) h1 lx1 f1 g1 hwr (by rw [hTe]; simp [rn]) (ht.fr b6 sA2 sA3) b1 (by rw [hul]; omega) (by decide) hla (bit_or64 _ hl2 _ (by omega)) (by rw [b2 n (Nat.le_refl _)]; exact hf) (fun q => by cases q) (fun _ => ⟨b4, b5⟩)
          rw [hul] at IHr
          exact IHr.1 q
        · have IHr := ihr true (u ++ (rn l true ++ [44])) v n 0 la ((sd l true 0 la lu).2 ||| 2 ^ (fl r - 112)) h1 lx1 f1 g1 hwr (by rw [hTe]; simp [rn]) (ht.fr b6 sA2 sA3) b1 (by rw [hul]; omega) (by decide) hla (bit_or64 _ hl2 _ (by omega)) (by rw [b2 n (Nat.le_refl _)]; exact hf) (fun q => by cases q) (fun _ => ⟨b4, b5⟩)
          rw [hul] at IHr
          refine IHr.2 q res (fun h2 lx2 f2 g2 d1 d2 d3 d4 d5 d6 => ?_)
          have := K h2 lx2 f2 g2 d1 (fun i hi => (d2 i hi).trans (b2 i hi)) (fun i hi => (d3 i hi).trans (b3 i hi)) (fun q => by cases q) (fun _ => d5 rfl) (b6.tr d6)
          rw [show u.length + (rn l true).length + 1 + (rn r true).length = u.length + (rn (.add l r) true).length by simp [rn]; omega]
          exact this
      · rw [if_neg (fun z => hq2 z.2)]
        have hq2 : (sd l true 0 la lu).2.testBit (fl r - 112) = true := by simpa using hq2
        refine ⟨fun _ => IHl.2 hq1 0 (fun h1 lx1 f1 g1 b1 b2 b3 b4 b5 b6 => ?_), fun q => by cases q⟩
        have t1 := ht.fr b6 sA2 sA3
        obtain ⟨h2, s1, s2, s3, lo', g', s4⟩ := sa_c (d := d + 1) (k := u.length + (rn l true).length) b1 t1 (by omega) (by omega) hl2 (b5 rfl) c0 (by rw [c1]; exact hfl)
        rw [c1, hq2] at s1
        exact so_stop t1 b1 (by omega) s1 s2 ⟨_, _, _, _, s4⟩
    · rw [if_neg (fun z => hq1 z.1)]
      exact ⟨fun _ => IHl.1 (by simpa using hq1), fun q => by cases q⟩
/-- Soundness.holdsFor of a protocol's text -/
theorem so_holds {d n : Nat} {h : ax_H} {lo : Int32} {f g : Nat → Int32} {t : Tr} (hw : wf t false) (ht : tx h 2 3 (rn t false)) (a : sn h n lo f g) : ∃ h', mt (d + 4) 30 [.inr (some 5), .inr (some 2)] h (some (.inl (bi (sd t false 0 0 0).1))) h' ∧ (∃ n lo f g, sn h' n lo f g) ∧ fr h h' sA := by
  have ho := a.1
  have a1 := a.o1 0 lo
  have ho1 := a1.1
  have a2 := a1.o1 0 0
  have ho2 := a2.1
  have hb6 := a2.2.1
  have a3 := a2.o2 (upd f 0 0)
  have hfr : fr h (ax_set (ax_set (ax_set h 5 (.inr (4, [.inr (some 6), .inr (some 7), .inl (nI 0), .inl lo]))) 5 (.inr (4, [.inr (some 6), .inr (some 7), .inl (nI 0), .inl 0]))) 6 (.inl (0, 60, .inl (upd f 0 0)))) sA := fr.tr (A := sA) (fr.tr (A := sA) (fr.st (Or.inl rfl)) (fr.st (Or.inl rfl))) (fr.st (Or.inr (Or.inl rfl)))
  have t3 := ht.fr hfr sA2 sA3
  have key := so_tree (d := d) (T := rn t false) ht.len t false [] [] 0 0 0 0 _ _ _ _ hw (by simp) t3 a3 (Nat.le_refl _) (by decide) (by decide) (by decide) (by unfold upd; rw [if_pos rfl]; rfl) (fun _ => ⟨rfl, Or.inl rfl⟩) (fun q => by cases q)
  have fin : SO d 0 (ax_set (ax_set (ax_set h 5 (.inr (4, [.inr (some 6), .inr (some 7), .inl (nI 0), .inl lo]))) 5 (.inr (4, [.inr (some 6), .inr (some 7), .inl (nI 0), .inl 0]))) 6 (.inl (0, 60, .inl (upd f 0 0)))) (bi (sd t false 0 0 0).1) := by
    cases hq : (sd t false 0 0 0).1 with
    | false => exact key.1 hq
    | true =>
      refine key.2 hq 1 (fun h1 lx1 f1 g1 b1 b2 b3 b4 b5 b6 => ?_)
      have := so_end (d := d) (t3.fr b6 sA2 sA3) b1
      rw [show ([] : List Nat).length + (rn t false).length = (rn t false).length by simp]
      exact this
  obtain ⟨h', e1, e2, e3⟩ := fin
  refine ⟨h', ?_, e2, hfr.tr e3⟩
  (repeat (first | refine ax_st rfl ?_ | (apply ev_get rfl; assumption; rfl))); try dsimp only
  refine ev_put rfl ho ?_ ?_ ?_; exact Nat.le_of_ble_eq_true rfl; rfl
  (repeat (first | refine ax_st rfl ?_ | (apply ev_get rfl; assumption; rfl))); try dsimp only
  refine ev_put rfl ho1 ?_ ?_ ?_; exact Nat.le_of_ble_eq_true rfl; rfl
  (repeat (first | refine ax_st rfl ?_ | (apply ev_get rfl; assumption; rfl))); try dsimp only
  refine ev_ast rfl hb6 rfl ?_
  repeat (first | (exact e1) | refine ax_st rfl ?_ | (apply ev_get rfl; assumption; rfl))
