/-! The reference: all the parts. -/
def PJ (d k1 : Nat) (h : ax_H) (Φ : ax_H → Prop) : Prop := ∀ w2, ∃ h', Ev (d + 3) 93 5 [some (.inr (some 59)), some (.inl (nI k1 - 1)), w2] [] h none h' ∧ Φ h' ∧ fr h h' (fun q => 59 ≤ q)
section PJS
variable {d : Nat} {n0 ms mv : Int32} {th ru : Bool} {N : Nat} {Φ : ax_H → Prop}
/-- what is done for a piece and a role -/
def HOP (d : Nat) (n0 : Int32) (N : Nat) (th : Bool) (ms : Int32) (ru : Bool) (mv : Int32) (k : Nat) (F0 : Nat → Nat → Int32) (Q : Nat → Option (List Nat)) : Prop := ∀ r, r < 4 → ∀ h F, mo h n0 (nI N) th ms ru mv → MA h F → kS F0 F (fun s => 4 * k ≤ s ∧ s < 4 * k + 4) → SL F (4 * k + r) (some []) → ∃ h' F', (∀ {h2}, Ev (d + 3) 93 54 [some (.inr (some 59)), some (.inl (nI k)), some (.inl (nI r))] [] h' none h2 → Ev (d + 3) 93 21 [some (.inr (some 59)), some (.inl (nI k)), some (.inl (nI r))] [] h none h2) ∧ mo h' n0 (nI N) th ms ru mv ∧ MA h' F' ∧ SL F' (4 * k + r) (Q r) ∧ kS F F' (fun q => q = 4 * k + r) ∧ fr h h' (fun q => 59 ≤ q)
theorem pj_in {k : Nat} {F0 : Nat → Nat → Int32} {Q : Nat → Option (List Nat)} (hk : k < 60) (op : HOP d n0 N th ms ru mv k F0 Q) (K : ∀ h1 F1, mo h1 n0 (nI N) th ms ru mv → MA h1 F1 → (∀ r, r < 4 → SL F1 (4 * k + r) (Q r)) → kS F0 F1 (fun s => 4 * k ≤ s ∧ s < 4 * k + 4) → PJ d k h1 Φ) : ∀ g r (h : ax_H) (F : Nat → Nat → Int32), r + g = 4 → mo h n0 (nI N) th ms ru mv → MA h F → (∀ s, s < r → SL F (4 * k + s) (Q s)) → kS F0 F (fun s => 4 * k ≤ s ∧ s < 4 * k + 4) → ∃ h', Ev (d + 3) 93 9 [some (.inr (some 59)), some (.inl (nI k)), some (.inl (nI r))] [] h none h' ∧ Φ h' ∧ fr h h' (fun q => 59 ≤ q) := by
  intro g
  induction g with
  | zero =>
    intro r h F hr m A S k0
    have : r = 4 := by omega
    subst this
    obtain ⟨h', e, f⟩ := K h F m A S k0 (some (.inl (nI 4)))
    refine ⟨h', ?_, f⟩
    rw [Int32.sub_eq_add_neg] at e
    repeat (first | (exact e) | refine ax_st rfl ?_ | (apply ev_get rfl; assumption; rfl))
  | succ g ih =>
    intro r h F hr m A S k0
    have A1 := A.s67 (upd (F 67) (4 * k + r) 0)
    have m1 := m.s 67 (by decide) (.inl (0, 240, .inl (upd (F 67) (4 * k + r) 0)))
    have k1 : kS F (va_up F 67 (upd (F 67) (4 * k + r) 0)) (fun q => q = 4 * k + r) := ⟨fun q h1 h2 => va_up_ne _ _ h2, fun s hs => ⟨by rw [va_up_self, upd_n hs], fun i hi => by rw [va_up_ne _ _ (by decide)]⟩⟩
    have S1 : SL (va_up F 67 (upd (F 67) (4 * k + r) 0)) (4 * k + r) (some []) := ⟨by rw [va_up_self, upd_s]; rfl, Nat.zero_le _, (fun x hx => by cases hx), fun i hi => absurd hi (Nat.not_lt_zero _)⟩
    obtain ⟨h2, F2, e2, m2, A2, S2, k2, f2⟩ := op r (by omega) _ _ m1 A1 (k0.tr (k1.wk (fun s z => by omega))) S1
    obtain ⟨h', e, f⟩ := ih (r + 1) h2 F2 (by omega) m2 A2 (fun s hs => by
      by_cases hsr : s = r
      · rw [hsr]; exact S2
      · exact ((S s (by omega)).c k1 (by omega)).c k2 (by omega)) ((k0.tr (k1.wk (fun s z => by omega))).tr (k2.wk (fun s z => by omega)))
    refine ⟨h', ?_, f.1, fr.tr (A := fun q => 59 ≤ q) (fr.tr (A := fun q => 59 ≤ q) (fr.st (by decide)) f2) f.2⟩
    rw [← nI_1 r] at e
    have e3 : Ev (d + 3) 93 54 [some (.inr (some 59)), some (.inl (nI k)), some (.inl (nI r))] [] h2 none h' := by
      repeat (first | (exact e) | refine ax_st rfl ?_ | (apply ev_get rfl; assumption; rfl))
    have e4 := e2 e3
    have h67 := A.a67
    unfold mo at m
    (repeat (first | refine ax_st rfl ?_ | (apply ev_get rfl; assumption; rfl))); try dsimp only
    refine ev_f (fun z => absurd ((nI_leI (a := 4) (by decide) (by omega)).mp z) (by omega)) ?_
    (repeat (first | refine ax_st rfl ?_ | (apply ev_get rfl; assumption; rfl))); try dsimp only
    rw [show (4 : Int32) * nI k = nI (4 * k) from pk_mul 4 k, nI_add]
    refine ev_ast rfl h67 ?_ ?_; exact in_nI (by omega) (by decide)
    rw [if_neg (by decide), nI_clamp (by omega)]
    repeat (first | (exact e4) | refine ax_st rfl ?_ | (apply ev_get rfl; assumption; rfl))
theorem pj_piece {k : Nat} {h : ax_H} {F : Nat → Nat → Int32} {Q : Nat → Option (List Nat)} (hk : k < 60) (m : mo h n0 (nI N) th ms ru mv) (A : MA h F) (op : HOP d n0 N th ms ru mv k F Q) (K : ∀ h1 F1, mo h1 n0 (nI N) th ms ru mv → MA h1 F1 → (∀ r, r < 4 → SL F1 (4 * k + r) (Q r)) → kS F F1 (fun s => 4 * k ≤ s ∧ s < 4 * k + 4) → PJ d k h1 Φ) : PJ d (k + 1) h Φ := by
  intro w2
  obtain ⟨h', e, f⟩ := pj_in hk op K 4 0 h F rfl m A (fun s hs => absurd hs (by omega)) kS.rf
  refine ⟨h', ?_, f⟩
  rw [nI_pred]
  refine ax_st rfl ?_
  refine ax_st rfl ?_
  dsimp only
  refine ev_f (nI_pos (by omega)) ?_
  repeat (first | (exact e) | refine ax_st rfl ?_ | (apply ev_get rfl; assumption; rfl))
theorem out_sub {F : Nat → Nat → Int32} {n s : Nat} {inn : Int32} (hn : n + (1 + s) ≤ N) (ho : OUT F N n (n + (1 + s))) (h64 : F 64 n = inn) (hi : ∀ j, n ≤ j → j < N → inn ≠ nI j) : OUT F N (n + 1) (n + 1 + s) := fun q h1 h2 j h3 h4 => by
  by_cases hq : q = n
  · rw [hq, h64]
    exact hi j (by omega) (by omega)
  · exact ho q h1 (by omega) j (by omega) (by omega)
theorem inn_sub (hN : N ≤ 60) {n : Nat} (hn : n < N) : ∀ j, n + 1 ≤ j → j < N → nI n ≠ nI j := fun j h1 h2 z => by
  have := (nI_eq (by omega) (by omega)).mp z
  omega
theorem out_l {F : Nat → Nat → Int32} {l r : Tr} {n : Nat} {inn br : Int32} (hN : N ≤ 60) (hn : n + (sz l true + sz r true) ≤ N) (f : Fl F r true (n + sz l true) inn br) (hi : ∀ j, n ≤ j → j < N → inn ≠ nI j) (ho : OUT F N n (n + (sz l true + sz r true))) : OUT F N n (n + sz l true) := fun q h1 h2 j h3 h4 => by
  by_cases hq : q < n ∨ n + (sz l true + sz r true) ≤ q
  · exact ho q h1 hq j h3 (by omega)
  · rcases ar_rng r true (n + sz l true) inn br f q (by omega) (by omega) with y | ⟨i, i1, i2, y⟩
    · rw [y]
      exact hi j h3 (by omega)
    · rw [y]
      intro w
      have := (nI_eq (by omega) (by omega)).mp w
      omega
theorem out_r {F : Nat → Nat → Int32} {l r : Tr} {n : Nat} {inn br : Int32} (hN : N ≤ 60) (hn : n + (sz l true + sz r true) ≤ N) (f : Fl F l true n inn br) (hi : ∀ j, n ≤ j → j < N → inn ≠ nI j) (ho : OUT F N n (n + (sz l true + sz r true))) : OUT F N (n + sz l true) (n + sz l true + sz r true) := fun q h1 h2 j h3 h4 => by
  by_cases hq : q < n ∨ n + (sz l true + sz r true) ≤ q
  · exact ho q h1 hq j (by omega) (by omega)
  · rcases ar_rng l true n inn br f q (by omega) (by omega) with y | ⟨i, i1, i2, y⟩
    · rw [y]
      exact hi j (by omega) (by omega)
    · rw [y]
      intro w
      have := (nI_eq (by omega) (by omega)).mp w
      omega
theorem OUT.c {F F' : Nat → Nat → Int32} {S : Nat → Prop} {n m : Nat} (k : kS F F' S) (o : OUT F N n m) : OUT F' N n m := by
  unfold OUT
  rw [k.1 64 (by decide) (by decide)]
  exact o
def ltx (t : Tr) (r : Nat) : Option (List Nat) := (lt (65 + r) t 0).map (fun l => rn l false)
theorem ltx_L (x : Nat) (g : Tr) (r : Nat) : ltx (.mulL x g) r = (ltx g r).map (lpt x) := by
  unfold ltx
  rw [show lt (65 + r) (.mulL x g) 0 = (lt (65 + r) g 0).map (fun l => if rn l false = [x] then .num 0 else if x ∈ rn l false then .mulL x l else l) from rfl, Option.map_map, Option.map_map]
  congr 1
  funext l
  show rn (if rn l false = [x] then .num 0 else if x ∈ rn l false then .mulL x l else l) false = lpt x (rn l false)
  unfold lpt
  split
  · rfl
  · split
    · rfl
    · rfl
theorem pj_tree (hN : N ≤ 60) : ∀ (t : Tr) (b : Bool) (n : Nat) (inn br : Int32) (h : ax_H) (F : Nat → Nat → Int32), wf t b → Fl F t b n inn br → n + sz t b ≤ N → (∀ j, n ≤ j → j < N → inn ≠ nI j) → OUT F N n (n + sz t b) → (rn t b).length ≤ 60 → mo h n0 (nI N) th ms ru mv → MA h F → (∀ h1 F1, mo h1 n0 (nI N) th ms ru mv → MA h1 F1 → kS F F1 (fun s => 4 * n ≤ s ∧ s < 4 * (n + sz t b)) → (b = true → ∀ r, r < 4 → SLs F1 r t n) → (b = false → ∀ r, r < 4 → SL F1 (4 * n + r) (ltx t r)) → PJ d n h1 Φ) → PJ d (n + sz t b) h Φ
  | .num y, b, n, inn, br, h, F, hw, f, hn, hi, ho, hl, m, A, K => by
    obtain ⟨f1, f2, f3, f4⟩ := f
    have hn : n + 1 ≤ N := hn
    have hb : b = false := hw.1
    refine pj_piece (Q := fun _ => some [101]) (by omega) m A (fun r hr h1 F1 m1 A1 k1 S1 => ?_) (fun h1 F1 m1 A1 S1 k1 => K h1 F1 m1 A1 (k1.wk (fun s z => z)) (fun z => by rw [hb] at z; cases z) (fun _ r hr => S1 r hr))
    obtain ⟨h2, F2, e2, m2, A2, S2, k2, fr2⟩ := m_put (d := d + 2) (c := 101) (show 4 * n + r < 240 by omega) (by decide) (by simp) m1 A1 S1
    refine ⟨h2, F2, fun e => ?_, m2, A2, S2, k2, fr2⟩
    have h61 := A1.a61
    have h62 := A1.a62
    have g1 : F1 61 n = 0 := by rw [k1.1 61 (by decide) (by decide)]; exact f1
    have g2 : F1 62 n = nI 101 := by rw [k1.1 62 (by decide) (by decide)]; exact f2
    unfold mo at m1
    (repeat (first | refine ax_st rfl ?_ | (apply ev_get rfl; assumption; rfl))); try dsimp only
    refine ev_ald rfl h61 ?_ ?_; exact in_nI (by omega) (by decide)
    rw [nI_clamp (by omega), g1]
    (repeat (first | refine ax_st rfl ?_ | (apply ev_get rfl; assumption; rfl))); try dsimp only
    refine ev_ald rfl h61 ?_ ?_; exact in_nI (by omega) (by decide)
    rw [nI_clamp (by omega), g1]
    (repeat (first | refine ax_st rfl ?_ | (apply ev_get rfl; assumption; rfl))); try dsimp only
    rw [show (4 : Int32) * nI n = nI (4 * n) from pk_mul 4 n, nI_add]
    refine ev_ald rfl h62 ?_ ?_; exact in_nI (by omega) (by decide)
    rw [nI_clamp (by omega), g2]
    refine ev_callU rfl m1 ⟨rfl, rfl, Nat.le_of_ble_eq_true rfl, Nat.le_of_ble_eq_true rfl⟩ (e2) ?_
    exact e
  | .var y, b, n, inn, br, h, F, hw, f, hn, hi, ho, hl, m, A, K => by
    obtain ⟨f1, f2, f3, f4⟩ := f
    have hn : n + 1 ≤ N := hn
    have hb : b = false := hw.1
    have hy := isV_b hw.2
    refine pj_piece (Q := fun _ => some [y]) (by omega) m A (fun r hr h1 F1 m1 A1 k1 S1 => ?_) (fun h1 F1 m1 A1 S1 k1 => K h1 F1 m1 A1 (k1.wk (fun s z => z)) (fun z => by rw [hb] at z; cases z) (fun _ r hr => S1 r hr))
    obtain ⟨h2, F2, e2, m2, A2, S2, k2, fr2⟩ := m_put (d := d + 2) (c := y) (show 4 * n + r < 240 by omega) (by omega) (by simp) m1 A1 S1
    refine ⟨h2, F2, fun e => ?_, m2, A2, S2, k2, fr2⟩
    have h61 := A1.a61
    have h62 := A1.a62
    have g1 : F1 61 n = 1 := by rw [k1.1 61 (by decide) (by decide)]; exact f1
    have g2 : F1 62 n = nI y := by rw [k1.1 62 (by decide) (by decide)]; exact f2
    unfold mo at m1
    (repeat (first | refine ax_st rfl ?_ | (apply ev_get rfl; assumption; rfl))); try dsimp only
    refine ev_ald rfl h61 ?_ ?_; exact in_nI (by omega) (by decide)
    rw [nI_clamp (by omega), g1]
    (repeat (first | refine ax_st rfl ?_ | (apply ev_get rfl; assumption; rfl))); try dsimp only
    refine ev_ald rfl h61 ?_ ?_; exact in_nI (by omega) (by decide)
    rw [nI_clamp (by omega), g1]
    (repeat (first | refine ax_st rfl ?_ | (apply ev_get rfl; assumption; rfl))); try dsimp only
    rw [show (4 : Int32) * nI n = nI (4 * n) from pk_mul 4 n, nI_add]
    refine ev_ald rfl h62 ?_ ?_; exact in_nI (by omega) (by decide)
    rw [nI_clamp (by omega), g2]
    refine ev_callU rfl m1 ⟨rfl, rfl, Nat.le_of_ble_eq_true rfl, Nat.le_of_ble_eq_true rfl⟩ (e2) ?_
    exact e
  | .mulL x g, b, n, inn, br, h, F, hw, f, hn, hi, ho, hl, m, A, K => by
    cases b with
    | true =>
      have hl : (rn g false).length + 2 ≤ 60 := by simpa [rn] using hl
      exact pj_tree hN g false n inn (nI x) h F hw.2 f hn hi ho (by omega) m A (fun h1 F1 m1 A1 k1 _ S1 => K h1 F1 m1 A1 k1 (fun _ r hr => S1 rfl r hr) (fun z => by cases z))
    | false =>
      have hl : (rn g false).length + 3 ≤ 60 := by simpa [rn] using hl
      have hn : n + (1 + sz g false) ≤ N := hn
      have hp := sz_pos g false
      obtain ⟨⟨f1, f2, f3, f4⟩, f5⟩ := f
      have hx := isV_b hw.1
      show PJ d (n + (1 + sz g false)) h Φ
      rw [← Nat.add_assoc]
      refine pj_tree hN g false (n + 1) (nI n) br h F hw.2 f5 (by omega) (inn_sub hN (by omega)) (out_sub hn ho f3 hi) (by omega) m A (fun h1 F1 m1 A1 k1 _ S1 => ?_)
      refine pj_piece (Q := ltx (.mulL x g)) (by omega) m1 A1 (fun r hr h2 F2 m2 A2 k2 S2 => ?_) (fun h2 F2 m2 A2 S2 k2 => K h2 F2 m2 A2 ((k1.wk (fun s z => by show 4 * n ≤ s ∧ s < 4 * (n + (1 + sz g false)); omega)).tr (k2.wk (fun s z => by show 4 * n ≤ s ∧ s < 4 * (n + (1 + sz g false)); omega))) (fun z => by cases z) (fun _ => S2))
      have kk := fun q (a : q ≠ 66) (b : q ≠ 67) => (k2.1 q a b).trans (k1.1 q a b)
      obtain ⟨h3, F3, e3, m3, A3, S3, k3, fr3⟩ := m_loopPart (d := d) (v := x) (by omega) hr (by omega) m2 A2 (by rw [kk 62 (by decide) (by decide)]; exact f2) S2 ((S1 rfl r hr).c k2 (by omega)) (fun T hT => by
        unfold ltx at hT
        obtain ⟨l, h1, h2⟩ := Option.map_eq_some_iff.mp hT
        have := (lt_len (65 + r) g 0 l h1).1 rfl hw.2
        rw [← h2]
        show (rn l false).length + 3 ≤ 60
        omega)
      refine ⟨h3, F3, fun e => ?_, m3, A3, by rw [ltx_L]; exact S3, k3, fr3⟩
      have h61 := A2.a61
      have g1 : F2 61 n = 2 := by rw [kk 61 (by decide) (by decide)]; exact f1
      unfold mo at m2
      (repeat (first | refine ax_st rfl ?_ | (apply ev_get rfl; assumption; rfl))); try dsimp only
      refine ev_ald rfl h61 ?_ ?_; exact in_nI (by omega) (by decide)
      rw [nI_clamp (by omega), g1]
      (repeat (first | refine ax_st rfl ?_ | (apply ev_get rfl; assumption; rfl))); try dsimp only
      refine ev_callU rfl m2 ⟨rfl, rfl, Nat.le_of_ble_eq_true rfl, Nat.le_of_ble_eq_true rfl⟩ (e3) ?_
      repeat (first | (exact e) | refine ax_st rfl ?_ | (apply ev_get rfl; assumption; rfl))
  | .mulR bs x, b, n, inn, br, h, F, hw, f, hn, hi, ho, hl, m, A, K => by
    have hb : b = false := hw.1
    subst hb
    have hn : n + (1 + sz bs true) ≤ N := hn
    have ho : OUT F N n (n + (1 + sz bs true)) := ho
    have hp := sz_pos bs true
    have hl2 : (rn bs true).length + 4 ≤ 60 := by simpa [rn] using hl
    obtain ⟨⟨f1, f2, f6, f3, f4⟩, f5⟩ := f
    show PJ d (n + (1 + sz bs true)) h Φ
    rw [← Nat.add_assoc]
    refine pj_tree hN bs true (n + 1) (nI n) br h F hw.2.2.2 f5 (by omega) (inn_sub hN (by omega)) (out_sub hn ho f3 hi) (by omega) m A (fun h1 F1 m1 A1 k1 S1 _ => ?_)
    refine pj_piece (Q := ltx (.mulR bs x)) (by omega) m1 A1 (fun r hr h2 F2 m2 A2 k2 S2 => ?_) (fun h2 F2 m2 A2 S2 k2 => K h2 F2 m2 A2 ((k1.wk (fun s z => by show 4 * n ≤ s ∧ s < 4 * (n + (1 + sz bs true)); omega)).tr (k2.wk (fun s z => by show 4 * n ≤ s ∧ s < 4 * (n + (1 + sz bs true)); omega))) (fun z => by cases z) (fun _ => S2))
    have kk := fun q (a : q ≠ 66) (b : q ≠ 67) => (k2.1 q a b).trans (k1.1 q a b)
    obtain ⟨h3, F3, e3, m3, A3, S3, k3, fr3⟩ := m_messagePart (d := d) (br := br) (k := n) hN hr hw hl m2 A2 (by rw [kk 62 (by decide) (by decide)]; exact f2) (by rw [kk 63 (by decide) (by decide)]; exact f6) (Fl_S k2 (Fl_S k1 f5)) (by omega) (fun q h1 h2 => by
      rw [kk 64 (by decide) (by decide)]
      exact ho q h2 (by omega) n (Nat.le_refl _) (by omega)) (SLs.c k2 bs _ (fun s hs => by omega) (S1 rfl r hr)) S2
    refine ⟨h3, F3, fun e => ?_, m3, A3, S3, k3, fr3⟩
    have h61 := A2.a61
    have g1 : F2 61 n = 3 := by rw [kk 61 (by decide) (by decide)]; exact f1
    unfold mo at m2
    (repeat (first | refine ax_st rfl ?_ | (apply ev_get rfl; assumption; rfl))); try dsimp only
    refine ev_ald rfl h61 ?_ ?_; exact in_nI (by omega) (by decide)
    rw [nI_clamp (by omega), g1]
    (repeat (first | refine ax_st rfl ?_ | (apply ev_get rfl; assumption; rfl))); try dsimp only
    refine ev_ald rfl h61 ?_ ?_; exact in_nI (by omega) (by decide)
    rw [nI_clamp (by omega), g1]
    (repeat (first | refine ax_st rfl ?_ | (apply ev_get rfl; assumption; rfl))); try dsimp only
    refine ev_callU rfl m2 ⟨rfl, rfl, Nat.le_of_ble_eq_true rfl, Nat.le_of_ble_eq_true rfl⟩ (e3) ?_
    repeat (first | (exact e) | refine ax_st rfl ?_ | (apply ev_get rfl; assumption; rfl))
  | .add l r, b, n, inn, br, h, F, hw, f, hn, hi, ho, hl, m, A, K => by
    have hb : b = true := hw.1
    subst hb
    have hn : n + (sz l true + sz r true) ≤ N := hn
    have ho : OUT F N n (n + (sz l true + sz r true)) := ho
    have hl : (rn l true).length + ((rn r true).length + 1) ≤ 60 := by simpa [rn] using hl
    show PJ d (n + (sz l true + sz r true)) h Φ
    rw [← Nat.add_assoc]
    refine pj_tree hN r true (n + sz l true) inn br h F hw.2.2 f.2 (by omega) (fun j h1 h2 => hi j (by omega) h2) (out_r hN hn f.1 hi ho) (by omega) m A (fun h1 F1 m1 A1 k1 S1 _ => ?_)
    refine pj_tree hN l true n inn br h1 F1 hw.2.1 (Fl_S k1 f.1) (by omega) hi ((out_l hN hn f.2 hi ho).c k1) (by omega) m1 A1 (fun h2 F2 m2 A2 k2 S2 _ => ?_)
    exact K h2 F2 m2 A2 ((k1.wk (fun s z => by show 4 * n ≤ s ∧ s < 4 * (n + (sz l true + sz r true)); omega)).tr (k2.wk (fun s z => by show 4 * n ≤ s ∧ s < 4 * (n + (sz l true + sz r true)); omega))) (fun _ r' hr' => ⟨S2 rfl r' hr', SLs.c k2 r _ (fun s hs => by omega) (S1 rfl r' hr')⟩) (fun z => by cases z)
theorem m_project {h : ax_H} {F : Nat → Nat → Int32} {t : Tr} {br : Int32} (hw : wf t false) (hN : sz t false ≤ 60) (hl : (rn t false).length ≤ 60) (f : Fl F t false 0 (-1) br) (m : mo h n0 (nI (sz t false)) th ms ru mv) (A : MA h F) : ∃ h' F', mt (d + 3) 93 [.inr (some 59)] h none h' ∧ mo h' n0 (nI (sz t false)) th ms ru mv ∧ MA h' F' ∧ (∀ q, q ≠ 66 → q ≠ 67 → F' q = F q) ∧ (∀ r, r < 4 → SL F' r (ltx t r)) ∧ fr h h' (fun q => 59 ≤ q) := by
  have key : PJ d (0 + sz t false) h (fun h' => ∃ F', mo h' n0 (nI (sz t false)) th ms ru mv ∧ MA h' F' ∧ (∀ q, q ≠ 66 → q ≠ 67 → F' q = F q) ∧ (∀ r, r < 4 → SL F' r (ltx t r))) := by
    refine pj_tree hN t false 0 (-1) br h F hw f (by omega) (fun j _ hj z => nI_m1 (show j < 2 ^ 31 by omega) z.symm) (fun q hq h => by omega) hl m A (fun h1 F1 m1 A1 k1 _ S1 w2 => ⟨h1, ?_, ⟨F1, m1, A1, k1.1, fun r hr => by have := S1 rfl r hr; rw [Nat.mul_zero, Nat.zero_add] at this; exact this⟩, fr.rf⟩)
    (repeat (first | refine ax_st rfl ?_ | (apply ev_get rfl; assumption; rfl))); try dsimp only
    exact ax_rt rfl
  rw [Nat.zero_add] at key
  obtain ⟨h', e, ⟨F', q1, q2, q3, q4⟩, fr1⟩ := key none
  refine ⟨h', F', ?_, q1, q2, q3, q4, fr1⟩
  unfold mo at m
  repeat (first | (exact e) | refine ax_st rfl ?_ | (apply ev_get rfl; assumption; rfl))
end PJS
