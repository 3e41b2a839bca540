/-! The reference: a message's part, its branches one by one. -/
theorem Fl_c {F F' : Nat → Nat → Int32} (e1 : F' 61 = F 61) (e2 : F' 62 = F 62) (e3 : F' 63 = F 63) (e4 : F' 64 = F 64) (e5 : F' 65 = F 65) : ∀ (t : Tr) (b : Bool) (n : Nat) (inn br : Int32), Fl F t b n inn br → Fl F' t b n inn br
  | .num _, b, n, inn, br, h => by unfold Fl at h ⊢; rw [e1, e2, e4, e5]; exact h
  | .var _, b, n, inn, br, h => by unfold Fl at h ⊢; rw [e1, e2, e4, e5]; exact h
  | .mulL x g, b, n, inn, br, h => by
    cases b with
    | true => exact Fl_c e1 e2 e3 e4 e5 g false n inn (nI x) h
    | false => exact ⟨by rw [e1, e2, e4, e5]; exact h.1, Fl_c e1 e2 e3 e4 e5 g false _ _ _ h.2⟩
  | .mulR bs x, b, n, inn, br, h => ⟨by rw [e1, e2, e3, e4, e5]; exact h.1, Fl_c e1 e2 e3 e4 e5 bs true _ _ _ h.2⟩
  | .add l r, b, n, inn, br, h => ⟨Fl_c e1 e2 e3 e4 e5 l true _ _ _ h.1, Fl_c e1 e2 e3 e4 e5 r true _ _ _ h.2⟩
theorem Fl_S {F F' : Nat → Nat → Int32} {S : Nat → Prop} (k : kS F F' S) {t : Tr} {b : Bool} {n : Nat} {inn br : Int32} (f : Fl F t b n inn br) : Fl F' t b n inn br := Fl_c (k.1 61 (by decide) (by decide)) (k.1 62 (by decide) (by decide)) (k.1 63 (by decide) (by decide)) (k.1 64 (by decide) (by decide)) (k.1 65 (by decide) (by decide)) t b n inn br f
section MPU
variable {d : Nat} {n0 ms mv : Int32} {th ru : Bool} {k r N : Nat} {sn : Bool} {Φ : ax_H → Prop}
theorem lt_1 (rc x : Nat) (g : Tr) : lt rc (.mulL x g) 1 = (lt rc g 0).map (fun l => .mulL x l) := rfl
theorem lt_2 (rc x : Nat) (g : Tr) : lt rc (.mulL x g) 2 = lt rc g 0 := rfl
theorem lt_a1 (rc : Nat) (a b : Tr) : lt rc (.add a b) 1 = (lt rc a 1).bind (fun x => (lt rc b 1).bind (fun y => some (.add x y))) := rfl
theorem lt_a2 (rc : Nat) (a b : Tr) : lt rc (.add a b) 2 = (lt rc a 2).bind (fun x => (lt rc b 2).bind (fun y => if rn x false = rn y false then some x else none)) := rfl
theorem mg_LT (hN : N ≤ 60) (hr : r < 4) : ∀ (t : Tr) (q : Nat) (br : Int32) (h : ax_H) (F : Nat → Nat → Int32) (o : Option (Nat × List Nat)) (S : List Nat), wf t true → Fl F t true q (nI k) br → k < q → q + sz t true ≤ N → (∀ s T, o = some (s, T) → s < 240) → mo h n0 (nI N) th ms ru mv → MA h F → SLs F r t q → SL F (4 * k + r) (some S) → S.length + 1 + (rn t true).length ≤ 59 → (∀ h1 F1 s1 l, s1 < 240 → lt (65 + r) t 1 = some l → mo h1 n0 (nI N) th ms ru mv → MA h1 F1 → SL F1 (4 * k + r) (some (S ++ (if o = none then 123 else 44) :: rn l true)) → kS F F1 (fun q => q = 4 * k + r) → MG d 64 k r sn true (nI s1) true (q + sz t true) h1 Φ) → (lt (65 + r) t 1 = none → ∀ h1 F1 s1 q', mo h1 n0 (nI N) th ms ru mv → MA h1 F1 → kS F F1 (fun q => q = 4 * k + r) → MG d 64 k r sn true s1 false q' h1 Φ) → MG d 64 k r sn true (oI o) true q h Φ
  | .num _, q, br, h, F, o, S, hw, _, _, _, _, _, _, _, _, _, _, _ => absurd hw.1 (by decide)
  | .var _, q, br, h, F, o, S, hw, _, _, _, _, _, _, _, _, _, _, _ => absurd hw.1 (by decide)
  | .mulR _ _, q, br, h, F, o, S, hw, _, _, _, _, _, _, _, _, _, _, _ => absurd hw.1 (by decide)
  | .mulL x g, q, br, h, F, o, S, hw, f, hkq, hqN, ho, m, A, ss, SS, hl, K1, K0 => by
    obtain ⟨c1, c2⟩ := chs_iff hN (.mulL x g) q k br hw f hkq hqN
    obtain ⟨r64, r65⟩ := c2 (q, x) (by simp [chs])
    have hqN : q + sz g false ≤ N := hqN
    have hp := sz_pos g false
    have ss : SL F (4 * q + r) ((lt (65 + r) g 0).map (fun l => rn l false)) := ss
    have hxb := isL_b hw.1
    rw [lt_1] at K1 K0
    cases hg : lt (65 + r) g 0 with
    | none =>
      rw [hg] at ss K0
      exact mg_cN hN (by omega) hr m A r64 ss (K0 rfl h F _ _ m A kS.rf)
    | some l =>
      rw [hg] at ss K1
      have ss : SL F (4 * q + r) (some (rn l false)) := ss
      have hll := (lt_len (65 + r) g 0 l hg).1 rfl hw.2
      have hl : S.length + 1 + ((rn g false).length + 2) ≤ 59 := by simpa [rn] using hl
      refine mg_cT ho hN (by omega) hkq hr (by omega) m A r64 r65 ss SS (by omega) (fun h1 F1 m1 A1 S1 k1 => ?_)
      have e := K1 h1 F1 (4 * q + r) (.mulL x l) (by omega) rfl m1 A1 S1 k1
      have : q + sz (.mulL x g) true = (q + 1) + (sz g false - 1) := by show q + sz g false = _; omega
      rw [this] at e
      refine mg_skip hN m1 A1 (sz g false - 1) (q + 1) (by omega) (fun i h1 h2 z => ?_) e
      rw [k1.1 64 (by decide) (by decide)] at z
      obtain ⟨y, hy⟩ := c1 i (by omega) (by show i < q + sz g false; omega) z
      rw [show chs (.mulL x g) q = [(q, x)] from rfl, List.mem_singleton] at hy
      have := congrArg Prod.fst hy
      have : i = q := this
      omega
  | .add a b, q, br, h, F, o, S, hw, f, hkq, hqN, ho, m, A, ss, SS, hl, K1, K0 => by
    have hqN : q + (sz a true + sz b true) ≤ N := hqN
    have hl : S.length + 1 + ((rn a true).length + ((rn b true).length + 1)) ≤ 59 := by simpa [rn] using hl
    rw [lt_a1] at K1 K0
    refine mg_LT hN hr a q br h F o S hw.2.1 f.1 hkq (by omega) ho m A ss.1 SS (by omega) (fun h1 F1 s1 la hs1 hla m1 A1 S1 k1 => ?_) (fun hn => K0 (by rw [hn]; rfl))
    rw [hla] at K1 K0
    have hll := (lt_len (65 + r) a 1 la hla).2.1 rfl hw.2.1
    refine mg_LT hN hr b (q + sz a true) br h1 F1 (some (s1, [])) _ hw.2.2 (Fl_S k1 f.2) (by omega) (by omega) (fun s T z => by cases z; exact hs1) m1 A1 (SLs.c k1 b _ (fun s hs => by omega) ss.2) S1 (by simp; omega) (fun h2 F2 s2 lb hs2 hlb m2 A2 S2 k2 => ?_) (fun hn h2 F2 s2 q' m2 A2 k2 => K0 (by rw [hn]; rfl) h2 F2 s2 q' m2 A2 (k1.tr k2))
    rw [hlb] at K1
    have e := K1 h2 F2 s2 (.add la lb) hs2 rfl m2 A2 (by
      rw [show (if (some (s1, ([] : List Nat))) = none then 123 else 44) = 44 from if_neg (by simp)] at S2
      show SL F2 (4 * k + r) (some (S ++ (if o = none then 123 else 44) :: (rn la true ++ 44 :: rn lb true)))
      rw [List.append_assoc] at S2
      exact S2) (k1.tr k2)
    rw [show q + sz a true + sz b true = q + sz (.add a b) true from Nat.add_assoc _ _ _]
    exact e
theorem mg_LN {h : ax_H} {F : Nat → Nat → Int32} (hN : N ≤ 60) (hr : r < 4) (m : mo h n0 (nI N) th ms ru mv) (A : MA h F) : ∀ (t : Tr) (q : Nat) (br : Int32) (o : Option (Nat × List Nat)), wf t true → Fl F t true q (nI k) br → k < q → q + sz t true ≤ N → SLs F r t q → (∀ s T0, o = some (s, T0) → s < 240 ∧ SL F s (some T0)) → (∀ s1 l, s1 < 240 → s1 ≠ 4 * k + r → lt (65 + r) t 2 = some l → osm o (rn l false) = true → SL F s1 (some (rn l false)) → MG d 64 k r sn false (nI s1) true (q + sz t true) h Φ) → ((∀ l, lt (65 + r) t 2 = some l → osm o (rn l false) = false) → ∀ s1 q', MG d 64 k r sn false s1 false q' h Φ) → MG d 64 k r sn false (oI o) true q h Φ
  | .num _, q, br, o, hw, _, _, _, _, _, _, _ => absurd hw.1 (by decide)
  | .var _, q, br, o, hw, _, _, _, _, _, _, _ => absurd hw.1 (by decide)
  | .mulR _ _, q, br, o, hw, _, _, _, _, _, _, _ => absurd hw.1 (by decide)
  | .mulL x g, q, br, o, hw, f, hkq, hqN, ss, ho, K1, K0 => by
    obtain ⟨c1, c2⟩ := chs_iff hN (.mulL x g) q k br hw f hkq hqN
    obtain ⟨r64, r65⟩ := c2 (q, x) (by simp [chs])
    have hqN : q + sz g false ≤ N := hqN
    have hp := sz_pos g false
    have ss : SL F (4 * q + r) ((lt (65 + r) g 0).map (fun l => rn l false)) := ss
    rw [lt_2] at K1 K0
    cases hg : lt (65 + r) g 0 with
    | none =>
      rw [hg] at ss K0
      exact mg_cN hN (by omega) hr m A r64 ss (K0 (fun l z => by cases z) _ _)
    | some l =>
      rw [hg] at ss K1 K0
      refine mg_c1 hN (by omega) hr m A r64 ss ho ?_
      cases hos : osm o (rn l false) with
      | false => exact K0 (fun l' z => by cases z; exact hos) _ _
      | true =>
        have e := K1 (4 * q + r) l (by omega) (by omega) rfl hos ss
        have : q + sz (.mulL x g) true = (q + 1) + (sz g false - 1) := by show q + sz g false = _; omega
        rw [this] at e
        refine mg_skip hN m A (sz g false - 1) (q + 1) (by omega) (fun i h1 h2 z => ?_) e
        obtain ⟨y, hy⟩ := c1 i (by omega) (by show i < q + sz g false; omega) z
        rw [show chs (.mulL x g) q = [(q, x)] from rfl, List.mem_singleton] at hy
        have := congrArg Prod.fst hy
        have : i = q := this
        omega
  | .add a b, q, br, o, hw, f, hkq, hqN, ss, ho, K1, K0 => by
    have hqN : q + (sz a true + sz b true) ≤ N := hqN
    rw [lt_a2] at K1 K0
    refine mg_LN hN hr m A a q br o hw.2.1 f.1 hkq (by omega) ss.1 ho (fun s1 la hs1 hs1' hla hos S1 => ?_) (fun hn => K0 (fun l hl => ?_))
    · rw [hla] at K1 K0
      refine mg_LN hN hr m A b (q + sz a true) br (some (s1, rn la false)) hw.2.2 f.2 (by omega) (by omega) ss.2 (fun s T z => by cases z; exact ⟨hs1, S1⟩) (fun s2 lb hs2 hs2' hlb hos2 S2 => ?_) (fun hn => K0 (fun l hl => ?_))
      · have he : rn la false = rn lb false := of_decide_eq_true hos2
        rw [hlb] at K1
        rw [show q + sz a true + sz b true = q + sz (.add a b) true from Nat.add_assoc _ _ _]
        refine K1 s2 la hs2 hs2' ?_ hos (by rw [he]; exact S2)
        show (if rn la false = rn lb false then some la else none) = some la
        rw [if_pos he]
      · exfalso
        have hl : (lt (65 + r) b 2).bind (fun y => if rn la false = rn y false then some la else none) = some l := hl
        obtain ⟨y, hy, hl⟩ := Option.bind_eq_some_iff.mp hl
        have := of_decide_eq_false (hn y hy)
        rw [if_neg this] at hl
        cases hl
    · obtain ⟨x, hx, hl⟩ := Option.bind_eq_some_iff.mp hl
      obtain ⟨y, hy, hl⟩ := Option.bind_eq_some_iff.mp hl
      split at hl
      · cases hl
        exact hn l hx
      · cases hl
/-- what becomes of a message -/
def MQQ (n0 : Int32) (N : Nat) (th : Bool) (ms : Int32) (ru : Bool) (mv : Int32) (F : Nat → Nat → Int32) (s : Nat) (Q : Option (List Nat)) (h' : ax_H) : Prop := ∃ F', mo h' n0 (nI N) th ms ru mv ∧ MA h' F' ∧ SL F' s Q ∧ kS F F' (fun q => q = s)
theorem mg_f0 {h : ax_H} {F F1 : Nat → Nat → Int32} {tk : Bool} {one : Int32} {q : Nat} (hk : k < 60) (hr : r < 4) (m : mo h n0 (nI N) th ms ru mv) (A : MA h F1) (K : kS F F1 (fun q => q = 4 * k + r)) : MG d 132 k r sn tk one false q h (MQQ n0 N th ms ru mv F (4 * k + r) none) := by
  intro w9
  have A1 := A.s67 (upd (F1 67) (4 * k + r) (-1))
  have m1 := m.s 67 (by decide) (.inl (0, 240, .inl (upd (F1 67) (4 * k + r) (-1))))
  refine ⟨_, ?_, ⟨_, m1, A1, ?_, ⟨fun q h1 h2 => by rw [va_up_ne _ _ h2]; exact K.1 q h1 h2, fun s hs => ⟨by rw [va_up_self, upd_n hs]; exact (K.2 s hs).1, fun i hi => by rw [va_up_ne _ _ (by decide)]; exact (K.2 s hs).2 i hi⟩⟩⟩, fr.st (by decide)⟩
  · have h67 := A.a67
    unfold mo at m
    (repeat (first | refine ax_st rfl ?_ | (apply ev_get rfl; assumption; rfl))); try dsimp only
    refine ev_ast rfl h67 ?_ ?_; exact in_nI (by omega) (by decide)
    rw [if_neg (by decide), nI_clamp (by omega)]
    (repeat (first | refine ax_st rfl ?_ | (apply ev_get rfl; assumption; rfl))); try dsimp only
    exact ax_rt rfl
  · show (va_up F1 67 (upd (F1 67) (4 * k + r) (-1))) 67 (4 * k + r) = -1
    rw [va_up_self, upd_s]
theorem mg_fT {h : ax_H} {F F1 : Nat → Nat → Int32} {one : Int32} {q : Nat} {S : List Nat} (hk : k < 60) (hr : r < 4) (hS : S.length < 60) (m : mo h n0 (nI N) th ms ru mv) (A : MA h F1) (SS : SL F1 (4 * k + r) (some S)) (K : kS F F1 (fun q => q = 4 * k + r)) : MG d 132 k r sn true one true q h (MQQ n0 N th ms ru mv F (4 * k + r) (some (S ++ [125]))) := by
  intro w9
  obtain ⟨ha, Fa, ea, ma, Aa, Sa, Ka, fa⟩ := m_put (d := d + 1) (c := 125) (show 4 * k + r < 240 by omega) (by decide) hS m A SS
  refine ⟨ha, ?_, ⟨Fa, ma, Aa, Sa, K.tr Ka⟩, fa⟩
  unfold mo at m
  (repeat (first | refine ax_st rfl ?_ | (apply ev_get rfl; assumption; rfl))); try dsimp only
  refine ev_callU rfl m ⟨rfl, rfl, Nat.le_of_ble_eq_true rfl, Nat.le_of_ble_eq_true rfl⟩ (ea) ?_
  (repeat (first | refine ax_st rfl ?_ | (apply ev_get rfl; assumption; rfl))); try dsimp only
  exact ax_rt rfl
theorem mg_fC {h : ax_H} {F F1 : Nat → Nat → Int32} {q s1 : Nat} {T : List Nat} (hk : k < 60) (hr : r < 4) (hs1 : s1 < 240) (hne : s1 ≠ 4 * k + r) (m : mo h n0 (nI N) th ms ru mv) (A : MA h F1) (SS : SL F1 (4 * k + r) (some [])) (S1 : SL F1 s1 (some T)) (K : kS F F1 (fun q => q = 4 * k + r)) : MG d 132 k r sn false (nI s1) true q h (MQQ n0 N th ms ru mv F (4 * k + r) (some T)) := by
  intro w9
  have t2 := S1.2.1
  obtain ⟨ha, Fa, ea, ma, Aa, Sa, Ka, fa⟩ := m_copy (d := d) hs1 (show 4 * k + r < 240 by omega) hne (by show 0 + T.length ≤ 60; omega) m A S1 SS
  refine ⟨ha, ?_, ⟨Fa, ma, Aa, Sa, K.tr Ka⟩, fa⟩
  unfold mo at m
  (repeat (first | refine ax_st rfl ?_ | (apply ev_get rfl; assumption; rfl))); try dsimp only
  refine ev_callU rfl m ⟨rfl, rfl, Nat.le_of_ble_eq_true rfl, Nat.le_of_ble_eq_true rfl⟩ (ea) ?_
  exact ax_rt rfl
theorem m_messagePart {h : ax_H} {F : Nat → Nat → Int32} {bs : Tr} {x : Nat} {br : Int32} (hN : N ≤ 60) (hr : r < 4) (hw : wf (.mulR bs x) false) (hl : (rn (.mulR bs x) false).length ≤ 60) (m : mo h n0 (nI N) th ms ru mv) (A : MA h F) (h62k : F 62 k = nI (x / 256)) (h63k : F 63 k = nI (x % 256)) (f : Fl F bs true (k + 1) (nI k) br) (hkN : k + 1 + sz bs true ≤ N) (hout : ∀ q, k + 1 + sz bs true ≤ q → q < N → F 64 q ≠ nI k) (ss : SLs F r bs (k + 1)) (SS : SL F (4 * k + r) (some [])) : ∃ h' F', mt (d + 2) 92 [.inr (some 59), .inl (nI k), .inl (nI r)] h none h' ∧ mo h' n0 (nI N) th ms ru mv ∧ MA h' F' ∧ SL F' (4 * k + r) ((lt (65 + r) (.mulR bs x) 0).map (fun l => rn l false)) ∧ kS F F' (fun q => q = 4 * k + r) ∧ fr h h' (fun q => 59 ≤ q) := by
  have hp := sz_pos bs true
  have hb1 := isR_b hw.2.1
  have hb2 := isR_b hw.2.2.1
  have hl : (rn bs true).length + 4 ≤ 60 := by simpa [rn] using hl
  have h62 := A.a62
  have h63 := A.a63
  have m0 := m
  have gol : (∃ h', mt (d + 2) 92 [.inr (some 59), .inl (nI k), .inl (nI r)] h none h' ∧ MQQ n0 N th ms ru mv F (4 * k + r) ((lt (65 + r) (.mulR bs x) 0).map (fun l => rn l false)) h' ∧ fr h h' (fun q => 59 ≤ q)) → ∃ h' F', mt (d + 2) 92 [.inr (some 59), .inl (nI k), .inl (nI r)] h none h' ∧ mo h' n0 (nI N) th ms ru mv ∧ MA h' F' ∧ SL F' (4 * k + r) ((lt (65 + r) (.mulR bs x) 0).map (fun l => rn l false)) ∧ kS F F' (fun q => q = 4 * k + r) ∧ fr h h' (fun q => 59 ≤ q) := by
    rintro ⟨h', e, ⟨F', q1, q2, q3, q4⟩, f'⟩
    exact ⟨h', F', e, q1, q2, q3, q4, f'⟩
  refine gol ?_
  -- the branches of a message that the role takes part in
  have takes : ∀ (sn : Bool) (c y : Nat) (ha : ax_H) (Fa : Nat → Nat → Int32), mo ha n0 (nI N) th ms ru mv → MA ha Fa → SL Fa (4 * k + r) (some [c, y]) → kS F Fa (fun q => q = 4 * k + r) → MG d 64 k r sn true (-1) true (k + 1) ha (MQQ n0 N th ms ru mv F (4 * k + r) ((lt (65 + r) bs 1).map (fun l => [c, y] ++ 123 :: rn l true ++ [125]))) := by
    intro sn c y ha Fa ma Aa Sa Ka
    refine mg_LT (o := none) hN hr bs (k + 1) br ha Fa [c, y] hw.2.2.2 (Fl_S Ka f) (by omega) (by omega) (fun s T z => by cases z) ma Aa (SLs.c Ka bs _ (fun s hs => by omega) ss) Sa (by simp; omega) (fun h1 F1 s1 l hs1 hlt m1 A1 S1 k1 => ?_) (fun hn h1 F1 s1 q' m1 A1 k1 => ?_)
    · have hll := (lt_len (65 + r) bs 1 l hlt).2.1 rfl hw.2.2.2
      refine mg_skip hN m1 A1 (N - (k + 1 + sz bs true)) _ (by omega) (fun i i1 i2 => ?_) ?_
      · rw [(Ka.tr k1).1 64 (by decide) (by decide)]
        exact hout i i1 (by omega)
      · rw [show k + 1 + sz bs true + (N - (k + 1 + sz bs true)) = N by omega]
        refine mg_exN hN m1 ?_
        rw [hlt]
        exact mg_fT (by omega) hr (by simp; omega) m1 A1 S1 (Ka.tr k1)
    · rw [hn]
      exact mg_ex0 m1 (mg_f0 (by omega) hr m1 A1 (Ka.tr k1))
  have rnm : ∀ (c y : Nat) (l : Tr), y < 256 → rn (.mulR l (c * 256 + y)) false = [c, y] ++ 123 :: rn l true ++ [125] := by
    intro c y l hy
    show [(c * 256 + y) / 256, (c * 256 + y) % 256, 123] ++ (rn l true ++ [125]) = _
    rw [show (c * 256 + y) / 256 = c by omega, show (c * 256 + y) % 256 = y by omega]
    simp
  by_cases h1 : 65 + r = x / 256
  · obtain ⟨ha, Fa, ea, ma, Aa, Sa, Ka, fa⟩ := m_put (d := d + 1) (c := x % 256) (show 4 * k + r < 240 by omega) (by omega) (by decide) m A SS
    obtain ⟨hb, Fb, eb, mb, Ab, Sb, Kb, fb⟩ := m_put (d := d + 1) (c := 33) (show 4 * k + r < 240 by omega) (by decide) (by simp) ma Aa Sa
    obtain ⟨h', e, q, f'⟩ := takes true (x % 256) 33 hb Fb mb Ab Sb (Ka.tr Kb) none
    refine ⟨h', ?_, ?_, (fa.tr fb).tr f'⟩
    · rw [← nI_1 k] at e
      unfold mo at m ma
      (repeat (first | refine ax_st rfl ?_ | (apply ev_get rfl; assumption; rfl))); try dsimp only
      refine ev_ald rfl h62 ?_ ?_; exact in_nI (by omega) (by decide)
      rw [nI_clamp (by omega), h62k, show (4 : Int32) * nI k = nI (4 * k) from pk_mul 4 k, nI_add]
      (repeat (first | refine ax_st rfl ?_ | (apply ev_get rfl; assumption; rfl))); try dsimp only
      rw [show (65 : Int32) + nI r = nI (65 + r) from nI_add 65 r]
      refine ev_f (fun z => z (by rw [h1])) ?_
      (repeat (first | refine ax_st rfl ?_ | (apply ev_get rfl; assumption; rfl))); try dsimp only
      refine ev_ald rfl h63 ?_ ?_; exact in_nI (by omega) (by decide)
      rw [nI_clamp (by omega), h63k]
      (repeat (first | refine ax_st rfl ?_ | (apply ev_get rfl; assumption; rfl))); try dsimp only
      refine ev_callU rfl m ⟨rfl, rfl, Nat.le_of_ble_eq_true rfl, Nat.le_of_ble_eq_true rfl⟩ (ea) ?_
      (repeat (first | refine ax_st rfl ?_ | (apply ev_get rfl; assumption; rfl))); try dsimp only
      refine ev_callU rfl ma ⟨rfl, rfl, Nat.le_of_ble_eq_true rfl, Nat.le_of_ble_eq_true rfl⟩ (eb) ?_
      repeat (first | (exact e) | refine ax_st rfl ?_ | (apply ev_get rfl; assumption; rfl))
    · have : (lt (65 + r) (.mulR bs x) 0).map (fun l => rn l false) = (lt (65 + r) bs 1).map (fun l => [x % 256, 33] ++ 123 :: rn l true ++ [125]) := by
        rw [lt, if_pos h1, Option.map_map]
        congr 1
        funext l
        exact rnm (x % 256) 33 l (by decide)
      rw [this]
      exact q
  · by_cases h2 : 65 + r = x % 256
    · obtain ⟨ha, Fa, ea, ma, Aa, Sa, Ka, fa⟩ := m_put (d := d + 1) (c := x / 256) (show 4 * k + r < 240 by omega) (by omega) (by decide) m A SS
      obtain ⟨hb, Fb, eb, mb, Ab, Sb, Kb, fb⟩ := m_put (d := d + 1) (c := 63) (show 4 * k + r < 240 by omega) (by decide) (by simp) ma Aa Sa
      obtain ⟨h', e, q, f'⟩ := takes false (x / 256) 63 hb Fb mb Ab Sb (Ka.tr Kb) none
      refine ⟨h', ?_, ?_, (fa.tr fb).tr f'⟩
      · rw [← nI_1 k] at e
        unfold mo at m ma
        (repeat (first | refine ax_st rfl ?_ | (apply ev_get rfl; assumption; rfl))); try dsimp only
        refine ev_ald rfl h62 ?_ ?_; exact in_nI (by omega) (by decide)
        rw [nI_clamp (by omega), h62k, show (4 : Int32) * nI k = nI (4 * k) from pk_mul 4 k, nI_add]
        (repeat (first | refine ax_st rfl ?_ | (apply ev_get rfl; assumption; rfl))); try dsimp only
        rw [show (65 : Int32) + nI r = nI (65 + r) from nI_add 65 r]
        refine ev_t (fun z => h1 ((nI_eq (by omega) (by omega)).mp z).symm) ?_
        (repeat (first | refine ax_st rfl ?_ | (apply ev_get rfl; assumption; rfl))); try dsimp only
        refine ev_ald rfl h63 ?_ ?_; exact in_nI (by omega) (by decide)
        rw [nI_clamp (by omega), h63k]
        (repeat (first | refine ax_st rfl ?_ | (apply ev_get rfl; assumption; rfl))); try dsimp only
        rw [show (65 : Int32) + nI r = nI (65 + r) from nI_add 65 r]
        refine ev_f (fun z => z (by rw [h2])) ?_
        (repeat (first | refine ax_st rfl ?_ | (apply ev_get rfl; assumption; rfl))); try dsimp only
        refine ev_ald rfl h62 ?_ ?_; exact in_nI (by omega) (by decide)
        rw [nI_clamp (by omega), h62k]
        refine ev_callU rfl m ⟨rfl, rfl, Nat.le_of_ble_eq_true rfl, Nat.le_of_ble_eq_true rfl⟩ (ea) ?_
        (repeat (first | refine ax_st rfl ?_ | (apply ev_get rfl; assumption; rfl))); try dsimp only
        refine ev_callU rfl ma ⟨rfl, rfl, Nat.le_of_ble_eq_true rfl, Nat.le_of_ble_eq_true rfl⟩ (eb) ?_
        repeat (first | (exact e) | refine ax_st rfl ?_ | (apply ev_get rfl; assumption; rfl))
      · have : (lt (65 + r) (.mulR bs x) 0).map (fun l => rn l false) = (lt (65 + r) bs 1).map (fun l => [x / 256, 63] ++ 123 :: rn l true ++ [125]) := by
          rw [lt, if_neg h1, if_pos h2, Option.map_map]
          congr 1
          funext l
          exact rnm (x / 256) 63 l (by decide)
        rw [this]
        exact q
    · have hlt : lt (65 + r) (.mulR bs x) 0 = lt (65 + r) bs 2 := by rw [lt, if_neg h1, if_neg h2]
      rw [hlt]
      have key : MG d 64 k r false false (-1) true (k + 1) h (MQQ n0 N th ms ru mv F (4 * k + r) ((lt (65 + r) bs 2).map (fun l => rn l false))) := by
        refine mg_LN (o := none) hN hr m A bs (k + 1) br hw.2.2.2 f (by omega) (by omega) ss (fun s T z => by cases z) (fun s1 l hs1 hne hl2 _ S1 => ?_) (fun hn s1 q' => ?_)
        · refine mg_skip hN m A (N - (k + 1 + sz bs true)) _ (by omega) (fun i i1 i2 => hout i i1 (by omega)) ?_
          rw [show k + 1 + sz bs true + (N - (k + 1 + sz bs true)) = N by omega]
          refine mg_exN hN m ?_
          rw [hl2]
          exact mg_fC (by omega) hr hs1 hne m A SS S1 kS.rf
        · cases hl2 : lt (65 + r) bs 2 with
          | some l => cases hn l hl2
          | none => exact mg_ex0 m (mg_f0 (by omega) hr m A kS.rf)
      obtain ⟨h', e, q, f'⟩ := key none
      refine ⟨h', ?_, q, f'⟩
      rw [← nI_1 k] at e
      unfold mo at m
      (repeat (first | refine ax_st rfl ?_ | (apply ev_get rfl; assumption; rfl))); try dsimp only
      refine ev_ald rfl h62 ?_ ?_; exact in_nI (by omega) (by decide)
      rw [nI_clamp (by omega), h62k, show (4 : Int32) * nI k = nI (4 * k) from pk_mul 4 k, nI_add]
      (repeat (first | refine ax_st rfl ?_ | (apply ev_get rfl; assumption; rfl))); try dsimp only
      rw [show (65 : Int32) + nI r = nI (65 + r) from nI_add 65 r]
      refine ev_t (fun z => h1 ((nI_eq (by omega) (by omega)).mp z).symm) ?_
      (repeat (first | refine ax_st rfl ?_ | (apply ev_get rfl; assumption; rfl))); try dsimp only
      refine ev_ald rfl h63 ?_ ?_; exact in_nI (by omega) (by decide)
      rw [nI_clamp (by omega), h63k]
      (repeat (first | refine ax_st rfl ?_ | (apply ev_get rfl; assumption; rfl))); try dsimp only
      rw [show (65 : Int32) + nI r = nI (65 + r) from nI_add 65 r]
      refine ev_t (fun z => h2 ((nI_eq (by omega) (by omega)).mp z).symm) ?_
      repeat (first | (exact e) | refine ax_st rfl ?_ | (apply ev_get rfl; assumption; rfl))
end MPU
