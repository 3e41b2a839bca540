/-! The pieces are sound where the protocol is. -/
def lbs : Tr → List Nat
  | .mulL k _ => [k]
  | .add l r => lbs l ++ lbs r
  | _ => []
def ul : Tr → Prop
  | .mulL _ g => ul g
  | .mulR bs _ => (lbs bs).Nodup ∧ ul bs
  | .add l r => ul l ∧ ul r
  | _ => True
theorem bnd_tr (F : Nat → Nat → Int32) (v : Int32) : ∀ ks, bnd F v ks true = !sng F v ks
  | [] => rfl
  | (k, b) :: ks => by
    cases b with
    | true => rw [bnd_t, sng_t]; exact bnd_tr F v ks
    | false =>
      by_cases h : F 62 k = v
      · rw [bnd_e h, sng_e h]; rfl
      · rw [bnd_n h, sng_n h]; exact bnd_tr F v ks
theorem sng_bnd (F : Nat → Nat → Int32) (v : Int32) : ∀ ks msg, sng F v ks = true → bnd F v ks msg = false
  | [], _, _ => rfl
  | (k, b) :: ks, msg, hs => by
    cases b with
    | true => rw [bnd_t]; rw [sng_t] at hs; exact sng_bnd F v ks _ hs
    | false =>
      by_cases h : F 62 k = v
      · rw [sng_e h] at hs; cases hs
      · rw [bnd_n h]; rw [sng_n h] at hs; exact sng_bnd F v ks _ hs
theorem fl_lbs : ∀ t, wf t true → ∃ u, lbs t = fl t :: u
  | .num _, h => absurd h.1 (by decide)
  | .var _, h => absurd h.1 (by decide)
  | .mulL k g, _ => ⟨[], rfl⟩
  | .mulR _ _, h => absurd h.1 (by decide)
  | .add l r, h => by
    obtain ⟨u, hu⟩ := fl_lbs l h.2.1
    exact ⟨u ++ lbs r, by show lbs l ++ lbs r = fl l :: (u ++ lbs r); rw [hu]; rfl⟩
theorem rg_split {P : Nat → Prop} {n a b : Nat} : (∀ k, n ≤ k → k < n + (a + b) → P k) ↔ (∀ k, n ≤ k → k < n + a → P k) ∧ ∀ k, n + a ≤ k → k < n + a + b → P k := by
  refine ⟨fun z => ⟨fun k h1 h2 => z k h1 (by omega), fun k h1 h2 => z k (by omega) (by omega)⟩, fun z k h1 h2 => ?_⟩
  by_cases hk : k < n + a
  · exact z.1 k h1 hk
  · exact z.2 k (by omega) (by omega)
theorem rg_one {P : Nat → Prop} {n : Nat} : (∀ k, n ≤ k → k < n + 1 → P k) ↔ P n := ⟨fun z => z n (Nat.le_refl _) (by omega), fun z k h1 h2 => by rw [show k = n by omega]; exact z⟩
section PSD
variable {F : Nat → Nat → Int32} {N : Nat}
def SF (F : Nat → Nat → Int32) (N : Nat) (t : Tr) : Prop := wf t false → ∀ (n : Nat) (inn br : Int32) (ks : List (Nat × Bool)) (lo la lu : Nat), Fl F t false n inn br → n + sz t false ≤ N → ch F N ks inn → (∀ x, isV x = true → lo.testBit (x - 88) = !sng F (nI x) ks) → (∀ x, isV x = true → la.testBit (x - 88) = bnd F (nI x) ks false) → ((sd t false lo la lu).1 = true ↔ (∀ k, n ≤ k → k < n + sz t false → okA F N k) ∧ ul t)
def SB (F : Nat → Nat → Int32) (N : Nat) (t : Tr) : Prop := wf t true → ∀ (n : Nat) (inn br : Int32) (k0 : Nat) (ks : List (Nat × Bool)) (la lu : Nat) (U : List Nat), Fl F t true n inn br → n + sz t true ≤ N → ch F N ((k0, true) :: ks) inn → (∀ x, isV x = true → la.testBit (x - 88) = !sng F (nI x) ks) → (∀ x, isL x = true → (lu.testBit (x - 112) = true ↔ x ∈ U ++ [fl t])) → (U ++ [fl t]).Nodup → ((sd t true 0 la lu).1 = true ↔ (∀ k, n ≤ k → k < n + sz t true → okA F N k) ∧ (U ++ lbs t).Nodup ∧ ul t) ∧ ((sd t true 0 la lu).1 = true → ∀ x, isL x = true → ((sd t true 0 la lu).2.testBit (x - 112) = true ↔ x ∈ U ++ lbs t))
theorem okA_of (hN : N ≤ 60) {k : Nat} {ks : List (Nat × Bool)} {inn : Int32} (he : F 64 k = inn) (c : ch F N ks inn) : okA F N k ↔ (F 61 k = 1 → bnd F (F 62 k) ks false = true) ∧ (F 61 k = 2 → sng F (F 62 k) ks = true) ∧ (F 61 k = 3 → F 62 k ≠ F 63 k) := by
  subst he
  exact ⟨fun z => z ks c, fun z ks' c' => by rw [ch_u hN ks' ks _ c' c]; exact z⟩
theorem V_inj {x y : Nat} (h : isV x = true) (h2 : isV y = true) : nI x = nI y ↔ x = y := by
  have := isV_b h
  have := isV_b h2
  exact nI_eq (by omega) (by omega)
theorem ps_all (hN : N ≤ 60) : ∀ t, SF F N t ∧ SB F N t
  | .num x => by
    refine ⟨fun hw n inn br ks lo la lu f hn c r1 r2 => ?_, fun hw => absurd hw.1 (by decide)⟩
    obtain ⟨f1, f2, f3, f4⟩ := f
    show true = true ↔ _
    rw [show n + sz (.num x) false = n + 1 from rfl, rg_one, okA_of hN f3 c, f1]
    exact ⟨fun _ => ⟨⟨fun z => absurd z (by decide), fun z => absurd z (by decide), fun z => absurd z (by decide)⟩, trivial⟩, fun _ => rfl⟩
  | .var x => by
    refine ⟨fun hw n inn br ks lo la lu f hn c r1 r2 => ?_, fun hw => absurd hw.1 (by decide)⟩
    obtain ⟨f1, f2, f3, f4⟩ := f
    show la.testBit (x - 88) = true ↔ _
    rw [show n + sz (.var x) false = n + 1 from rfl, rg_one, okA_of hN f3 c, f1, f2, r2 x hw.2]
    exact ⟨fun z => ⟨⟨fun _ => z, fun z => absurd z (by decide), fun z => absurd z (by decide)⟩, trivial⟩, fun z => z.1.1 rfl⟩
  | .mulL x g => by
    have ih := (ps_all hN g).1
    constructor
    · intro hw n inn br ks lo la lu f hn c r1 r2
      obtain ⟨⟨f1, f2, f3, f4⟩, f5⟩ := f
      have hn : n + (1 + sz g false) ≤ N := hn
      show (!lo.testBit (x - 88) && (sd g false (lo ||| 2 ^ (x - 88)) la 0).1) = true ↔ _
      rw [show n + sz (.mulL x g) false = n + (1 + sz g false) from rfl, rg_split, rg_one, okA_of hN f3 c, f1, f2, r1 x hw.1, Bool.not_not, Bool.and_eq_true]
      have hV : isV x = true := hw.1
      have hb := isV_b hV
      cases hs : sng F (nI x) ks with
      | false => exact ⟨(fun z => by cases z.1), (fun z => by cases (z.1.1.2.1 rfl))⟩
      | true =>
        have ih' := ih hw.2 (n + 1) (nI n) br ((n, false) :: ks) (lo ||| 2 ^ (x - 88)) la 0 f5 (by omega) ⟨rfl, by omega, f1, by rw [f3]; exact c⟩ (fun y hy => by
          have hyb := isV_b hy
          rw [Nat.testBit_or, Nat.testBit_two_pow, r1 y hy]
          by_cases hxy : x = y
          · subst hxy
            rw [sng_e f2]
            simp
          · rw [sng_n (by rw [f2]; exact fun z => hxy ((V_inj hV hy).mp z)), decide_eq_false (by omega), Bool.or_false]) (fun y hy => by
          by_cases hxy : x = y
          · subst hxy
            rw [bnd_e f2, r2 x hV]
            exact sng_bnd F _ ks false hs
          · rw [bnd_n (by rw [f2]; exact fun z => hxy ((V_inj hV hy).mp z)), r2 y hy]
            rfl)
        rw [ih']
        exact ⟨fun z => ⟨⟨⟨fun z => absurd z (by decide), fun _ => rfl, fun z => absurd z (by decide)⟩, z.2.1⟩, z.2.2⟩, fun z => ⟨rfl, z.1.2, z.2⟩⟩
    · intro hw n inn br k0 ks la lu U f hn c r1 r2 hU
      have f : Fl F g false n inn (nI x) := f
      have hn : n + sz g false ≤ N := hn
      have ih' := ih hw.2 n inn (nI x) ((k0, true) :: ks) la la 0 f hn c (fun y hy => by rw [sng_t]; exact r1 y hy) (fun y hy => by
        rw [bnd_t, show (false || true) = true from rfl, bnd_tr]
        exact r1 y hy)
      constructor
      · show (sd g false la la 0).1 = true ↔ _
        rw [ih']
        exact ⟨fun z => ⟨z.1, hU, z.2⟩, fun z => ⟨z.1, z.2.2⟩⟩
      · intro _
        exact r2
  | .mulR bs x => by
    have ih := (ps_all hN bs).2
    refine ⟨fun hw n inn br ks lo la lu f hn c r1 r2 => ?_, fun hw => absurd hw.1 (by decide)⟩
    obtain ⟨⟨f1, f2, f6, f3, f4⟩, f5⟩ := f
    have hn : n + (1 + sz bs true) ≤ N := hn
    show (decide (x / 256 ≠ x % 256) && (sd bs true 0 lo (2 ^ (fl bs - 112))).1) = true ↔ _
    rw [show n + sz (.mulR bs x) false = n + (1 + sz bs true) from rfl, rg_split, rg_one, okA_of hN f3 c, f1, f2, f6, Bool.and_eq_true]
    have hR1 := isR_b hw.2.1
    have hR2 := isR_b hw.2.2.1
    have hfl := isL_b (fl_L bs hw.2.2.2).1
    have ih' := ih hw.2.2.2 (n + 1) (nI n) br n ks lo (2 ^ (fl bs - 112)) [] f5 (by omega) ⟨rfl, by omega, f1, by rw [f3]; exact c⟩ r1 (fun y hy => by
      have := isL_b hy
      rw [Nat.testBit_two_pow]
      simp only [List.nil_append, List.mem_singleton, decide_eq_true_eq]
      omega) (by simp)
    rw [ih'.1, List.nil_append, decide_eq_true_eq]
    have hne : (nI (x / 256) ≠ nI (x % 256)) ↔ x / 256 ≠ x % 256 := not_congr (nI_eq (by omega) (by omega))
    exact ⟨fun z => ⟨⟨⟨fun z => absurd z (by decide), fun z => absurd z (by decide), fun _ => hne.mpr z.1⟩, z.2.1⟩, z.2.2⟩, fun z => ⟨hne.mp (z.1.1.2.2 rfl), z.1.2, z.2⟩⟩
  | .add l r => by
    have ih1 := (ps_all hN l).2
    have ih2 := (ps_all hN r).2
    refine ⟨fun hw => absurd hw.1 (by decide), fun hw n inn br k0 ks la lu U f hn c r1 r2 hU => ?_⟩
    have hn : n + (sz l true + sz r true) ≤ N := hn
    obtain ⟨h1, h1'⟩ := ih1 hw.2.1 n inn br k0 ks la lu U f.1 (by omega) c r1 r2 hU
    have hLr := (fl_L r hw.2.2).1
    obtain ⟨ur, hur⟩ := fl_lbs r hw.2.2
    have hsd : sd (.add l r) true 0 la lu = if (sd l true 0 la lu).1 = true ∧ (sd l true 0 la lu).2.testBit (fl r - 112) = false then sd r true 0 la ((sd l true 0 la lu).2 ||| 2 ^ (fl r - 112)) else (false, 0) := rfl
    rw [hsd, show n + sz (.add l r) true = n + (sz l true + sz r true) from rfl, rg_split, show lbs (.add l r) = lbs l ++ lbs r from rfl, show ul (.add l r) = (ul l ∧ ul r) from rfl, ← List.append_assoc]
    by_cases hc : (sd l true 0 la lu).1 = true ∧ (sd l true 0 la lu).2.testBit (fl r - 112) = false
    · rw [if_pos hc]
      have g1 := h1.mp hc.1
      have g2 := h1' hc.1
      have hnm : fl r ∉ U ++ lbs l := fun z => by
        have := (g2 (fl r) hLr).mpr z
        rw [hc.2] at this
        cases this
      have hU2 : ((U ++ lbs l) ++ [fl r]).Nodup := by
        rw [List.nodup_append]
        refine ⟨g1.2.1, by simp, fun a ha b hb hab => ?_⟩
        rw [List.mem_singleton] at hb
        rw [hab, hb] at ha
        exact hnm ha
      obtain ⟨h2, h2'⟩ := ih2 hw.2.2 (n + sz l true) inn br k0 ks la ((sd l true 0 la lu).2 ||| 2 ^ (fl r - 112)) (U ++ lbs l) f.2 (by omega) c r1 (fun y hy => by
        have hb1 := isL_b hy
        have hb2 := isL_b hLr
        rw [Nat.testBit_or, Bool.or_eq_true, g2 y hy, Nat.testBit_two_pow, decide_eq_true_eq, List.mem_append (s := U ++ lbs l), List.mem_singleton]
        exact or_congr Iff.rfl (by omega)) hU2
      refine ⟨?_, h2'⟩
      rw [h2]
      exact ⟨fun z => ⟨⟨g1.1, z.1⟩, z.2.1, g1.2.2, z.2.2⟩, fun z => ⟨z.1.2, z.2.1, z.2.2.2⟩⟩
    · rw [if_neg hc]
      refine ⟨⟨(fun z => by cases z), fun z => absurd ?_ hc⟩, (fun z => by cases z)⟩
      have z2 := z.2.1
      rw [hur] at z2
      have n1 : (U ++ lbs l).Nodup := (List.nodup_append.mp z2).1
      have g0 := h1.mpr ⟨z.1.1, n1, z.2.2.1⟩
      refine ⟨g0, ?_⟩
      cases hq : (sd l true 0 la lu).2.testBit (fl r - 112) with
      | false => rfl
      | true =>
        have := (h1' g0 (fl r) hLr).mp hq
        exact absurd rfl ((List.nodup_append.mp z2).2.2 (fl r) this (fl r) (by simp))
/-- around: the given one, or one of the same tree -/
theorem ar_rng : ∀ (t : Tr) (b : Bool) (n : Nat) (inn br : Int32), Fl F t b n inn br → ∀ q, n ≤ q → q < n + sz t b → F 64 q = inn ∨ ∃ j, n ≤ j ∧ j < n + sz t b ∧ F 64 q = nI j
  | .num _, b, n, inn, br, f, q, h1, h2 => by
    have h2 : q < n + 1 := h2
    rw [show q = n by omega]
    exact Or.inl f.2.2.1
  | .var _, b, n, inn, br, f, q, h1, h2 => by
    have h2 : q < n + 1 := h2
    rw [show q = n by omega]
    exact Or.inl f.2.2.1
  | .mulL x g, b, n, inn, br, f, q, h1, h2 => by
    cases b with
    | true => exact ar_rng g false n inn (nI x) f q h1 h2
    | false =>
      have h2 : q < n + (1 + sz g false) := h2
      show _ ∨ ∃ j, n ≤ j ∧ j < n + (1 + sz g false) ∧ F 64 q = nI j
      by_cases hq : q = n
      · rw [hq]
        exact Or.inl f.1.2.2.1
      · rcases ar_rng g false (n + 1) (nI n) br f.2 q (by omega) (by omega) with z | ⟨j, j1, j2, z⟩
        · exact Or.inr ⟨n, by omega, by omega, z⟩
        · exact Or.inr ⟨j, by omega, by omega, z⟩
  | .mulR bs x, b, n, inn, br, f, q, h1, h2 => by
    have h2 : q < n + (1 + sz bs true) := h2
    show _ ∨ ∃ j, n ≤ j ∧ j < n + (1 + sz bs true) ∧ F 64 q = nI j
    by_cases hq : q = n
    · rw [hq]
      exact Or.inl f.1.2.2.2.1
    · rcases ar_rng bs true (n + 1) (nI n) br f.2 q (by omega) (by omega) with z | ⟨j, j1, j2, z⟩
      · exact Or.inr ⟨n, by omega, by omega, z⟩
      · exact Or.inr ⟨j, by omega, by omega, z⟩
  | .add l r, b, n, inn, br, f, q, h1, h2 => by
    have h2 : q < n + (sz l true + sz r true) := h2
    show _ ∨ ∃ j, n ≤ j ∧ j < n + (sz l true + sz r true) ∧ F 64 q = nI j
    by_cases hq : q < n + sz l true
    · rcases ar_rng l true n inn br f.1 q h1 hq with z | ⟨j, j1, j2, z⟩
      · exact Or.inl z
      · exact Or.inr ⟨j, j1, by omega, z⟩
    · rcases ar_rng r true (n + sz l true) inn br f.2 q (by omega) (by omega) with z | ⟨j, j1, j2, z⟩
      · exact Or.inl z
      · exact Or.inr ⟨j, by omega, by omega, z⟩
/-- every piece has its chain -/
theorem ch_all : ∀ (t : Tr) (b : Bool) (n : Nat) (inn br : Int32) (ks : List (Nat × Bool)), wf t b → Fl F t b n inn br → n + sz t b ≤ N → ch F N ks inn → ∀ q, n ≤ q → q < n + sz t b → ∃ ks', ch F N ks' (F 64 q)
  | .num _, b, n, inn, br, ks, hw, f, hn, c, q, h1, h2 => by
    have h2 : q < n + 1 := h2
    rw [show q = n by omega, f.2.2.1]
    exact ⟨ks, c⟩
  | .var _, b, n, inn, br, ks, hw, f, hn, c, q, h1, h2 => by
    have h2 : q < n + 1 := h2
    rw [show q = n by omega, f.2.2.1]
    exact ⟨ks, c⟩
  | .mulL x g, b, n, inn, br, ks, hw, f, hn, c, q, h1, h2 => by
    cases b with
    | true => exact ch_all g false n inn (nI x) ks hw.2 f hn c q h1 h2
    | false =>
      have h2 : q < n + (1 + sz g false) := h2
      have hn : n + (1 + sz g false) ≤ N := hn
      by_cases hq : q = n
      · rw [hq, f.1.2.2.1]
        exact ⟨ks, c⟩
      · exact ch_all g false (n + 1) (nI n) br ((n, false) :: ks) hw.2 f.2 (by omega) ⟨rfl, by omega, f.1.1, by rw [f.1.2.2.1]; exact c⟩ q (by omega) (by omega)
  | .mulR bs x, b, n, inn, br, ks, hw, f, hn, c, q, h1, h2 => by
    have h2 : q < n + (1 + sz bs true) := h2
    have hn : n + (1 + sz bs true) ≤ N := hn
    by_cases hq : q = n
    · rw [hq, f.1.2.2.2.1]
      exact ⟨ks, c⟩
    · exact ch_all bs true (n + 1) (nI n) br ((n, true) :: ks) hw.2.2.2 f.2 (by omega) ⟨rfl, by omega, f.1.1, by rw [f.1.2.2.2.1]; exact c⟩ q (by omega) (by omega)
  | .add l r, b, n, inn, br, ks, hw, f, hn, c, q, h1, h2 => by
    have h2 : q < n + (sz l true + sz r true) := h2
    have hn : n + (sz l true + sz r true) ≤ N := hn
    by_cases hq : q < n + sz l true
    · exact ch_all l true n inn br ks hw.2.1 f.1 (by omega) c q h1 hq
    · exact ch_all r true (n + sz l true) inn br ks hw.2.2 f.2 (by omega) c q (by omega) (by omega)
end PSD
