/-! The labels of a message: apart where they differ. -/
def chs : Tr → Nat → List (Nat × Nat)
  | .mulL k _, m => [(m, k)]
  | .add l r, m => chs l m ++ chs r (m + sz l true)
  | _, _ => []
theorem chs_lbs : ∀ t m, (chs t m).map Prod.snd = lbs t
  | .num _, _ => rfl
  | .var _, _ => rfl
  | .mulL _ _, _ => rfl
  | .mulR _ _, _ => rfl
  | .add l r, m => by
    show (chs l m ++ chs r (m + sz l true)).map Prod.snd = lbs l ++ lbs r
    rw [List.map_append, chs_lbs l, chs_lbs r]
theorem chs_rng : ∀ t m, ∀ a ∈ chs t m, m ≤ a.1 ∧ a.1 < m + sz t true
  | .num _, _, a, h => by cases h
  | .var _, _, a, h => by cases h
  | .mulL k g, m, a, h => by
    rw [show chs (.mulL k g) m = [(m, k)] from rfl, List.mem_singleton] at h
    subst h
    have := sz_pos g false
    show m ≤ m ∧ m < m + sz g false
    omega
  | .mulR _ _, _, a, h => by cases h
  | .add l r, m, a, h => by
    rw [show chs (.add l r) m = chs l m ++ chs r (m + sz l true) from rfl, List.mem_append] at h
    show m ≤ a.1 ∧ a.1 < m + (sz l true + sz r true)
    rcases h with h | h
    · have := chs_rng l m a h
      omega
    · have := chs_rng r _ a h
      omega
theorem chs_pw : ∀ t m, (chs t m).Pairwise (fun a b => a.1 < b.1)
  | .num _, _ => List.Pairwise.nil
  | .var _, _ => List.Pairwise.nil
  | .mulL k g, m => List.pairwise_singleton _ _
  | .mulR _ _, _ => List.Pairwise.nil
  | .add l r, m => by
    show (chs l m ++ chs r (m + sz l true)).Pairwise _
    rw [List.pairwise_append]
    refine ⟨chs_pw l m, chs_pw r _, fun a ha b hb => ?_⟩
    have h1 := chs_rng l m a ha
    have h2 := chs_rng r _ b hb
    omega
theorem pw_ne {l : List (Nat × Nat)} (h : l.Pairwise (fun a b => a.2 ≠ b.2)) : ∀ a ∈ l, ∀ b ∈ l, a.1 ≠ b.1 → a.2 ≠ b.2 := by
  induction h with
  | nil => intro a ha; cases ha
  | @cons x l hx _ ih =>
    intro a ha b hb hab
    rcases List.mem_cons.mp ha with e1 | e1
    · rcases List.mem_cons.mp hb with e2 | e2
      · exact absurd (by rw [e1, e2]) hab
      · rw [e1]; exact hx b e2
    · rcases List.mem_cons.mp hb with e2 | e2
      · rw [e2]; exact fun z => hx a e1 z.symm
      · exact ih a e1 b e2 hab
section PLB
variable {F : Nat → Nat → Int32} {N : Nat}
/-- the pieces right under a message -/
theorem chs_iff (hN : N ≤ 60) : ∀ (t : Tr) (m : Nat) (n : Nat) (br : Int32), wf t true → Fl F t true m (nI n) br → n < m → m + sz t true ≤ N → (∀ q, m ≤ q → q < m + sz t true → F 64 q = nI n → ∃ k, (q, k) ∈ chs t m) ∧ ∀ a ∈ chs t m, F 64 a.1 = nI n ∧ F 65 a.1 = nI a.2
  | .num _, _, _, _, hw, _, _, _ => absurd hw.1 (by decide)
  | .var _, _, _, _, hw, _, _, _ => absurd hw.1 (by decide)
  | .mulL k g, m, n, br, hw, f, hnm, hm => by
    have f : Fl F g false m (nI n) (nI k) := f
    have hm : m + sz g false ≤ N := hm
    have root : F 64 m = nI n ∧ F 65 m = nI k := by
      cases g with
      | num _ => exact ⟨f.2.2.1, f.2.2.2⟩
      | var _ => exact ⟨f.2.2.1, f.2.2.2⟩
      | mulL _ _ => exact ⟨f.1.2.2.1, f.1.2.2.2⟩
      | mulR _ _ => exact ⟨f.1.2.2.2.1, f.1.2.2.2.2⟩
      | add _ _ => exact absurd hw.2.1 (by decide)
    refine ⟨fun q h1 h2 h3 => ?_, fun a ha => ?_⟩
    · have h2 : q < m + sz g false := h2
      refine ⟨k, ?_⟩
      show (q, k) ∈ [(m, k)]
      by_cases hq : q = m
      · rw [hq]; simp
      · exfalso
        have key : ∃ j, m ≤ j ∧ j < m + sz g false ∧ F 64 q = nI j := by
          cases g with
          | num _ =>
            have h2 : q < m + 1 := h2
            omega
          | var _ =>
            have h2 : q < m + 1 := h2
            omega
          | mulL x g' =>
            have h2 : q < m + (1 + sz g' false) := h2
            show ∃ j, m ≤ j ∧ j < m + (1 + sz g' false) ∧ F 64 q = nI j
            rcases ar_rng g' false (m + 1) (nI m) _ f.2 q (by omega) (by omega) with z | ⟨j, j1, j2, z⟩
            · exact ⟨m, by omega, by omega, z⟩
            · exact ⟨j, by omega, by omega, z⟩
          | mulR bs x =>
            have h2 : q < m + (1 + sz bs true) := h2
            show ∃ j, m ≤ j ∧ j < m + (1 + sz bs true) ∧ F 64 q = nI j
            rcases ar_rng bs true (m + 1) (nI m) _ f.2 q (by omega) (by omega) with z | ⟨j, j1, j2, z⟩
            · exact ⟨m, by omega, by omega, z⟩
            · exact ⟨j, by omega, by omega, z⟩
          | add _ _ => exact absurd hw.2.1 (by decide)
        obtain ⟨j, j1, j2, z⟩ := key
        have := (nI_eq (by omega) (by omega)).mp (z.symm.trans h3)
        omega
    · rw [show chs (.mulL k g) m = [(m, k)] from rfl, List.mem_singleton] at ha
      subst ha
      exact root
  | .mulR _ _, _, _, _, hw, _, _, _ => absurd hw.1 (by decide)
  | .add l r, m, n, br, hw, f, hnm, hm => by
    have hm : m + (sz l true + sz r true) ≤ N := hm
    obtain ⟨a1, a2⟩ := chs_iff hN l m n br hw.2.1 f.1 hnm (by omega)
    obtain ⟨b1, b2⟩ := chs_iff hN r (m + sz l true) n br hw.2.2 f.2 (by omega) (by omega)
    refine ⟨fun q h1 h2 h3 => ?_, fun a ha => ?_⟩
    · have h2 : q < m + (sz l true + sz r true) := h2
      show ∃ k, (q, k) ∈ chs l m ++ chs r (m + sz l true)
      by_cases hq : q < m + sz l true
      · obtain ⟨k, hk⟩ := a1 q h1 hq h3
        exact ⟨k, List.mem_append_left _ hk⟩
      · obtain ⟨k, hk⟩ := b1 q (by omega) (by omega) h3
        exact ⟨k, List.mem_append_right _ hk⟩
    · rw [show chs (.add l r) m = chs l m ++ chs r (m + sz l true) from rfl, List.mem_append] at ha
      exact ha.elim (a2 a) (b2 a)
/-- nothing outside lies under a piece of the tree -/
def OUT (F : Nat → Nat → Int32) (N n m : Nat) : Prop := ∀ q, q < N → (q < n ∨ m ≤ q) → ∀ j, n ≤ j → j < m → F 64 q ≠ nI j
def PA (F : Nat → Nat → Int32) (N n m : Nat) : Prop := ∀ k, k < N → ∀ j, n ≤ j → j < m → F 64 k = nI j → F 61 j = 3 → aptB F k N 0 = true
theorem PA_split {n a b : Nat} : PA F N n (n + (a + b)) ↔ PA F N n (n + a) ∧ PA F N (n + a) (n + a + b) := by
  refine ⟨fun z => ⟨fun k hk j h1 h2 => z k hk j h1 (by omega), fun k hk j h1 h2 => z k hk j (by omega) (by omega)⟩, fun z k hk j h1 h2 => ?_⟩
  by_cases hj : j < n + a
  · exact z.1 k hk j h1 hj
  · exact z.2 k hk j (by omega) (by omega)
theorem PA_no {n : Nat} (h : F 61 n ≠ 3) : PA F N n (n + 1) := fun k _ j h1 h2 _ h4 => absurd (by rw [← show j = n by omega]; exact h4) h
theorem pa_ul (hN : N ≤ 60) : ∀ (t : Tr) (b : Bool) (n : Nat) (inn br : Int32), wf t b → Fl F t b n inn br → n + sz t b ≤ N → (∀ j, n ≤ j → j < N → inn ≠ nI j) → OUT F N n (n + sz t b) → (PA F N n (n + sz t b) ↔ ul t)
  | .num x, b, n, inn, br, hw, f, hn, hi, ho => ⟨fun _ => trivial, fun _ => PA_no (by rw [f.1]; decide)⟩
  | .var x, b, n, inn, br, hw, f, hn, hi, ho => ⟨fun _ => trivial, fun _ => PA_no (by rw [f.1]; decide)⟩
  | .mulL x g, b, n, inn, br, hw, f, hn, hi, ho => by
    cases b with
    | true => exact pa_ul hN g false n inn (nI x) hw.2 f hn hi ho
    | false =>
      have hn : n + (1 + sz g false) ≤ N := hn
      have ih := pa_ul hN g false (n + 1) (nI n) br hw.2 f.2 (by omega) (fun j h1 h2 z => by have := (nI_eq (by omega) (by omega)).mp z; omega) (fun q h1 h2 j h3 h4 => by
        by_cases hq : q = n
        · rw [hq, f.1.2.2.1]
          exact hi j (by omega) (by omega)
        · exact ho q h1 (by show q < n ∨ n + (1 + sz g false) ≤ q; omega) j (by omega) (by show j < n + (1 + sz g false); omega))
      show PA F N n (n + (1 + sz g false)) ↔ ul g
      rw [PA_split, ih]
      exact ⟨fun z => z.2, fun z => ⟨PA_no (by rw [f.1.1]; decide), z⟩⟩
  | .mulR bs x, b, n, inn, br, hw, f, hn, hi, ho => by
    have hn : n + (1 + sz bs true) ≤ N := hn
    have ih := pa_ul hN bs true (n + 1) (nI n) br hw.2.2.2 f.2 (by omega) (fun j h1 h2 z => by have := (nI_eq (by omega) (by omega)).mp z; omega) (fun q h1 h2 j h3 h4 => by
      by_cases hq : q = n
      · rw [hq, f.1.2.2.2.1]
        exact hi j (by omega) (by omega)
      · exact ho q h1 (by show q < n ∨ n + (1 + sz bs true) ≤ q; omega) j (by omega) (by show j < n + (1 + sz bs true); omega))
    show PA F N n (n + (1 + sz bs true)) ↔ (lbs bs).Nodup ∧ ul bs
    rw [PA_split, ih]
    refine and_congr ?_ Iff.rfl
    obtain ⟨c1, c2⟩ := chs_iff hN bs (n + 1) n br hw.2.2.2 f.2 (by omega) (by omega)
    have inside : ∀ q, q < N → F 64 q = nI n → n + 1 ≤ q ∧ q < n + 1 + sz bs true := by
      intro q h1 h2
      apply Decidable.byContradiction
      intro h3
      by_cases hq : q = n
      · rw [hq, f.1.2.2.2.1] at h2
        exact hi n (Nat.le_refl _) (by omega) h2
      · exact ho q h1 (by show q < n ∨ n + (1 + sz bs true) ≤ q; omega) n (Nat.le_refl _) (by show n < n + (1 + sz bs true); omega) h2
    have hmap : (lbs bs).Nodup ↔ (chs bs (n + 1)).Pairwise (fun a b => a.2 ≠ b.2) := by
      rw [← chs_lbs bs (n + 1)]
      exact List.pairwise_map
    rw [hmap]
    constructor
    · intro z
      refine List.Pairwise.imp_of_mem (fun {a b} ha hb hab h2 => ?_) (chs_pw bs (n + 1))
      have ra := chs_rng bs (n + 1) a ha
      have rb := chs_rng bs (n + 1) b hb
      have fa := c2 a ha
      have fb := c2 b hb
      have := (aptB_iff F a.1 N 0).mp (z a.1 (by omega) n (Nat.le_refl _) (by omega) fa.1 f.1.1) b.1 (Nat.zero_le _) (by omega) (by omega) (fb.1.trans fa.1.symm)
      exact this (by rw [fa.2, fb.2, h2])
    · intro z k hk j h1 h2 h3 h4
      have : j = n := by omega
      subst this
      obtain ⟨i1, i2⟩ := inside k hk h3
      obtain ⟨lk, hlk⟩ := c1 k i1 i2 h3
      rw [aptB_iff]
      intro i _ hiN hik h5 h6
      have h7 := h5.trans h3
      obtain ⟨i3, i4⟩ := inside i (by omega) h7
      obtain ⟨li, hli⟩ := c1 i i3 i4 h7
      have fk := c2 _ hlk
      have fi := c2 _ hli
      have b1 : ∀ a ∈ chs bs (j + 1), a.2 < 200 := fun a ha => by
        have hm : a.2 ∈ lbs bs := by rw [← chs_lbs bs (j + 1)]; exact List.mem_map_of_mem ha
        have := isL_b (lbs_L bs hw.2.2.2 _ hm)
        omega
      have hb1 := b1 _ hlk
      have hb2 := b1 _ hli
      refine pw_ne z _ hli _ hlk hik ?_
      exact (nI_eq (by omega) (by omega)).mp (fi.2.symm.trans (h6.trans fk.2))
  | .add l r, b, n, inn, br, hw, f, hn, hi, ho => by
    have hn : n + (sz l true + sz r true) ≤ N := hn
    have e : ∀ q j, ¬ (q < n ∨ n + (sz l true + sz r true) ≤ q) ∨ (q < N → n ≤ j → j < n + (sz l true + sz r true) → F 64 q ≠ nI j) := fun q j => by
      by_cases hq : q < n ∨ n + (sz l true + sz r true) ≤ q
      · exact Or.inr (fun h0 h1 h2 => ho q h0 hq j h1 h2)
      · exact Or.inl hq
    have ih1 := pa_ul hN l true n inn br hw.2.1 f.1 (by omega) hi (fun q h1 h2 j h3 h4 => by
      rcases e q j with z | z
      · rcases ar_rng r true (n + sz l true) inn br f.2 q (by omega) (by omega) with y | ⟨i, i1, i2, y⟩
        · rw [y]
          exact hi j h3 (by omega)
        · rw [y]
          intro w
          have := (nI_eq (by omega) (by omega)).mp w
          omega
      · exact z h1 h3 (by omega))
    have ih2 := pa_ul hN r true (n + sz l true) inn br hw.2.2 f.2 (by omega) (fun j h1 h2 => hi j (by omega) h2) (fun q h1 h2 j h3 h4 => by
      rcases e q j with z | z
      · rcases ar_rng l true n inn br f.1 q (by omega) (by omega) with y | ⟨i, i1, i2, y⟩
        · rw [y]
          exact hi j (by omega) (by omega)
        · rw [y]
          intro w
          have := (nI_eq (by omega) (by omega)).mp w
          omega
      · exact z h1 (by omega) (by omega))
    show PA F N n (n + (sz l true + sz r true)) ↔ ul l ∧ ul r
    rw [PA_split, ih1, ih2]
where
  lbs_L : ∀ t, wf t true → ∀ x ∈ lbs t, isL x = true
  | .num _, h, _, _ => absurd h.1 (by decide)
  | .var _, h, _, _ => absurd h.1 (by decide)
  | .mulL k g, h, x, hx => by
    rw [show lbs (.mulL k g) = [k] from rfl, List.mem_singleton] at hx
    rw [hx]
    exact h.1
  | .mulR _ _, h, _, _ => absurd h.1 (by decide)
  | .add l r, h, x, hx => by
    rw [show lbs (.add l r) = lbs l ++ lbs r from rfl, List.mem_append] at hx
    exact hx.elim (lbs_L l h.2.1 x) (lbs_L r h.2.2 x)
/-- both sides -/
theorem ps_sound {t : Tr} (hw : wf t false) (hN : sz t false ≤ 60) (f : Fl F t false 0 (-1) 0) : (∀ i, i < sz t false → okA F (sz t false) i ∧ okB F (sz t false) i) ↔ (sd t false 0 0 0).1 = true := by
  have h1 := (ps_all hN t).1 hw 0 (-1) 0 [] 0 0 0 f (by omega) rfl (fun x _ => by simp [sng]) (fun x _ => by simp [bnd])
  have h2 := pa_ul hN t false 0 (-1) 0 hw f (by omega) (fun j _ hj z => nI_m1 (show j < 2 ^ 31 by omega) z.symm) (fun q hq h => by omega)
  rw [Nat.zero_add] at h1 h2
  rw [h1, ← h2]
  refine ⟨fun z => ⟨fun k _ hk => (z k hk).1, fun k hk j _ hj h3 h4 => (z k hk).2 j hj h3 h4⟩, fun z i hi => ⟨z.1 i (Nat.zero_le _) hi, fun j hj h3 h4 => z.2 i hi j (Nat.zero_le _) hj h3 h4⟩⟩
end PLB
