/-! Places in a part. -/
def lk : List (Nat × Nat) → Nat → Option Nat
  | [], _ => none
  | (y, k) :: E, x => if y = x then some k else lk E x
def WP : Tr → Bool → Prop
  | .num _, b => b = false
  | .var x, b => b = false ∧ isV x = true
  | .mulL k g, b => (if b = true then isL k = true else isV k = true) ∧ WP g false
  | .mulR bs k, b => b = false ∧ isR (k / 256) = true ∧ (k % 256 = 33 ∨ k % 256 = 63) ∧ WP bs true
  | .add l r, b => b = true ∧ WP l true ∧ WP r true
def noL (x : Nat) : Tr → Bool → Prop
  | .mulL y g, b => (b = false → y ≠ x) ∧ noL x g false
  | .mulR bs _, _ => noL x bs true
  | .add l r, _ => noL x l true ∧ noL x r true
  | _, _ => True
def ND : Tr → Bool → Prop
  | .mulL y g, b => (b = false → noL y g false) ∧ ND g false
  | .mulR bs _, _ => ND bs true
  | .add l r, _ => ND l true ∧ ND r true
  | _, _ => True
def hv : Tr → Bool
  | .var _ => true
  | .mulL _ g => hv g
  | _ => false
def GP : Tr → Bool → Prop
  | .mulL _ g, b => (b = false → hv g = false) ∧ GP g false
  | .mulR bs _, _ => GP bs true
  | .add l r, _ => GP l true ∧ GP r true
  | _, _ => True
def CL : Tr → Bool → List Nat → Prop
  | .var x, _, S => x ∈ S
  | .mulL y g, b, S => CL g false (if b = true then S else y :: S)
  | .mulR bs _, _, S => CL bs true S
  | .add l r, _, S => CL l true S ∧ CL r true S
  | _, _, _ => True
def Oc : Tr → Bool → Nat → List (Nat × Nat) → Tr → Nat → List (Nat × Nat) → Prop
  | .num n, _, o, E, s, p, e => s = .num n ∧ p = o ∧ e = E
  | .var x, _, o, E, s, p, e => s = .var x ∧ p = o ∧ e = E
  | .mulL x g, b, o, E, s, p, e => if b = true then Oc g false (o + 2) E s p e else (s = .mulL x g ∧ p = o ∧ e = E) ∨ Oc g false (o + 3) ((x, o) :: E) s p e
  | .mulR bs k, _, o, E, s, p, e => (s = .mulR bs k ∧ p = o ∧ e = E) ∨ Oc bs true (o + 3) E s p e
  | .add l r, _, o, E, s, p, e => Oc l true o E s p e ∨ Oc r true (o + (rn l true).length + 1) E s p e
def seg (T : List Nat) (o : Nat) (v : List Nat) : Prop := ∃ w, T.drop o = v ++ w
theorem seg_c {T : List Nat} {o c : Nat} {v : List Nat} (h : seg T o (c :: v)) : o < T.length ∧ T.getD o 0 = c ∧ seg T (o + 1) v := by
  obtain ⟨w, hw⟩ := h
  obtain ⟨h1, h2, h3⟩ := dr_c (c := c) (w := v ++ w) hw
  exact ⟨h1, h2, w, h3⟩
theorem seg_a {T : List Nat} {o : Nat} {u v : List Nat} (h : seg T o (u ++ v)) : seg T o u ∧ seg T (o + u.length) v := by
  obtain ⟨w, hw⟩ := h
  rw [List.append_assoc] at hw
  exact ⟨⟨v ++ w, hw⟩, w, dr_app hw⟩
theorem seg_len {T : List Nat} {o : Nat} {u : List Nat} (h : seg T o u) (hu : 0 < u.length) : o + u.length ≤ T.length := by
  obtain ⟨w, hw⟩ := h
  have := congrArg List.length hw
  rw [List.length_drop, List.length_append] at this
  omega
/-- the pieces of a rendering -/
theorem sg_L {T : List Nat} {o x : Nat} {g : Tr} (h : seg T o (rn (.mulL x g) false)) : o < T.length ∧ T.getD o 0 = 109 ∧ T.getD (o + 1) 0 = x ∧ T.getD (o + 2) 0 = 46 ∧ seg T (o + 3) (rn g false) := by
  have h : seg T o (109 :: x :: 46 :: rn g false) := h
  obtain ⟨a1, a2, a3⟩ := seg_c h
  obtain ⟨b1, b2, b3⟩ := seg_c a3
  obtain ⟨c1, c2, c3⟩ := seg_c b3
  exact ⟨a1, a2, b2, c2, c3⟩
theorem sg_B {T : List Nat} {o x : Nat} {g : Tr} (h : seg T o (rn (.mulL x g) true)) : T.getD o 0 = x ∧ T.getD (o + 1) 0 = 46 ∧ seg T (o + 2) (rn g false) := by
  have h : seg T o (x :: 46 :: rn g false) := h
  obtain ⟨a1, a2, a3⟩ := seg_c h
  obtain ⟨b1, b2, b3⟩ := seg_c a3
  exact ⟨a2, b2, b3⟩
theorem sg_M {T : List Nat} {o k : Nat} {bs : Tr} (h : seg T o (rn (.mulR bs k) false)) : T.getD o 0 = k / 256 ∧ T.getD (o + 1) 0 = k % 256 ∧ T.getD (o + 2) 0 = 123 ∧ seg T (o + 3) (rn bs true) ∧ T.getD (o + 3 + (rn bs true).length) 0 = 125 ∧ o + 3 + (rn bs true).length < T.length := by
  have h : seg T o (k / 256 :: k % 256 :: 123 :: (rn bs true ++ [125])) := h
  obtain ⟨a1, a2, a3⟩ := seg_c h
  obtain ⟨b1, b2, b3⟩ := seg_c a3
  obtain ⟨c1, c2, c3⟩ := seg_c b3
  obtain ⟨d1, d2⟩ := seg_a c3
  obtain ⟨e1, e2, -⟩ := seg_c d2
  exact ⟨a2, b2, c2, d1, e2, e1⟩
theorem sg_A {T : List Nat} {o : Nat} {l r : Tr} {b : Bool} (h : seg T o (rn (.add l r) b)) : seg T o (rn l true) ∧ T.getD (o + (rn l true).length) 0 = 44 ∧ seg T (o + (rn l true).length + 1) (rn r true) ∧ o + (rn l true).length < T.length := by
  have h : seg T o (rn l true ++ 44 :: rn r true) := h
  obtain ⟨d1, d2⟩ := seg_a h
  obtain ⟨e1, e2, e3⟩ := seg_c d2
  exact ⟨d1, e2, e3, e1⟩
theorem ln_L (x : Nat) (g : Tr) : (rn (.mulL x g) false).length = 3 + (rn g false).length := by simp [rn]; omega
theorem ln_B (x : Nat) (g : Tr) : (rn (.mulL x g) true).length = 2 + (rn g false).length := by simp [rn]; omega
theorem ln_M (k : Nat) (bs : Tr) (b : Bool) : (rn (.mulR bs k) b).length = 4 + (rn bs true).length := by simp [rn]; omega
theorem ln_A (l r : Tr) (b : Bool) : (rn (.add l r) b).length = (rn l true).length + 1 + (rn r true).length := by simp [rn]; omega
theorem rn_p : ∀ (t : Tr) (b : Bool), 0 < (rn t b).length
  | .num _, _ => Nat.one_pos
  | .var _, _ => Nat.one_pos
  | .mulL x g, b => by cases b <;> simp [rn]
  | .mulR _ _, _ => by rw [ln_M]; omega
  | .add _ _, _ => by rw [ln_A]; omega
theorem Oc_self : ∀ (s : Tr) (o : Nat) (E : List (Nat × Nat)), WP s false → Oc s false o E s o E
  | .num _, _, _, _ => ⟨rfl, rfl, rfl⟩
  | .var _, _, _, _ => ⟨rfl, rfl, rfl⟩
  | .mulL _ _, _, _, _ => Or.inl ⟨rfl, rfl, rfl⟩
  | .mulR _ _, _, _, _ => Or.inl ⟨rfl, rfl, rfl⟩
  | .add _ _, _, _, h => absurd h.1 (by decide)
theorem Oc_tr : ∀ (l : Tr) (b : Bool) (o : Nat) (E : List (Nat × Nat)) (m : Tr) (p : Nat) (e : List (Nat × Nat)) (s : Tr) (q : Nat) (e' : List (Nat × Nat)), Oc l b o E m p e → Oc m false p e s q e' → Oc l b o E s q e'
  | .num _, b, o, E, m, p, e, s, q, e', ⟨h1, h2, h3⟩, h => by subst h1 h2 h3; exact h
  | .var _, b, o, E, m, p, e, s, q, e', ⟨h1, h2, h3⟩, h => by subst h1 h2 h3; exact h
  | .mulL x g, b, o, E, m, p, e, s, q, e', h0, h => by
    cases b with
    | true => exact Oc_tr g false (o + 2) E m p e s q e' h0 h
    | false =>
      rcases h0 with ⟨h1, h2, h3⟩ | h0
      · subst h1 h2 h3; exact h
      · exact Or.inr (Oc_tr g false (o + 3) _ m p e s q e' h0 h)
  | .mulR bs k, b, o, E, m, p, e, s, q, e', h0, h => by
    rcases h0 with ⟨h1, h2, h3⟩ | h0
    · subst h1 h2 h3; exact h
    · exact Or.inr (Oc_tr bs true (o + 3) _ m p e s q e' h0 h)
  | .add l r, b, o, E, m, p, e, s, q, e', h0, h => by
    rcases h0 with h0 | h0
    · exact Or.inl (Oc_tr l true o E m p e s q e' h0 h)
    · exact Or.inr (Oc_tr r true _ E m p e s q e' h0 h)
/-- what holds of a part holds of its places -/
def OK4 (s : Tr) (b : Bool) (S : List Nat) : Prop := WP s b ∧ ND s b ∧ GP s b ∧ CL s b S
theorem Oc_ok {T : List Nat} : ∀ (l : Tr) (b : Bool) (o : Nat) (E : List (Nat × Nat)) (s : Tr) (p : Nat) (e : List (Nat × Nat)), OK4 l b (E.map Prod.fst) → seg T o (rn l b) → Oc l b o E s p e → OK4 s false (e.map Prod.fst) ∧ seg T p (rn s false)
  | .num _, b, o, E, s, p, e, k, g, ⟨h1, h2, h3⟩ => by
    subst h1 h2 h3
    have : b = false := k.1
    subst this
    exact ⟨k, g⟩
  | .var _, b, o, E, s, p, e, k, g, ⟨h1, h2, h3⟩ => by
    subst h1 h2 h3
    have : b = false := k.1.1
    subst this
    exact ⟨k, g⟩
  | .mulL x g, b, o, E, s, p, e, k, sg, h => by
    cases b with
    | true => exact Oc_ok g false (o + 2) E s p e ⟨k.1.2, k.2.1.2, k.2.2.1.2, k.2.2.2⟩ (sg_B sg).2.2 h
    | false =>
      rcases h with ⟨h1, h2, h3⟩ | h
      · subst h1 h2 h3
        exact ⟨k, sg⟩
      · exact Oc_ok g false (o + 3) ((x, o) :: E) s p e ⟨k.1.2, k.2.1.2, k.2.2.1.2, k.2.2.2⟩ (sg_L sg).2.2.2.2 h
  | .mulR bs x, b, o, E, s, p, e, k, sg, h => by
    have hb : b = false := k.1.1
    subst hb
    rcases h with ⟨h1, h2, h3⟩ | h
    · subst h1 h2 h3
      exact ⟨k, sg⟩
    · exact Oc_ok bs true (o + 3) E s p e ⟨k.1.2.2.2, k.2.1, k.2.2.1, k.2.2.2⟩ (sg_M sg).2.2.2.1 h
  | .add l r, b, o, E, s, p, e, k, sg, h => by
    rcases h with h | h
    · exact Oc_ok l true o E s p e ⟨k.1.2.1, k.2.1.1, k.2.2.1.1, k.2.2.2.1⟩ (sg_A sg).1 h
    · exact Oc_ok r true _ E s p e ⟨k.1.2.2, k.2.1.2, k.2.2.1.2, k.2.2.2.2⟩ (sg_A sg).2.2.1 h
/-- the loops around a place are there -/
theorem Oc_env : ∀ (l : Tr) (b : Bool) (o : Nat) (E : List (Nat × Nat)) (s : Tr) (p : Nat) (e : List (Nat × Nat)) (x k : Nat), Oc l b o E s p e → lk e x = some k → lk E x = some k ∨ ∃ g e', Oc l b o E (.mulL x g) k e'
  | .num _, b, o, E, s, p, e, x, k, ⟨h1, h2, h3⟩, h => by subst h3; exact Or.inl h
  | .var _, b, o, E, s, p, e, x, k, ⟨h1, h2, h3⟩, h => by subst h3; exact Or.inl h
  | .mulL y g, b, o, E, s, p, e, x, k, h0, h => by
    cases b with
    | true => exact Oc_env g false (o + 2) E s p e x k h0 h
    | false =>
      rcases h0 with ⟨h1, h2, h3⟩ | h0
      · subst h3; exact Or.inl h
      · rcases Oc_env g false (o + 3) ((y, o) :: E) s p e x k h0 h with z | ⟨g', e', z⟩
        · unfold lk at z
          by_cases hy : y = x
          · rw [if_pos hy] at z
            cases z
            exact Or.inr ⟨g, E, Or.inl ⟨by rw [hy], rfl, rfl⟩⟩
          · rw [if_neg hy] at z
            exact Or.inl z
        · exact Or.inr ⟨g', e', Or.inr z⟩
  | .mulR bs y, b, o, E, s, p, e, x, k, h0, h => by
    rcases h0 with ⟨h1, h2, h3⟩ | h0
    · subst h3; exact Or.inl h
    · rcases Oc_env bs true (o + 3) E s p e x k h0 h with z | ⟨g', e', z⟩
      · exact Or.inl z
      · exact Or.inr ⟨g', e', Or.inr z⟩
  | .add l r, b, o, E, s, p, e, x, k, h0, h => by
    rcases h0 with h0 | h0
    · rcases Oc_env l true o E s p e x k h0 h with z | ⟨g', e', z⟩
      · exact Or.inl z
      · exact Or.inr ⟨g', e', Or.inl z⟩
    · rcases Oc_env r true _ E s p e x k h0 h with z | ⟨g', e', z⟩
      · exact Or.inl z
      · exact Or.inr ⟨g', e', Or.inr z⟩
/-- the class's way to a loop: the last one with that variable -/
theorem lmm_s {T : List Nat} {x k : Nat} (h : ¬ (T.getD k 0 = 109 ∧ T.getD (k + 1) 0 = x)) : lmm T x (k + 1) = lmm T x k := by
  rw [lmm, if_neg h]
theorem lmm_seg {T : List Nat} {x : Nat} : ∀ (l : Tr) (b : Bool) (o : Nat), WP l b → noL x l b → seg T o (rn l b) → lmm T x (o + (rn l b).length) = lmm T x o
  | .num _, b, o, hw, hn, sg => by
    obtain ⟨-, h1, -⟩ := seg_c (c := 101) (v := []) sg
    exact lmm_s (fun z => by omega)
  | .var y, b, o, hw, hn, sg => by
    obtain ⟨-, h1, -⟩ := seg_c (c := y) (v := []) sg
    have := isV_b hw.2
    exact lmm_s (fun z => by omega)
  | .mulL y g, b, o, hw, hn, sg => by
    cases b with
    | true =>
      obtain ⟨h1, h2, h3⟩ := sg_B sg
      have := isL_b hw.1
      rw [ln_B, ← Nat.add_assoc, lmm_seg g false (o + 2) hw.2 hn.2 h3, lmm_s (k := o + 1) (fun z => by omega), lmm_s (fun z => by omega)]
    | false =>
      obtain ⟨-, h1, h2, h4, h3⟩ := sg_L sg
      have := isV_b hw.1
      have hne := hn.1 rfl
      rw [ln_L, ← Nat.add_assoc, lmm_seg g false (o + 3) hw.2 hn.2 h3, lmm_s (k := o + 2) (fun z => by omega), lmm_s (k := o + 1) (fun z => by omega), lmm_s (fun z => by omega)]
  | .mulR bs y, b, o, hw, hn, sg => by
    have hb : b = false := hw.1
    subst hb
    obtain ⟨h1, h2, h3, h4, h5, -⟩ := sg_M sg
    have := isR_b hw.2.1
    have := hw.2.2.1
    rw [ln_M, show o + (4 + (rn bs true).length) = (o + 3 + (rn bs true).length) + 1 by omega, lmm_s (fun z => by omega), lmm_seg bs true (o + 3) hw.2.2.2 hn h4, lmm_s (k := o + 2) (fun z => by omega), lmm_s (k := o + 1) (fun z => by omega), lmm_s (fun z => by omega)]
  | .add l r, b, o, hw, hn, sg => by
    obtain ⟨h1, h2, h3, -⟩ := sg_A sg
    rw [ln_A, show o + ((rn l true).length + 1 + (rn r true).length) = (o + (rn l true).length + 1) + (rn r true).length by omega, lmm_seg r true _ hw.2.2 hn.2 h3, lmm_s (fun z => by omega), lmm_seg l true o hw.2.1 hn.1 h1]
theorem Oc_lmm {T : List Nat} : ∀ (l : Tr) (b : Bool) (o : Nat) (E : List (Nat × Nat)) (s : Tr) (p : Nat) (e : List (Nat × Nat)), WP l b → ND l b → seg T o (rn l b) → (∀ x k, lk E x = some k → lmm T x o = some (k + 3) ∧ noL x l b) → Oc l b o E s p e → ∀ x k, lk e x = some k → lmm T x p = some (k + 3)
  | .num _, b, o, E, s, p, e, hw, hd, sg, H, ⟨h1, h2, h3⟩, x, k, hx => by subst h2 h3; exact (H x k hx).1
  | .var _, b, o, E, s, p, e, hw, hd, sg, H, ⟨h1, h2, h3⟩, x, k, hx => by subst h2 h3; exact (H x k hx).1
  | .mulL y g, b, o, E, s, p, e, hw, hd, sg, H, h, x, k, hx => by
    cases b with
    | true =>
      obtain ⟨h1, h2, h3⟩ := sg_B sg
      have := isL_b hw.1
      refine Oc_lmm g false (o + 2) E s p e hw.2 hd.2 h3 (fun x k hk => ⟨?_, (H x k hk).2.2⟩) h x k hx
      rw [lmm_s (k := o + 1) (fun z => by omega), lmm_s (fun z => by omega)]
      exact (H x k hk).1
    | false =>
      rcases h with ⟨h1, h2, h3⟩ | h
      · subst h2 h3; exact (H x k hx).1
      · obtain ⟨-, h1, h2, h4, h3⟩ := sg_L sg
        have := isV_b hw.1
        refine Oc_lmm g false (o + 3) ((y, o) :: E) s p e hw.2 hd.2 h3 (fun x k hk => ?_) h x k hx
        rw [lmm_s (k := o + 2) (fun z => by omega), lmm_s (k := o + 1) (fun z => by omega)]
        unfold lk at hk
        by_cases hy : y = x
        · rw [if_pos hy] at hk
          cases hk
          refine ⟨?_, by rw [← hy]; exact hd.1 rfl⟩
          rw [lmm, if_pos ⟨h1, h2.trans hy⟩]
        · rw [if_neg hy] at hk
          refine ⟨?_, (H x k hk).2.2⟩
          rw [lmm_s (fun z => by omega)]
          exact (H x k hk).1
  | .mulR bs y, b, o, E, s, p, e, hw, hd, sg, H, h, x, k, hx => by
    have hb : b = false := hw.1
    subst hb
    rcases h with ⟨h1, h2, h3⟩ | h
    · subst h2 h3; exact (H x k hx).1
    · obtain ⟨h1, h2, h3, h4, h5, -⟩ := sg_M sg
      have := isR_b hw.2.1
      have := hw.2.2.1
      refine Oc_lmm bs true (o + 3) E s p e hw.2.2.2 hd h4 (fun x k hk => ⟨?_, (H x k hk).2⟩) h x k hx
      rw [lmm_s (k := o + 2) (fun z => by omega), lmm_s (k := o + 1) (fun z => by omega), lmm_s (fun z => by omega)]
      exact (H x k hk).1
  | .add l r, b, o, E, s, p, e, hw, hd, sg, H, h, x, k, hx => by
    obtain ⟨h1, h2, h3, -⟩ := sg_A sg
    rcases h with h | h
    · exact Oc_lmm l true o E s p e hw.2.1 hd.1 h1 (fun x k hk => ⟨(H x k hk).1, (H x k hk).2.1⟩) h x k hx
    · refine Oc_lmm r true _ E s p e hw.2.2 hd.2 h3 (fun x k hk => ⟨?_, (H x k hk).2.2⟩) h x k hx
      rw [lmm_s (fun z => by omega), lmm_seg l true o hw.2.1 (H x k hk).2.1 h1]
      exact (H x k hk).1
