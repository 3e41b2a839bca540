/-! Both ways of settling lead to the same place. -/
theorem lof_n {T : List Nat} {v k : Nat} {ins : Int32} {bes : Bool} (h1 : T.getD k 0 ≠ 125) (h2 : T.getD k 0 ≠ 123) (h3 : T.getD k 0 ≠ 44) (h4 : T.getD k 0 ≠ 109) : lof T v (k + 1) ins bes = lof T v k ins bes := by
  rw [lof, if_neg h1, if_neg (fun z => h2 z.1), if_neg h2, if_neg (fun z => h3 z.1), if_neg (fun z => h4 z.1)]
theorem lof_m {T : List Nat} {v k : Nat} {ins : Int32} {bes : Bool} (h : T.getD k 0 = 109) (h2 : ¬ (ins = 0 ∧ bes = false ∧ T.getD (k + 1) 0 = v)) : lof T v (k + 1) ins bes = lof T v k ins bes := by
  rw [lof, if_neg (by omega), if_neg (fun z => by omega), if_neg (by omega), if_neg (fun z => by omega), if_neg (fun z => h2 z.2)]
theorem lof_c {T : List Nat} {v k : Nat} {ins : Int32} {bes : Bool} (h : T.getD k 0 = 44) : lof T v (k + 1) ins bes = lof T v k ins (if ins = 0 then true else bes) := by
  rw [lof, if_neg (by omega), if_neg (fun z => by omega), if_neg (by omega)]
  by_cases hi : ins = 0
  · rw [if_pos ⟨h, hi⟩, if_pos hi]
  · rw [if_neg (fun z => hi z.2), if_neg (fun z => by omega), if_neg hi]
theorem nI_le0 {i : Nat} (h : i < 2 ^ 31) : nI i ≤ 0 ↔ i = 0 := by
  have := nI_leI (a := i) (b := 0) h (by decide)
  rw [show (0 : Int32) = nI 0 from rfl, this]
  omega
theorem nI_z {i : Nat} (h : i < 2 ^ 31) : nI i = 0 ↔ i = 0 := nI_eq (b := 0) h (by decide)
theorem lof_seg {T : List Nat} {v : Nat} : ∀ (l : Tr) (b : Bool) (o i : Nat) (bes : Bool), WP l b → seg T o (rn l b) → i + (rn l b).length ≤ 1000 → (0 < i ∨ bes = true) → lof T v (o + (rn l b).length) (nI i) bes = lof T v o (nI i) bes
  | .num _, b, o, i, bes, hw, sg, hi, hp => by
    obtain ⟨-, h1, -⟩ := seg_c (c := 101) (v := []) sg
    exact lof_n (by omega) (by omega) (by omega) (by omega)
  | .var y, b, o, i, bes, hw, sg, hi, hp => by
    obtain ⟨-, h1, -⟩ := seg_c (c := y) (v := []) sg
    have := isV_b hw.2
    exact lof_n (by omega) (by omega) (by omega) (by omega)
  | .mulL y g, b, o, i, bes, hw, sg, hi, hp => by
    cases b with
    | true =>
      obtain ⟨h1, h2, h3⟩ := sg_B sg
      have := isL_b hw.1
      rw [ln_B] at hi
      rw [ln_B, ← Nat.add_assoc, lof_seg g false (o + 2) i bes hw.2 h3 (by omega) hp, lof_n (k := o + 1) (by omega) (by omega) (by omega) (by omega), lof_n (by omega) (by omega) (by omega) (by omega)]
    | false =>
      obtain ⟨-, h1, h2, h4, h3⟩ := sg_L sg
      have := isV_b hw.1
      rw [ln_L] at hi
      rw [ln_L, ← Nat.add_assoc, lof_seg g false (o + 3) i bes hw.2 h3 (by omega) hp, lof_n (k := o + 2) (by omega) (by omega) (by omega) (by omega), lof_n (k := o + 1) (by omega) (by omega) (by omega) (by omega), lof_m h1 (fun z => by
        rcases hp with hp | hp
        · have := (nI_z (by omega)).mp z.1
          omega
        · rw [hp] at z
          cases z.2.1)]
  | .mulR bs y, b, o, i, bes, hw, sg, hi, hp => by
    have hb : b = false := hw.1
    subst hb
    obtain ⟨h1, h2, h3, h4, h5, -⟩ := sg_M sg
    have := isR_b hw.2.1
    have := hw.2.2.1
    rw [ln_M] at hi
    rw [ln_M, show o + (4 + (rn bs true).length) = (o + 3 + (rn bs true).length) + 1 by omega, lof, if_pos h5, nI_1, lof_seg bs true (o + 3) (i + 1) bes hw.2.2.2 h4 (by omega) (Or.inl (by omega)), lof, if_neg (by omega), if_pos ⟨h3, fun z => by have := (nI_le0 (by omega)).mp z; omega⟩, ← Int32.sub_eq_add_neg, nI_pred, lof_n (k := o + 1) (by omega) (by omega) (by omega) (by omega), lof_n (by omega) (by omega) (by omega) (by omega)]
  | .add l r, b, o, i, bes, hw, sg, hi, hp => by
    obtain ⟨h1, h2, h3, -⟩ := sg_A sg
    rw [ln_A] at hi
    rw [ln_A, show o + ((rn l true).length + 1 + (rn r true).length) = (o + (rn l true).length + 1) + (rn r true).length by omega, lof_seg r true _ i bes hw.2.2 h3 (by omega) hp, lof_c h2]
    have hbes : (if nI i = 0 then true else bes) = bes := by
      split
      · next z =>
        have := (nI_z (by omega)).mp z
        rcases hp with hp | hp
        · omega
        · exact hp.symm
      · rfl
    rw [hbes, lof_seg l true o i bes hw.2.1 h1 (by omega) hp]
/-- the reference's way to a loop: the one around -/
theorem Oc_lof {T : List Nat} : ∀ (l : Tr) (b : Bool) (o : Nat) (E : List (Nat × Nat)) (s : Tr) (p : Nat) (e : List (Nat × Nat)), WP l b → seg T o (rn l b) → (rn l b).length ≤ 900 → (∀ x k, lk E x = some k → ∀ bes, (bes = true → b = true) → lof T x o 0 bes = k) → Oc l b o E s p e → ∀ x k, lk e x = some k → lof T x p 0 false = k
  | .num _, b, o, E, s, p, e, hw, sg, hl, H, ⟨h1, h2, h3⟩, x, k, hx => by subst h2 h3; exact H x k hx false (fun z => by cases z)
  | .var _, b, o, E, s, p, e, hw, sg, hl, H, ⟨h1, h2, h3⟩, x, k, hx => by subst h2 h3; exact H x k hx false (fun z => by cases z)
  | .mulL y g, b, o, E, s, p, e, hw, sg, hl, H, h, x, k, hx => by
    cases b with
    | true =>
      obtain ⟨h1, h2, h3⟩ := sg_B sg
      have := isL_b hw.1
      rw [ln_B] at hl
      refine Oc_lof g false (o + 2) E s p e hw.2 h3 (by omega) (fun x k hk bes hb => ?_) h x k hx
      rw [lof_n (k := o + 1) (by omega) (by omega) (by omega) (by omega), lof_n (by omega) (by omega) (by omega) (by omega)]
      exact H x k hk bes (fun _ => rfl)
    | false =>
      rcases h with ⟨h1, h2, h3⟩ | h
      · subst h2 h3; exact H x k hx false (fun z => by cases z)
      · obtain ⟨-, h1, h2, h4, h3⟩ := sg_L sg
        have := isV_b hw.1
        rw [ln_L] at hl
        refine Oc_lof g false (o + 3) ((y, o) :: E) s p e hw.2 h3 (by omega) (fun x k hk bes hb => ?_) h x k hx
        have hbf : bes = false := by
          cases bes with
          | false => rfl
          | true => cases hb rfl
        subst hbf
        rw [lof_n (k := o + 2) (by omega) (by omega) (by omega) (by omega), lof_n (k := o + 1) (by omega) (by omega) (by omega) (by omega)]
        unfold lk at hk
        by_cases hy : y = x
        · rw [if_pos hy] at hk
          cases hk
          rw [lof, if_neg (by omega), if_neg (fun z => by omega), if_neg (by omega), if_neg (fun z => by omega), if_pos ⟨h1, rfl, rfl, h2.trans hy⟩]
        · rw [if_neg hy] at hk
          rw [lof_m h1 (fun z => hy (h2.symm.trans z.2.2))]
          exact H x k hk false (fun z => by cases z)
  | .mulR bs y, b, o, E, s, p, e, hw, sg, hl, H, h, x, k, hx => by
    have hb : b = false := hw.1
    subst hb
    rcases h with ⟨h1, h2, h3⟩ | h
    · subst h2 h3; exact H x k hx false (fun z => by cases z)
    · obtain ⟨h1, h2, h3, h4, h5, -⟩ := sg_M sg
      have := isR_b hw.2.1
      have := hw.2.2.1
      rw [ln_M] at hl
      refine Oc_lof bs true (o + 3) E s p e hw.2.2.2 h4 (by omega) (fun x k hk bes _ => ?_) h x k hx
      rw [lof, if_neg (by omega), if_neg (fun z => z.2 (by decide)), if_pos h3, lof_n (k := o + 1) (by omega) (by omega) (by omega) (by omega), lof_n (by omega) (by omega) (by omega) (by omega)]
      exact H x k hk false (fun z => by cases z)
  | .add l r, b, o, E, s, p, e, hw, sg, hl, H, h, x, k, hx => by
    have hb : b = true := hw.1
    subst hb
    obtain ⟨h1, h2, h3, -⟩ := sg_A sg
    rw [ln_A] at hl
    rcases h with h | h
    · exact Oc_lof l true o E s p e hw.2.1 h1 (by omega) H h x k hx
    · refine Oc_lof r true _ E s p e hw.2.2 h3 (by omega) (fun x k hk bes _ => ?_) h x k hx
      rw [lof_c h2, if_pos rfl]
      have := lof_seg (T := T) (v := x) l true o 0 true hw.2.1 h1 (by omega) (Or.inr rfl)
      rw [show (nI 0) = 0 from rfl] at this
      rw [this]
      exact H x k hk true (fun _ => rfl)
/-- leading loops; what comes then -/
def ll : Tr → Nat
  | .mulL _ g => ll g + 1
  | _ => 0
def cor : Tr → Tr
  | .mulL _ g => cor g
  | t => t
theorem ll_le : ∀ t, 3 * ll t < (rn t false).length
  | .num _ => by simp [ll, rn]
  | .var _ => by simp [ll, rn]
  | .mulL x g => by
    have := ll_le g
    rw [ln_L]
    unfold ll
    omega
  | .mulR bs x => by simp [ll, rn]
  | .add l r => by rw [ln_A]; unfold ll; omega
/-- at an end or a message -/
def isC : Tr → Prop
  | .num _ => True
  | .mulR _ _ => True
  | _ => False
theorem cor_C : ∀ t, WP t false → hv t = false → isC (cor t)
  | .num _, _, _ => trivial
  | .var _, _, h => by cases h
  | .mulL _ g, hw, h => cor_C g hw.2 h
  | .mulR _ _, _, _ => trivial
  | .add _ _, h, _ => absurd h.1 (by decide)
theorem Oc_cor {l : Tr} {b : Bool} {o : Nat} {E : List (Nat × Nat)} : ∀ (s : Tr) (p : Nat) (e : List (Nat × Nat)), WP s false → Oc l b o E s p e → ∃ e', Oc l b o E (cor s) (p + 3 * ll s) e'
  | .num _, p, e, _, h => ⟨e, h⟩
  | .var _, p, e, _, h => ⟨e, h⟩
  | .mulL x g, p, e, hw, h => by
    have h2 := Oc_tr l b o E _ p e g (p + 3) ((x, p) :: e) h (Or.inr (Oc_self g (p + 3) _ hw.2))
    obtain ⟨e', h3⟩ := Oc_cor g (p + 3) _ hw.2 h2
    refine ⟨e', ?_⟩
    rw [show p + 3 * ll (.mulL x g) = p + 3 + 3 * ll g by show p + 3 * (ll g + 1) = _; omega]
    exact h3
  | .mulR _ _, p, e, _, h => ⟨e, h⟩
  | .add _ _, p, e, hw, h => absurd hw.1 (by decide)
theorem gon_ll {T : List Nat} : ∀ (s : Tr) (p n : Nat), seg T p (rn s false) → ll s ≤ n → gon T n p = gon T (n - ll s) (p + 3 * ll s)
  | .num _, p, n, _, _ => rfl
  | .var _, p, n, _, _ => rfl
  | .mulL x g, p, n, sg, hn => by
    obtain ⟨-, h1, h2, h4, h3⟩ := sg_L sg
    have hn : ll g + 1 ≤ n := hn
    obtain ⟨n, rfl⟩ : ∃ m, n = m + 1 := ⟨n - 1, by omega⟩
    rw [gon, if_pos h1, gon_ll g (p + 3) n h3 (by omega)]
    show gon T (n - ll g) (p + 3 + 3 * ll g) = gon T (n + 1 - (ll g + 1)) (p + 3 * (ll g + 1))
    rw [show n + 1 - (ll g + 1) = n - ll g by omega, show p + 3 * (ll g + 1) = p + 3 + 3 * ll g by omega]
  | .mulR _ _, p, n, _, _ => rfl
  | .add _ _, p, n, _, _ => rfl
theorem stl_ll {T : List Nat} : ∀ (s : Tr) (p n : Nat), seg T p (rn s false) → ll s ≤ n → stl T n p = stl T (n - ll s) (p + 3 * ll s)
  | .num _, p, n, _, _ => rfl
  | .var _, p, n, _, _ => rfl
  | .mulL x g, p, n, sg, hn => by
    obtain ⟨-, h1, h2, h4, h3⟩ := sg_L sg
    have hn : ll g + 1 ≤ n := hn
    obtain ⟨n, rfl⟩ : ∃ m, n = m + 1 := ⟨n - 1, by omega⟩
    rw [stl, if_pos h1, stl_ll g (p + 3) n h3 (by omega)]
    show stl T (n - ll g) (p + 3 + 3 * ll g) = stl T (n + 1 - (ll g + 1)) (p + 3 * (ll g + 1))
    rw [show n + 1 - (ll g + 1) = n - ll g by omega, show p + 3 * (ll g + 1) = p + 3 + 3 * ll g by omega]
  | .mulR _ _, p, n, _, _ => rfl
  | .add _ _, p, n, _, _ => rfl
theorem gon_C {T : List Nat} {p : Nat} (h1 : T.getD p 0 ≠ 109) (h2 : isV (T.getD p 0) = false) : ∀ n, gon T n p = p
  | 0 => rfl
  | n + 1 => by rw [gon, if_neg h1, if_neg (by rw [h2]; decide)]
theorem stl_C {T : List Nat} {p : Nat} (h1 : T.getD p 0 ≠ 109) (h2 : isV (T.getD p 0) = false) : ∀ n, stl T n p = p
  | 0 => rfl
  | n + 1 => by
    rw [stl, if_neg h1, if_neg (by rw [h2]; decide)]
    exact stl_C h1 h2 n
theorem C_char {T : List Nat} {p : Nat} {s : Tr} (hw : WP s false) (hc : isC s) (sg : seg T p (rn s false)) : okAt T p ∧ T.getD p 0 ≠ 109 ∧ isV (T.getD p 0) = false := by
  cases s with
  | num n =>
    obtain ⟨-, h1, -⟩ := seg_c (c := 101) (v := []) sg
    rw [h1]
    exact ⟨Or.inl h1, by decide, by decide⟩
  | var x => cases hc
  | mulL x g => cases hc
  | mulR bs k =>
    obtain ⟨h1, -⟩ := sg_M sg
    have := isR_b hw.2.1
    rw [h1]
    refine ⟨Or.inr (by rw [h1]; exact hw.2.1), by omega, decide_eq_false (by omega)⟩
  | add l r => cases hc
/-- a part that a role can run by -/
def PG (l : Tr) : Prop := OK4 l false [] ∧ (rn l false).length ≤ 60
def pos0 (l : Tr) (p : Nat) : Prop := ∃ s e, Oc l false 0 [] s p e
def posC (l : Tr) (p : Nat) : Prop := ∃ s e, Oc l false 0 [] s p e ∧ isC s
theorem sg0 (l : Tr) : seg (rn l false) 0 (rn l false) := ⟨[], by simp⟩
theorem hv_var : ∀ s, WP s false → GP s false → hv s = true → ∃ x, s = .var x
  | .num _, _, _, h => by cases h
  | .var x, _, _, _ => ⟨x, rfl⟩
  | .mulL x g, _, h2, h => by
    have := h2.1 rfl
    have h : hv g = true := h
    rw [h] at this
    cases this
  | .mulR _ _, _, _, h => by cases h
  | .add _ _, _, _, h => by cases h
theorem lk_mem : ∀ (e : List (Nat × Nat)) (x : Nat), x ∈ e.map Prod.fst → ∃ k, lk e x = some k
  | [], x, h => by cases h
  | (y, k) :: e, x, h => by
    unfold lk
    by_cases hy : y = x
    · exact ⟨k, by rw [if_pos hy]⟩
    · rw [if_neg hy]
      rw [List.map_cons, List.mem_cons] at h
      exact lk_mem e x (h.resolve_left (fun z => hy z.symm))
theorem settle_eq {l : Tr} {p : Nat} (hl : PG l) (hp : pos0 l p) : stl (rn l false) 100 p = gon (rn l false) 60 p ∧ posC l (gon (rn l false) 60 p) := by
  obtain ⟨s, e, ho⟩ := hp
  obtain ⟨hok, hlen⟩ := hl
  obtain ⟨k1, sg⟩ := Oc_ok l false 0 [] s p e hok (sg0 l) ho
  have hln := seg_len sg (rn_p s false)
  have hll := ll_le s
  -- where no variable stands first
  have easy : ∀ (s : Tr) (p : Nat) (e : List (Nat × Nat)), Oc l false 0 [] s p e → hv s = false → (∀ n, 20 ≤ n → gon (rn l false) n p = p + 3 * ll s) ∧ (∀ n, 20 ≤ n → stl (rn l false) n p = p + 3 * ll s) ∧ posC l (p + 3 * ll s) := by
    intro s p e ho hh
    obtain ⟨k1, sg⟩ := Oc_ok l false 0 [] s p e hok (sg0 l) ho
    have hln := seg_len sg (rn_p s false)
    have hll := ll_le s
    obtain ⟨e', ho'⟩ := Oc_cor s p e k1.1 ho
    obtain ⟨k2, sg2⟩ := Oc_ok l false 0 [] _ _ e' hok (sg0 l) ho'
    have hC := cor_C s k1.1 hh
    obtain ⟨c1, c2, c3⟩ := C_char k2.1 hC sg2
    refine ⟨fun n hn => ?_, fun n hn => ?_, cor s, e', ho', hC⟩
    · rw [gon_ll s p n sg (by omega)]
      exact gon_C c2 c3 _
    · rw [stl_ll s p n sg (by omega)]
      exact stl_C c2 c3 _
  cases hh : hv s with
  | false =>
    obtain ⟨a1, a2, a3⟩ := easy s p e ho hh
    rw [a1 60 (by decide), a2 100 (by decide)]
    exact ⟨rfl, a3⟩
  | true =>
    obtain ⟨x, rfl⟩ := hv_var s k1.1 k1.2.2.1 hh
    obtain ⟨k, hk⟩ := lk_mem e x k1.2.2.2
    obtain ⟨-, hc, -⟩ := seg_c (c := x) (v := []) sg
    have hV : isV x = true := k1.1.2
    have hb := isV_b hV
    have h1 := Oc_lmm (T := rn l false) l false 0 [] _ p e hok.1 hok.2.1 (sg0 l) (fun x k z => by cases z) ho x k hk
    have h2 := Oc_lof (T := rn l false) l false 0 [] _ p e hok.1 (sg0 l) (by omega) (fun x k z => by cases z) ho x k hk
    rcases Oc_env l false 0 [] _ p e x k ho hk with z | ⟨g, e', hg⟩
    · cases z
    · obtain ⟨kg, sgg⟩ := Oc_ok l false 0 [] _ k e' hok (sg0 l) hg
      obtain ⟨-, q1, -⟩ := sg_L sgg
      have ho3 := Oc_tr l false 0 [] _ k e' g (k + 3) ((x, k) :: e') hg (Or.inr (Oc_self g (k + 3) _ kg.1.2))
      obtain ⟨a1, a2, a3⟩ := easy g (k + 3) _ ho3 (kg.2.2.1.1 rfl)
      have eg : gon (rn l false) 60 p = k + 3 + 3 * ll g := by
        rw [gon, if_neg (by omega), hc, if_pos hV]
        unfold bod
        rw [h1]
        exact a1 59 (by decide)
      have es : stl (rn l false) 100 p = k + 3 + 3 * ll g := by
        rw [stl, if_neg (by omega), hc, if_pos hV, h2, stl, if_pos q1]
        exact a2 98 (by decide)
      rw [eg, es]
      exact ⟨rfl, a3⟩
theorem posC_ok {l : Tr} {p : Nat} (hl : PG l) (hp : posC l p) : okAt (rn l false) p ∧ p < 60 := by
  obtain ⟨s, e, ho, hC⟩ := hp
  obtain ⟨k1, sg⟩ := Oc_ok l false 0 [] s p e hl.1 (sg0 l) ho
  have hln := seg_len sg (rn_p s false)
  have := rn_p s false
  have := hl.2
  exact ⟨(C_char k1.1 hC sg).1, by omega⟩
/-- looking for a label ends at a branch -/
theorem bls_c {T : List Nat} {x : Int32} {n k dd : Nat} (hd : 0 < dd) (hd2 : dd < 2 ^ 31) (h1 : T.getD k 0 ≠ 123) (h2 : T.getD k 0 ≠ 125) (h3 : T.getD k 0 ≠ 44 ∨ dd ≠ 1) : bls T x (n + 1) k (nI dd) = bls T x n (k + 1) (nI dd) := by
  refine bls_n (by unfold bdp; rw [if_neg h1, if_neg h2]) (fun z => by have := (nI_z hd2).mp z; omega) (fun z => ?_)
  have e1 := (nI_eq (b := 1) hd2 (by decide)).mp z.1
  rcases z.2.1 with y | y
  · exact h1 y
  · rcases h3 with h3 | h3
    · exact h3 y
    · exact h3 e1
theorem bls_seg {T : List Nat} {x : Int32} : ∀ (l : Tr) (b : Bool) (o n dd : Nat), WP l b → seg T o (rn l b) → dd + (rn l b).length ≤ 1000 → 0 < dd → (b = true → 1 < dd) → bls T x (n + (rn l b).length) o (nI dd) = bls T x n (o + (rn l b).length) (nI dd)
  | .num _, b, o, n, dd, hw, sg, hl, hd, hb => by
    obtain ⟨-, h1, -⟩ := seg_c (c := 101) (v := []) sg
    exact bls_c hd (by omega) (by omega) (by omega) (Or.inl (by omega))
  | .var y, b, o, n, dd, hw, sg, hl, hd, hb => by
    obtain ⟨-, h1, -⟩ := seg_c (c := y) (v := []) sg
    have := isV_b hw.2
    exact bls_c hd (by omega) (by omega) (by omega) (Or.inl (by omega))
  | .mulL y g, b, o, n, dd, hw, sg, hl, hd, hb => by
    cases b with
    | true =>
      obtain ⟨h1, h2, h3⟩ := sg_B sg
      have := isL_b hw.1
      rw [ln_B] at hl
      rw [ln_B, show n + (2 + (rn g false).length) = (n + (rn g false).length) + 1 + 1 by omega, bls_c hd (by omega) (by omega) (by omega) (Or.inl (by omega)), bls_c hd (by omega) (by omega) (by omega) (Or.inl (by omega)), ← Nat.add_assoc]
      exact bls_seg g false (o + 2) n dd hw.2 h3 (by omega) hd (fun z => by cases z)
    | false =>
      obtain ⟨-, h1, h2, h4, h3⟩ := sg_L sg
      have := isV_b hw.1
      have h4' : T.getD (o + 1 + 1) 0 = 46 := h4
      rw [ln_L] at hl
      rw [ln_L, show n + (3 + (rn g false).length) = (n + (rn g false).length) + 1 + 1 + 1 by omega, bls_c hd (by omega) (by omega) (by omega) (Or.inl (by omega)), bls_c hd (by omega) (by omega) (by omega) (Or.inl (by omega)), bls_c hd (by omega) (by omega) (by omega) (Or.inl (by omega)), ← Nat.add_assoc]
      exact bls_seg g false (o + 3) n dd hw.2 h3 (by omega) hd (fun z => by cases z)
  | .mulR bs y, b, o, n, dd, hw, sg, hl, hd, hb => by
    have hbf : b = false := hw.1
    subst hbf
    obtain ⟨h1, h2, h3, h4, h5, -⟩ := sg_M sg
    have := isR_b hw.2.1
    have := hw.2.2.1
    rw [ln_M] at hl
    rw [ln_M, show n + (4 + (rn bs true).length) = ((n + 1) + (rn bs true).length) + 1 + 1 + 1 by omega, bls_c hd (by omega) (by omega) (by omega) (Or.inl (by omega)), bls_c hd (by omega) (by omega) (by omega) (Or.inl (by omega))]
    rw [bls_n (o1 := nI (dd + 1)) (by unfold bdp; rw [show o + 1 + 1 = o + 2 from rfl, if_pos h3, nI_1]) (fun z => by have := (nI_z (by omega)).mp z; omega) (fun z => by have := (nI_eq (b := 1) (by omega) (by decide)).mp z.1; omega)]
    rw [show o + 1 + 1 + 1 = o + 3 from rfl, bls_seg bs true (o + 3) (n + 1) (dd + 1) hw.2.2.2 h4 (by omega) (by omega) (fun _ => by omega)]
    rw [bls_n (o1 := nI dd) (by unfold bdp; rw [if_neg (by omega), if_pos h5, ← Int32.sub_eq_add_neg, nI_pred]) (fun z => by have := (nI_z (by omega)).mp z; omega) (fun z => by omega)]
    rw [show o + 3 + (rn bs true).length + 1 = o + (4 + (rn bs true).length) by omega]
  | .add l r, b, o, n, dd, hw, sg, hl, hd, hb => by
    have hbt : b = true := hw.1
    subst hbt
    have hd1 := hb rfl
    obtain ⟨h1, h2, h3, -⟩ := sg_A sg
    rw [ln_A] at hl
    rw [ln_A, show n + ((rn l true).length + 1 + (rn r true).length) = (n + (rn r true).length + 1) + (rn l true).length by omega, bls_seg l true o _ dd hw.2.1 h1 (by omega) hd (fun _ => hd1), bls_c hd (by omega) (by omega) (by omega) (Or.inr (by omega)), bls_seg r true _ n dd hw.2.2 h3 (by omega) hd (fun _ => hd1)]
    rw [show o + (rn l true).length + 1 + (rn r true).length = o + ((rn l true).length + 1 + (rn r true).length) by omega]
theorem bls_list {T : List Nat} {x : Int32} {E : List (Nat × Nat)} {q : Nat} (hq : q < 2 ^ 31) : ∀ (t : Tr) (k n : Nat) (D : Int32), WP t true → seg T (k + 1) (rn t true) → (rn t true).length ≤ 900 → k + (rn t true).length < 2 ^ 30 → bdp (T.getD k 0) D = 1 → (T.getD k 0 = 123 ∨ T.getD k 0 = 44) → bls T x (n + (rn t true).length + 1) k D = nI q → (∃ s e, Oc t true (k + 1) E s q e) ∨ bls T x n (k + 1 + (rn t true).length) 1 = nI q
  | .num _, k, n, D, hw, _, _, _, _, _, _ => absurd (show true = false from hw) (by decide)
  | .var _, k, n, D, hw, _, _, _, _, _, _ => absurd hw.1 (by decide)
  | .mulR _ _, k, n, D, hw, _, _, _, _, _, _ => absurd hw.1 (by decide)
  | .mulL y g, k, n, D, hw, sg, hl, hk, hb, hs, he => by
    obtain ⟨h1, h2, h3⟩ := sg_B sg
    have := isL_b hw.1
    rw [ln_B] at hl
    by_cases hx : nI (T.getD (k + 1) 0) = 112 + x
    · rw [bls_h hb hs hx] at he
      have : k + 3 = q := (nI_eq (by omega) hq).mp he
      refine Or.inl ⟨g, E, ?_⟩
      rw [← this]
      exact Oc_self g (k + 1 + 2) E hw.2
    · rw [bls_n hb (by decide) (fun z => hx z.2.2), ln_B, show n + (2 + (rn g false).length) = (n + (rn g false).length) + 1 + 1 by omega, show (1 : Int32) = nI 1 from rfl, bls_c (by decide) (by decide) (by omega) (by omega) (Or.inl (by omega)), bls_c (by decide) (by decide) (by omega) (by omega) (Or.inl (by omega)), bls_seg g false (k + 1 + 1 + 1) n 1 hw.2 h3 (by omega) (by decide) (fun z => by cases z)] at he
      refine Or.inr ?_
      rw [ln_B, show k + 1 + (2 + (rn g false).length) = k + 1 + 1 + 1 + (rn g false).length by omega]
      exact he
  | .add l r, k, n, D, hw, sg, hl, hk, hb, hs, he => by
    obtain ⟨h1, h2, h3, -⟩ := sg_A sg
    rw [ln_A] at hl hk he ⊢
    rw [show n + ((rn l true).length + 1 + (rn r true).length) + 1 = (n + (rn r true).length + 1) + (rn l true).length + 1 by omega] at he
    rcases bls_list hq l k (n + (rn r true).length + 1) D hw.2.1 h1 (by omega) (by omega) hb hs he with ⟨s, e, z⟩ | z
    · exact Or.inl ⟨s, e, Or.inl z⟩
    · rcases bls_list hq r (k + 1 + (rn l true).length) n 1 hw.2.2 h3 (by omega) (by omega) (by rw [h2]; rfl) (Or.inr h2) z with ⟨s, e, z⟩ | z
      · exact Or.inl ⟨s, e, Or.inr z⟩
      · refine Or.inr ?_
        rw [show k + 1 + ((rn l true).length + 1 + (rn r true).length) = k + 1 + (rn l true).length + 1 + (rn r true).length by omega]
        exact z
theorem pbl_pos {l : Tr} {p q : Nat} {x : Int32} (hl : PG l) (hp : posC l p) (hq : q < 2 ^ 31) (h : pbl (rn l false) p x = nI q) : pos0 l q := by
  obtain ⟨s, e, ho, hC⟩ := hp
  obtain ⟨k1, sg⟩ := Oc_ok l false 0 [] s p e hl.1 (sg0 l) ho
  have hlen := hl.2
  unfold pbl at h
  by_cases hc : isB x = true ∧ pac (rn l false) p ≠ 0
  · rw [if_pos hc] at h
    cases s with
    | num n =>
      obtain ⟨-, h1, -⟩ := seg_c (c := 101) (v := []) sg
      exfalso
      apply hc.2
      unfold pac
      rw [h1]
      rfl
    | var y => cases hC
    | mulL y g => cases hC
    | add a b => cases hC
    | mulR bs k =>
      obtain ⟨h1, h2, h3, h4, h5, h6⟩ := sg_M sg
      have hbl := seg_len h4 (rn_p bs true)
      obtain ⟨n, hn⟩ : ∃ n, (rn l false).length - (p + 2) = (n + 1) + (rn bs true).length + 1 := ⟨(rn l false).length - (p + 2) - (rn bs true).length - 2, by omega⟩
      rw [hn] at h
      rcases bls_list (E := e) hq bs (p + 2) (n + 1) 0 k1.1.2.2.2 h4 (by omega) (by omega) (by rw [h3]; rfl) (Or.inl h3) h with ⟨s, e', z⟩ | z
      · exact ⟨s, e', Oc_tr l false 0 [] _ p e s q e' ho (Or.inr z)⟩
      · exfalso
        rw [bls_z (o1 := 0) (by unfold bdp; rw [show p + 2 + 1 = p + 3 from rfl, if_neg (by omega), if_pos h5]; rfl) rfl] at z
        exact nI_m1 hq z.symm
  · rw [if_neg hc] at h
    exact absurd h.symm (nI_m1 hq)
