/-! Rows for runs of the small machine. -/
abbrev Ev (d j i : Nat) (L : ax_L) (st : List ax_V) (h : ax_H) (r : Option ax_V) (h' : ax_H) : Prop := ax_Ev ax_P ax_nL d j i L st h r h'
abbrev mt (d j : Nat) (as : List ax_V) (h : ax_H) (r : Option ax_V) (h' : ax_H) : Prop := ax_Ev ax_P ax_nL d j 0 (ax_ent (ax_nL j) as) [] h r h'
/-- an object; an array of numbers; of references -/
def ob (h : ax_H) (o ci : Nat) (fs : List ax_V) : Prop := h.2.2 o = .inr (ci, fs) ∧ 0 < o ∧ o < h.1
def ar (h : ax_H) (o t n : Nat) (f : Nat → Int32) : Prop := h.2.2 o = .inl (t, n, .inl f) ∧ 0 < o ∧ o < h.1
def aq (h : ax_H) (o t n : Nat) (f : Nat → Option Nat) : Prop := h.2.2 o = .inl (t, n, .inr f) ∧ 0 < o ∧ o < h.1
section EVR
variable {d j i : Nat} {L : ax_L} {st : List ax_V} {h : ax_H} {r : Option ax_V} {h' : ax_H}
theorem ev_get {o ci k nx : Nat} {fs : List ax_V} {v : ax_V} (hP : ax_P j i = ax_get ci k nx) (ho : ob h o ci fs) (hv : fs[k]? = some v) (kk : Ev d j nx L (v :: st) h r h') : Ev d j i L (.inr (some o) :: st) h r h' := by
  refine ax_st (i1 := nx) (L1 := L) (st1 := v :: st) (h1 := h) ?_ kk
  rw [hP]
  simp only [ax_get, ho.1, ho.2, and_self, if_true, hv]
theorem ev_put {o ci k ty nx : Nat} {fs : List ax_V} {v : ax_V} (hP : ax_P j i = ax_put ci k ty nx) (ho : ob h o ci fs) (hk : k < fs.length) (hf : ax_fit ty v = true) (kk : Ev d j nx L st (ax_set h o (.inr (ci, fs.set k v))) r h') : Ev d j i L (v :: .inr (some o) :: st) h r h' := by
  refine ax_st (i1 := nx) (L1 := L) (st1 := st) (h1 := ax_set h o (.inr (ci, fs.set k v))) ?_ kk
  rw [hP]
  simp only [ax_put, ho.1, ho.2, hk, hf, and_self, if_true]
theorem ev_ald {o t n nx : Nat} {f : Nat → Int32} {x : Int32} (hP : ax_P j i = ax_ald t nx) (ho : ar h o t n f) (hi : ax_in x n = true) (kk : Ev d j nx L (.inl (f x.toNatClampNeg) :: st) h r h') : Ev d j i L (.inl x :: .inr (some o) :: st) h r h' := by
  refine ax_st (i1 := nx) (L1 := L) (st1 := .inl (f x.toNatClampNeg) :: st) (h1 := h) ?_ kk
  rw [hP]
  simp only [ax_ald, ho.1, ho.2, hi, and_self, if_true]
theorem ev_ast {o t n nx : Nat} {f : Nat → Int32} {x y : Int32} (hP : ax_P j i = ax_ast t nx) (ho : ar h o t n f) (hi : ax_in x n = true) (kk : Ev d j nx L st (ax_set h o (.inl (t, n, .inl (upd f x.toNatClampNeg (if t = 1 then vp_nar .char y else y))))) r h') : Ev d j i L (.inl y :: .inl x :: .inr (some o) :: st) h r h' := by
  refine ax_st (i1 := nx) (L1 := L) (st1 := st) (h1 := ax_set h o (.inl (t, n, .inl (upd f x.toNatClampNeg (if t = 1 then vp_nar .char y else y))))) ?_ kk
  rw [hP]
  simp only [ax_ast, ho.1, ho.2, hi, and_self, if_true]
theorem ev_aald {o t n nx : Nat} {f : Nat → Option Nat} {x : Int32} (hP : ax_P j i = ax_aald nx) (ho : aq h o t n f) (ht : 2 ≤ t ∧ t ≤ 4) (hi : ax_in x n = true) (kk : Ev d j nx L (.inr (f x.toNatClampNeg) :: st) h r h') : Ev d j i L (.inl x :: .inr (some o) :: st) h r h' := by
  refine ax_st (i1 := nx) (L1 := L) (st1 := .inr (f x.toNatClampNeg) :: st) (h1 := h) ?_ kk
  rw [hP]
  simp only [ax_aald, ho.1, ho.2, ht, hi, and_self, if_true]
/-- calls that answer, calls that don't -/
theorem ev_callS {k n nx : Nat} {as : List ax_V} {st1 : List ax_V} {v : ax_V} {h1 : ax_H} (hP : ax_P j i = ax_callS k n nx) (hst : (st.take n).reverse = as ∧ st.drop n = st1 ∧ n ≤ st.length ∧ st.length ≤ n + 8) (kc : mt d k as h (some v) h1) (kk : Ev (d + 1) j nx L (v :: st1) h1 r h') : Ev (d + 1) j i L st h r h' := by
  obtain ⟨rfl, rfl, hn⟩ := hst
  refine ax_cl (f := k) (as := (st.take n).reverse) (i1 := nx) (L1 := L) (st1 := st.drop n) ?_ kc kk
  rw [hP]
  simp only [ax_callS, hn, and_self, if_true]
theorem ev_callV {o ci k n nx : Nat} {fs : List ax_V} {as : List ax_V} {st1 : List ax_V} {v : ax_V} {h1 : ax_H} (hP : ax_P j i = ax_callV ci k n nx) (ho : ob h o ci fs) (hst : st.drop n = .inr (some o) :: st1 ∧ (st.take n).reverse = as ∧ n ≤ st.length ∧ st1.length ≤ 8) (kc : mt d k (.inr (some o) :: as) h (some v) h1) (kk : Ev (d + 1) j nx L (v :: st1) h1 r h') : Ev (d + 1) j i L st h r h' := by
  obtain ⟨h2, rfl, hn⟩ := hst
  refine ax_cl (f := k) (as := .inr (some o) :: (st.take n).reverse) (i1 := nx) (L1 := L) (st1 := st1) ?_ kc kk
  rw [hP]
  simp only [ax_callV, h2, ho.1, ho.2, hn, and_self, if_true]
theorem ev_callU {o ci k n nx : Nat} {fs : List ax_V} {as : List ax_V} {st1 : List ax_V} {h1 : ax_H} (hP : ax_P j i = ax_callV ci k n nx) (ho : ob h o ci fs) (hst : st.drop n = .inr (some o) :: st1 ∧ (st.take n).reverse = as ∧ n ≤ st.length ∧ st1.length ≤ 8) (kc : mt d k (.inr (some o) :: as) h none h1) (kk : Ev (d + 1) j nx L st1 h1 r h') : Ev (d + 1) j i L st h r h' := by
  obtain ⟨h2, rfl, hn⟩ := hst
  refine ax_cl (f := k) (as := .inr (some o) :: (st.take n).reverse) (i1 := nx) (L1 := L) (st1 := st1) ?_ kc kk
  rw [hP]
  simp only [ax_callV, h2, ho.1, ho.2, hn, and_self, if_true]
theorem ev_callI {o k n nx : Nat} {as : List ax_V} {st1 : List ax_V} {h1 : ax_H} (hP : ax_P j i = ax_callI k n nx) (hst : st.drop n = .inr (some o) :: st1 ∧ (st.take n).reverse = as ∧ n ≤ st.length ∧ st1.length ≤ 8) (kc : mt d k (.inr (some o) :: as) h none h1) (kk : Ev (d + 1) j nx L st1 h1 r h') : Ev (d + 1) j i L st h r h' := by
  obtain ⟨h2, rfl, hn⟩ := hst
  refine ax_cl (f := k) (as := .inr (some o) :: (st.take n).reverse) (i1 := nx) (L1 := L) (st1 := st1) ?_ kc kk
  rw [hP]
  simp only [ax_callI, h2, hn, and_self, if_true]
/-- branches -/
theorem ev_if {c : Prop} [Decidable c] {a b : Nat} (ht : c → Ev d j a L st h r h') (hf : ¬ c → Ev d j b L st h r h') : Ev d j (bif decide c then a else b) L st h r h' := ax_br (fun q => ht (of_decide_eq_true q)) (fun q => hf (of_decide_eq_false q))
theorem ev_t {c : Prop} [Decidable c] {a b : Nat} (hc : c) (k : Ev d j a L st h r h') : Ev d j (bif decide c then a else b) L st h r h' := ev_if (fun _ => k) (fun q => absurd hc q)
theorem ev_f {c : Prop} [Decidable c] {a b : Nat} (hc : ¬ c) (k : Ev d j b L st h r h') : Ev d j (bif decide c then a else b) L st h r h' := ev_if (fun q => absurd q hc) (fun _ => k)
theorem ev_tb {c : Bool} {a b : Nat} (hc : c = true) (k : Ev d j a L st h r h') : Ev d j (bif c then a else b) L st h r h' := ax_br (fun _ => k) (fun q => absurd (q.symm.trans hc) (by decide))
theorem ev_fb {c : Bool} {a b : Nat} (hc : c = false) (k : Ev d j b L st h r h') : Ev d j (bif c then a else b) L st h r h' := ax_br (fun q => absurd (hc.symm.trans q) (by decide)) (fun _ => k)
end EVR
/-- what is kept -/
def fr (h h' : ax_H) (A : Nat → Prop) : Prop := h'.1 = h.1 ∧ h'.2.1 = h.2.1 ∧ ∀ q, ¬ A q → h'.2.2 q = h.2.2 q
theorem fr.rf {h : ax_H} {A : Nat → Prop} : fr h h A := ⟨rfl, rfl, fun _ _ => rfl⟩
theorem fr.tr {h h1 h2 : ax_H} {A : Nat → Prop} (a : fr h h1 A) (b : fr h1 h2 A) : fr h h2 A := ⟨b.1.trans a.1, b.2.1.trans a.2.1, fun q hq => (b.2.2 q hq).trans (a.2.2 q hq)⟩
theorem fr.wk {h h1 : ax_H} {A B : Nat → Prop} (a : fr h h1 A) (hAB : ∀ q, A q → B q) : fr h h1 B := ⟨a.1, a.2.1, fun q hq => a.2.2 q (fun x => hq (hAB q x))⟩
theorem fr.st {h : ax_H} {o : Nat} {c : ax_C} {A : Nat → Prop} (hA : A o) : fr h (ax_set h o c) A := ⟨rfl, rfl, fun q hq => by
  show ax_up h.2.2 o c q = h.2.2 q
  unfold ax_up
  rw [if_neg (fun e => hq (by rw [e]; exact hA))]⟩
theorem ob.fr {h h' : ax_H} {A : Nat → Prop} {o ci : Nat} {fs : List ax_V} (a : ob h o ci fs) (f : fr h h' A) (hA : ¬ A o) : ob h' o ci fs := ⟨by rw [f.2.2 o hA]; exact a.1, a.2.1, by rw [f.1]; exact a.2.2⟩
theorem ar.fr {h h' : ax_H} {A : Nat → Prop} {o t n : Nat} {g : Nat → Int32} (a : ar h o t n g) (f : fr h h' A) (hA : ¬ A o) : ar h' o t n g := ⟨by rw [f.2.2 o hA]; exact a.1, a.2.1, by rw [f.1]; exact a.2.2⟩
theorem aq.fr {h h' : ax_H} {A : Nat → Prop} {o t n : Nat} {g : Nat → Option Nat} (a : aq h o t n g) (f : fr h h' A) (hA : ¬ A o) : aq h' o t n g := ⟨by rw [f.2.2 o hA]; exact a.1, a.2.1, by rw [f.1]; exact a.2.2⟩
theorem ax_set_self (h : ax_H) (o : Nat) (c : ax_C) : (ax_set h o c).2.2 o = c := by
  show ax_up h.2.2 o c o = c
  unfold ax_up
  rw [if_pos rfl]
theorem ax_set_ne (h : ax_H) {o q : Nat} (c : ax_C) (hq : q ≠ o) : (ax_set h o c).2.2 q = h.2.2 q := by
  show ax_up h.2.2 o c q = _
  unfold ax_up
  rw [if_neg hq]
theorem ob.st {h : ax_H} {o ci : Nat} {fs : List ax_V} (a : ob h o ci fs) (ci' : Nat) (fs' : List ax_V) : ob (ax_set h o (.inr (ci', fs'))) o ci' fs' := ⟨ax_set_self _ _ _, a.2.1, a.2.2⟩
theorem ar.st {h : ax_H} {o t n : Nat} {g : Nat → Int32} (a : ar h o t n g) (g' : Nat → Int32) : ar (ax_set h o (.inl (t, n, .inl g'))) o t n g' := ⟨ax_set_self _ _ _, a.2.1, a.2.2⟩
theorem ob.ne {h : ax_H} {o ci q : Nat} {fs : List ax_V} (a : ob h o ci fs) (c : ax_C) (hq : o ≠ q) : ob (ax_set h q c) o ci fs := ⟨by rw [ax_set_ne _ _ hq]; exact a.1, a.2.1, a.2.2⟩
theorem ar.ne {h : ax_H} {o t n q : Nat} {g : Nat → Int32} (a : ar h o t n g) (c : ax_C) (hq : o ≠ q) : ar (ax_set h q c) o t n g := ⟨by rw [ax_set_ne _ _ hq]; exact a.1, a.2.1, a.2.2⟩
theorem aq.ne {h : ax_H} {o t n q : Nat} {g : Nat → Option Nat} (a : aq h o t n g) (c : ax_C) (hq : o ≠ q) : aq (ax_set h q c) o t n g := ⟨by rw [ax_set_ne _ _ hq]; exact a.1, a.2.1, a.2.2⟩
theorem ob_ar {h : ax_H} {o c ci t n : Nat} {fs : List ax_V} {g : Nat → Int32} (a : ob h o ci fs) (b : ar h c t n g) : o ≠ c := by
  intro e
  subst e
  have := a.1.symm.trans b.1
  cases this
/-- numbers -/
theorem in_nI {k n : Nat} (h : k < n) (hn : n < 2 ^ 31) : ax_in (nI k) n = true := by
  unfold ax_in
  rw [nI_clamp (by omega)]
  simp [nI_pos (show k < 2 ^ 31 by omega), h]
def cf (x : Int32) : Prop := (x.toUInt32 % 65536).toInt32 = x
theorem cf_nI {x : Nat} (h : x < 65536) : cf (nI x) := by
  unfold cf
  rw [pk_char, pk_tn (by omega), Nat.mod_eq_of_lt h]
theorem cf_nar {x : Int32} (h : cf x) : vp_nar .char x = x := by
  unfold cf at h
  rw [← h]
  exact pk_vc x
theorem cf_fit {x : Int32} (h : cf x) : ax_fit 2 (.inl x) = true := decide_eq_true h
