/-! How the small machine's things are the JVM's. -/
/-- the classes' numbers and slots, the array classes, where the new cells begin, where the script is -/
abbrev ax_Z : Type := va_G × (Nat → ClassId) × Nat × Nat
def ax_ad (z : ax_Z) (k : Nat) : Nat := match k with
  | 0 => z.2.2.2
  | k + 1 => z.2.2.1 + k
def ax_cv (z : ax_Z) (v : ax_V) : Value := match v with
  | .inl x => .int x
  | .inr r => va_rf (r.map (ax_ad z))
def ax_cc (z : ax_Z) (c : ax_C) : va_E := match c with
  | .inl (t, n, .inl f) => .inl (z.2.1 t, n, .inl f)
  | .inl (t, n, .inr f) => .inl (z.2.1 t, n, .inr (.inr (.inr (.inr (fun j => (f j).map (ax_ad z))))))
  | .inr (ci, fs) => .inr (ci, fs.map (ax_cv z))
def ax_rel (z : ax_Z) (h : ax_H) (U : State) (H : Heap) : Prop :=
  H.size + 1 = z.2.2.1 + h.1 ∧ 0 < h.1 ∧ z.2.2.2 < z.2.2.1 ∧ (∀ k, k + 1 < h.1 → va_at z.1 vwCl (z.2.2.1 + k, ax_cc z (h.2.2 (k + 1))) H) ∧ ∃ (L : Nat) (xs : Nat → Int32), h.2.2 0 = .inl (9, L, .inl xs) ∧ va_X z.2.2.2 L xs U H
theorem ax_rel.moved {z : ax_Z} {h : ax_H} {u U : State} {H : Heap} (hvm : u.vm.Alike U.vm) (r : ax_rel z h u H) : ax_rel z h U H := by
  obtain ⟨a, b, c, d, L, xs, e, f⟩ := r
  exact ⟨a, b, c, d, L, xs, e, f.moved hvm⟩
theorem ax_rel.at {z : ax_Z} {h : ax_H} {U : State} {H : Heap} (r : ax_rel z h U H) {o : Nat} (h0 : 0 < o) (h1 : o < h.1) : va_at z.1 vwCl (ax_ad z o, ax_cc z (h.2.2 o)) H := by
  obtain ⟨k, rfl⟩ : ∃ k, o = k + 1 := ⟨o - 1, by omega⟩
  exact r.2.2.2.1 k h1
theorem ax_ad_inj {z : ax_Z} (hz : z.2.2.2 < z.2.2.1) {a b : Nat} (h : ax_ad z a = ax_ad z b) : a = b := by
  cases a with
  | zero => cases b with
    | zero => rfl
    | succ b => have : z.2.2.2 = z.2.2.1 + b := h; omega
  | succ a => cases b with
    | zero => have : z.2.2.1 + a = z.2.2.2 := h; omega
    | succ b => have : z.2.2.1 + a = z.2.2.1 + b := h; omega
theorem ax_ad_ge {z : ax_Z} {o : Nat} (h : 0 < o) : z.2.2.1 ≤ ax_ad z o := by
  obtain ⟨k, rfl⟩ : ∃ k, o = k + 1 := ⟨o - 1, by omega⟩
  exact Nat.le_add_right _ _
/-- one cell is changed -/
theorem ax_rel.set {z : ax_Z} {h : ax_H} {U : State} {H H1 : Heap} (r : ax_rel z h U H) {o : Nat} (h0 : 0 < o) (c : ax_C) (hs : H1.size = H.size) (hc : va_at z.1 vwCl (ax_ad z o, ax_cc z c) H1) (hq : ∀ q, q ≠ ax_ad z o → H1[q]? = H[q]?) : ax_rel z (ax_set h o c) U H1 := by
  obtain ⟨a, b, hz, d, L, xs, e, f⟩ := r
  refine ⟨by rw [hs]; exact a, b, hz, fun k hk => ?_, L, xs, ?_, f.kept (hq _ ?_)⟩
  · show va_at z.1 vwCl (z.2.2.1 + k, ax_cc z (ax_up h.2.2 o c (k + 1))) H1
    by_cases hko : k + 1 = o
    · subst hko
      simp only [ax_up, if_true]
      exact hc
    · simp only [ax_up, hko, if_false]
      exact (d k hk).kept (hq _ (fun x => hko (ax_ad_inj hz (a := k + 1) (b := o) x)))
  · show ax_up h.2.2 o c 0 = _
    have : ¬ (0 = o) := by omega
    simp only [ax_up, this, if_false]
    exact e
  · intro x
    have := ax_ad_inj hz (a := 0) (b := o) x
    omega
/-- a new cell -/
theorem ax_rel.push {z : ax_Z} {h : ax_H} {U : State} {H H1 : Heap} (r : ax_rel z h U H) (n : Nat) (c : ax_C) (hs : H1.size = H.size + 1) (hc : va_at z.1 vwCl (H.size, ax_cc z c) H1) (hq : ∀ q, q < H.size → H1[q]? = H[q]?) : ax_rel z (ax_push h n c) U H1 := by
  obtain ⟨a, b, hz, d, L, xs, e, f⟩ := r
  refine ⟨by rw [hs]; show _ = _ + (h.1 + 1); omega, Nat.succ_pos _, hz, fun k hk => ?_, L, xs, ?_, f.kept (hq _ (by omega))⟩
  · show va_at z.1 vwCl (z.2.2.1 + k, ax_cc z (ax_up h.2.2 h.1 c (k + 1))) H1
    by_cases hko : k + 1 = h.1
    · simp only [ax_up, hko, if_true]
      rw [show z.2.2.1 + k = H.size by omega]
      exact hc
    · simp only [ax_up, hko, if_false]
      have hk2 : k + 1 < h.1 + 1 := hk
      exact (d k (by omega)).kept (hq _ (by show z.2.2.1 + k < _; omega))
  · show ax_up h.2.2 h.1 c 0 = _
    have : ¬ (0 = h.1) := by omega
    simp only [ax_up, this, if_false]
    exact e
theorem ax_rel.next {z : ax_Z} {h : ax_H} {U : State} {H : Heap} (r : ax_rel z h U H) : ax_ad z h.1 = H.size := by
  obtain ⟨a, b, -⟩ := r
  obtain ⟨k, hk⟩ : ∃ k, h.1 = k + 1 := ⟨h.1 - 1, by omega⟩
  rw [hk]
  show z.2.2.1 + k = _
  omega
/-- locals -/
def ax_lof (z : ax_Z) : Nat → ax_L → List (Nat × Value)
  | _, [] => []
  | k, none :: t => ax_lof z (k + 1) t
  | k, some v :: t => (k, ax_cv z v) :: ax_lof z (k + 1) t
theorem ax_lof_in {z : ax_Z} : ∀ (L : ax_L) (k i : Nat) (v : ax_V), L[i]? = some (some v) → (k + i, ax_cv z v) ∈ ax_lof z k L
  | [], k, i, v, h => by simp at h
  | x :: t, k, i, v, h => by
    cases i with
    | zero =>
      simp only [List.getElem?_cons_zero, Option.some.injEq] at h
      subst h
      exact List.mem_cons_self
    | succ i =>
      rw [List.getElem?_cons_succ] at h
      have := ax_lof_in (z := z) t (k + 1) i v h
      rw [show k + 1 + i = k + (i + 1) by omega] at this
      cases x with
      | none => exact this
      | some w => exact List.mem_cons_of_mem _ this
theorem ax_lof_of {z : ax_Z} : ∀ (L : ax_L) (k : Nat) (q : Nat × Value), q ∈ ax_lof z k L → ∃ (i : Nat) (v : ax_V), L[i]? = some (some v) ∧ q = (k + i, ax_cv z v)
  | [], k, q, h => by simp [ax_lof] at h
  | none :: t, k, q, h => by
    obtain ⟨i, v, a, b⟩ := ax_lof_of t (k + 1) q h
    exact ⟨i + 1, v, by rw [List.getElem?_cons_succ]; exact a, by rw [b]; congr 1; omega⟩
  | some w :: t, k, q, h => by
    rcases List.mem_cons.mp h with rfl | h
    · exact ⟨0, w, rfl, rfl⟩
    · obtain ⟨i, v, a, b⟩ := ax_lof_of t (k + 1) q h
      exact ⟨i + 1, v, by rw [List.getElem?_cons_succ]; exact a, by rw [b]; congr 1; omega⟩
theorem ax_lat {z : ax_Z} {ls : Array Slot} {nL : Nat} {L : ax_L} {i : Nat} {v : ax_V} (h : lv_has ls nL (ax_lof z 0 L)) (hi : L[i]? = some (some v)) : ls[i]? = some (.val (ax_cv z v)) := by
  have := h.2.2 _ (ax_lof_in L 0 i v hi)
  simpa using this
theorem ax_cat (z : ax_Z) (v : ax_V) : (ax_cv z v).category = 1 := by
  rcases v with x | _ | a <;> rfl
theorem ax_lset {z : ax_Z} {ls : Array Slot} {nL : Nat} {L : ax_L} {i : Nat} {v : ax_V} (h : lv_has ls nL ((i, ax_cv z v) :: (ax_lof z 0 L).filter (fun q => !(q.1 == i) && !(q.1 + 1 == i && q.2.category == 2)))) : lv_has ls nL (ax_lof z 0 (L.set i (some v))) := by
  refine ⟨h.1, h.2.1, fun q hq => ?_⟩
  obtain ⟨t, w, a, b⟩ := ax_lof_of _ _ _ hq
  rw [Nat.zero_add] at b
  subst b
  by_cases hti : t = i
  · subst hti
    rw [List.getElem?_set] at a
    simp only [if_true] at a
    split at a
    · cases a
      exact h.2.2 _ List.mem_cons_self
    · cases a
  · rw [List.getElem?_set_ne (Ne.symm hti)] at a
    refine h.2.2 _ (List.mem_cons_of_mem _ (List.mem_filter.mpr ⟨?_, ?_⟩))
    · have := ax_lof_in (z := z) L 0 t w a
      simpa using this
    · simp [hti, ax_cat]
theorem ax_lent {z : ax_Z} : ∀ (as : List ax_V) (k n : Nat) (q : Nat × Value), q ∈ ax_lof z k (as.map some ++ List.replicate n none) → q ∈ lv_args k (as.map (ax_cv z))
  | [], k, n, q, h => by
    obtain ⟨i, v, a, -⟩ := ax_lof_of _ _ _ h
    simp only [List.map_nil, List.nil_append] at a
    have := List.eq_of_mem_replicate (List.mem_of_getElem? a)
    cases this
  | v :: as, k, n, q, h => by
    have hc : ¬ (ax_cv z v).category = 2 := by rw [ax_cat]; decide
    simp only [List.map_cons, lv_args, hc, if_false]
    rcases List.mem_cons.mp h with rfl | h
    · exact List.mem_cons_self
    · exact List.mem_cons_of_mem _ (ax_lent as (k + 1) n q h)
/-- the words -/
def ax_ws : List Cond := lw_tbl.filter goodWord
theorem ax_wm {w : Cond} (h : w ∈ lw_tbl) (g : goodWord w = true) : w ∈ ax_ws := List.mem_filter.mpr ⟨h, g⟩
theorem ax_wt {w : Cond} (i : Nat) (h : tables_1[i]? = some w) (g : goodWord w = true) : w ∈ ax_ws := ax_wm (List.mem_append_right _ (List.mem_of_getElem? h)) g
theorem ax_wp {w : Cond} (i : Nat) (h : (k2_sels lw_privs)[i]? = some w) (g : goodWord w = true) : w ∈ ax_ws := ax_wm (List.mem_append_left _ (List.mem_of_getElem? h)) g
def ax_isNest (w : Cond) : Bool := match w with
  | .methodLinkNest .. => true
  | .fieldLinkNest .. => true
  | _ => false
def ax_nw : List Cond := tables_1.filter ax_isNest
theorem ax_nwm {w : Cond} (i : Nat) (h : tables_1[i]? = some w) (g : ax_isNest w = true) : w ∈ ax_nw := List.mem_filter.mpr ⟨List.mem_of_getElem? h, g⟩
def ax_ao : List String := [RX2, RX1, RX3]
def ax_tys (z : ax_Z) : List (ClassId × FieldType) := [(z.2.1 0, .int), (z.2.1 1, .char), (z.2.1 2, .object RX2), (z.2.1 3, .object RX1), (z.2.1 4, .object RX3)]
/-- what a method's body stands on -/
def ax_cx (z : ax_Z) (j : Nat) (p : Program) (s : State) (m : MethodId) (args : Array Value) (meth : Method) (c : Code) : Prop :=
  p.tables.exec = Jvm.exec ∧ c.code = ax_code j ∧ c.maxLocals = ax_nL j ∧ s.vm.findClass (ax_y j).cls = some m.cls ∧ (∀ w ∈ ax_ws, w.before args s = true) ∧ (∀ w ∈ ax_nw, va_Nw w s) ∧ (∀ C ∈ ax_ao, va_AO C s) ∧ va_K z.1 vwCl (ax_tys z) s ∧ ((ax_y j).name = "<init>" → meth.name = "<init>")
/-- the JVM at a place of the small machine comes to Q -/
def ax_W (p : Program) (l : Launch) (e : Env) (R : Room) (s : State) (m : MethodId) (args : Array Value) (below : List Frame) (meth : Method) (c : Code) (Q : State → Prop) (z : ax_Z) (n0 s0 nL pc : Nat) (L : ax_L) (st : List ax_V) (h : ax_H) : Prop :=
  ∀ (ls : Array Slot) (H : Heap) (locs : List Loc) (cells slots : Nat), lv_has ls nL (ax_lof z 0 L) → ax_rel z h s H → (∀ q ∈ locs, z.2.2.1 ≤ q.base) → cells + n0 = h.1 → slots + s0 = h.2.1 → W p l e R s m args below meth c H locs cells slots Q (F0 m pc ls (st.map (ax_cv z)))
/-- a step that isn't a call -/
def ax_OK (j pc : Nat) (o : ax_O) : Prop := ∀ (p : Program) (l : Launch) (e : Env) (R : Room) (s : State) (m : MethodId) (args : Array Value) (below : List Frame) (meth : Method) (c : Code) (Q : State → Prop) (z : ax_Z) (n0 s0 : Nat), ax_cx z j p s m args meth c → 1 ≤ R.frames → 20 ≤ R.locals →
  ∀ (L : ax_L) (st : List ax_V) (h : ax_H) (i' : Nat) (L' : ax_L) (st' : List ax_V) (h' : ax_H), o L st h = some (.inl (i', L', st', h')) → h'.1 ≤ R.cells + n0 → h'.2.1 ≤ R.slots + s0 → ax_W p l e R s m args below meth c Q z n0 s0 (ax_nL j) (ax_pc j i') L' st' h' → ax_W p l e R s m args below meth c Q z n0 s0 (ax_nL j) pc L st h
/-- a method's start and end -/
def ax_Pc (z : ax_Z) (as : List ax_V) (h : ax_H) : Array Value → State → Prop := va_Pc (as.map (ax_cv z)) (fun U => ax_rel z h U U.heap ∧ va_K z.1 vwCl (ax_tys z) U ∧ (∀ w ∈ ax_nw, va_Nw w U) ∧ (∀ C ∈ ax_ao, va_AO C U))
def ax_Qc (z : ax_Z) (r : Option ax_V) (h : ax_H) : Array Value → State → Outcome → State → Prop := fun _ _ o t => o = .returned (r.map (ax_cv z)) ∧ ax_rel z h t t.heap
def ax_wsm (j : Nat) : List Cond := Cond.code (ax_y j) (ax_code j) (ax_nL j) (ax_rt0 j) :: ax_ws
def ax_Met (l : Launch) (z : ax_Z) (d k : Nat) (as : List ax_V) (h : ax_H) (r : Option ax_V) (h' : ax_H) : Prop :=
  Met l (ax_y k) (ax_wsm k) { frames := d, cells := h'.1 - h.1, slots := h'.2.1 - h.2.1, locals := 60 * d } (ax_Pc z as h) (ax_Qc z r h') (h'.1 - h.1) (h'.2.1 - h.2.1) (fun q => z.2.2.1 ≤ q)
/-- a step that calls -/
def ax_OKc (j pc : Nat) (o : ax_O) : Prop := ∀ (p : Program) (l : Launch) (e : Env) (R : Room) (s : State) (m : MethodId) (args : Array Value) (below : List Frame) (meth : Method) (c : Code) (Q : State → Prop) (z : ax_Z) (n0 s0 d : Nat), ax_cx z j p s m args meth c → d + 1 ≤ R.frames → 60 * (d + 1) ≤ R.locals →
  ∀ (L : ax_L) (st : List ax_V) (h : ax_H) (k : Nat) (as : List ax_V) (i' : Nat) (L' : ax_L) (st' : List ax_V), o L st h = some (.inr (.inl (k, as, i', L', st'))) → ∀ (r : Option ax_V) (h' : ax_H), ax_Met l z d k as h r h' → h.1 ≤ h'.1 → h.2.1 ≤ h'.2.1 → h'.1 ≤ R.cells + n0 → h'.2.1 ≤ R.slots + s0 →
  ax_W p l e R s m args below meth c Q z n0 s0 (ax_nL j) (ax_pc j i') L' (r.toList ++ st') h' → ax_W p l e R s m args below meth c Q z n0 s0 (ax_nL j) pc L st h
/-- a step that returns -/
def ax_OKr (j pc : Nat) (o : ax_O) : Prop := ∀ (p : Program) (l : Launch) (e : Env) (R : Room) (s : State) (m : MethodId) (args : Array Value) (below : List Frame) (meth : Method) (c : Code) (z : ax_Z) (n0 s0 : Nat), ax_cx z j p s m args meth c → meth.locks = false → meth.sig.returnType = ax_rt0 j →
  ∀ (L : ax_L) (st : List ax_V) (h : ax_H) (r : Option ax_V), o L st h = some (.inr (.inr r)) → ax_W p l e R s m args below meth c (MQ below (ax_Qc z r h) args s (h.1 - n0) (h.2.1 - s0) (fun q => z.2.2.1 ≤ q)) z n0 s0 (ax_nL j) pc L st h
/-- the heap grows -/
def ax_gr (o : ax_O) : Prop := ∀ L st h x, o L st h = some (.inl x) → h.1 ≤ x.2.2.2.1 ∧ h.2.1 ≤ x.2.2.2.2.1
/-- a called method's arguments fit its locals -/
def ax_ln (o : ax_O) : Prop := ∀ L st h k as i' L' st', o L st h = some (.inr (.inl (k, as, i', L', st'))) → as.length ≤ ax_nL k ∧ plainName (ax_y k).cls = true
/-- all of them -/
def ax_Ok (j pc : Nat) (o : ax_O) : Prop := ax_OK j pc o ∧ ax_OKc j pc o ∧ ax_OKr j pc o ∧ ax_gr o ∧ ax_ln o
/-- no call and no return -/
def ax_pl (o : ax_O) : Prop := (∀ L st h x, o L st h ≠ some (.inr x)) ∧ ax_gr o
theorem ax_Ok.of {j pc : Nat} {o : ax_O} (hp : ax_pl o) (h : ax_OK j pc o) : ax_Ok j pc o :=
  ⟨h, fun _ _ _ _ _ _ _ _ _ _ _ _ _ _ _ _ _ _ _ _ _ _ _ _ _ _ q => absurd q (hp.1 _ _ _ _), fun _ _ _ _ _ _ _ _ _ _ _ _ _ _ _ _ _ _ _ _ q => absurd q (hp.1 _ _ _ _), hp.2, fun _ _ _ _ _ _ _ _ q => absurd q (hp.1 _ _ _ _)⟩
