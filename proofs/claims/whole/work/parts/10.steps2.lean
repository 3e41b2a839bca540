/-! Fields, arrays, new cells, calls, returns. -/
theorem ax_inE {i : Int32} {n : Nat} (h : ax_in i n = true) : vp_in i n := by
  unfold ax_in at h
  rw [Bool.and_eq_true, decide_eq_true_eq, decide_eq_true_eq] at h
  exact fun q => q.elim h.1 (fun z => Nat.lt_irrefl _ (Nat.lt_of_lt_of_le h.2 z))
theorem ax_ccI (z : ax_Z) (t n : Nat) (f : Nat → Int32) : ax_cc z (.inl (t, n, .inl f)) = .inl (z.2.1 t, n, .inl f) := rfl
theorem ax_ccO (z : ax_Z) (ci : Nat) (fs : List ax_V) : ax_cc z (.inr (ci, fs)) = .inr (ci, fs.map (ax_cv z)) := rfl
theorem ax_one {z : ax_Z} {h : ax_H} {s : State} {H : Heap} (hr : ax_rel z h s H) {o : Nat} {c : ax_C} (h0 : 0 < o) (h1 : o < h.1) (hc : h.2.2 o = c) : va_P z.1 vwCl [(ax_ad z o, ax_cc z c)] H := by
  intro k q hk
  have hz : k = 0 := by
    have := (List.getElem?_eq_some_iff.mp hk).1
    simp at this
    omega
  subst hz
  cases hk
  rw [← hc]
  exact hr.at h0 h1
theorem ok_get {j pc ci k nx : Nat} {C : String} {T : u_T} {N idx : Nat} (hcl : vwCl[ci]? = some (C, T, N)) (hin : ∀ w ∈ u_ws C T N, w ∈ ax_ws) (hk : k < N) {ref name desc : String} (hlink : Cond.fieldLink (ax_y j).cls idx ref name desc ∈ ax_ws) (hT : ((T k).1, (T k).2.1, (T k).2.2.1) = (ref, name, desc)) (hd : decode (ax_code j) pc = .ok (.getfield idx, 3)) (hn : ax_pc j nx = pc + 3) : ax_Ok j pc (ax_get ci k nx) := by
  refine ax_Ok.of (pl_get _ _ _) ?_
  intro p l e R s m args below meth c Q z n0 s0 cx hfr hlo L st h i' L' st' h' ho hcz hsz kk ls H locs cells slots hl hr hq hc hs
  obtain ⟨hx, hb, hml, hown, hts, hnw, hao, hK, hini⟩ := cx
  cases hT
  unfold ax_get at ho
  split at ho
  · next o t =>
    split at ho
    · next cj fs hcell =>
      split at ho
      · next hcnd =>
        obtain ⟨rfl, h0, h1⟩ := hcnd
        split at ho
        · next v hv =>
          cases ho
          rw [hn] at kk
          exact va_get (D := z.1) (ci := cj) hx hb hts hin hown hK (ax_one hr h0 h1 hcell) 0 rfl hcl k hk (hts _ hlink) (fun _ h9 => h9) (v := ax_cv z v) (by rw [List.getElem?_map, hv]; rfl) hd (kk ls H locs cells slots hl hr hq hc hs)
        · cases ho
      · cases ho
    · cases ho
  · cases ho
theorem ok_getN {j pc ci k nx : Nat} {C : String} {T : u_T} {N idx : Nat} {host : String} (hcl : vwCl[ci]? = some (C, T, N)) (hin : ∀ w ∈ u_ws C T N, w ∈ ax_ws) (hk : k < N) {ref name desc : String} (hlink : Cond.fieldLinkNest (ax_y j).cls idx ref name desc host ∈ ax_nw) (hT : ((T k).1, (T k).2.1, (T k).2.2.1) = (ref, name, desc)) (hd : decode (ax_code j) pc = .ok (.getfield idx, 3)) (hn : ax_pc j nx = pc + 3) : ax_Ok j pc (ax_get ci k nx) := by
  refine ax_Ok.of (pl_get _ _ _) ?_
  intro p l e R s m args below meth c Q z n0 s0 cx hfr hlo L st h i' L' st' h' ho hcz hsz kk ls H locs cells slots hl hr hq hc hs
  obtain ⟨hx, hb, hml, hown, hts, hnw, hao, hK, hini⟩ := cx
  cases hT
  unfold ax_get at ho
  split at ho
  · next o t =>
    split at ho
    · next cj fs hcell =>
      split at ho
      · next hcnd =>
        obtain ⟨rfl, h0, h1⟩ := hcnd
        split at ho
        · next v hv =>
          cases ho
          rw [hn] at kk
          exact va_getN (D := z.1) (ci := cj) hx hb hts hin hown hK (ax_one hr h0 h1 hcell) 0 rfl hcl k hk (va_Nw.use rfl (hnw _ hlink)) (fun _ h9 => h9) (v := ax_cv z v) (by rw [List.getElem?_map, hv]; rfl) hd (kk ls H locs cells slots hl hr hq hc hs)
        · cases ho
      · cases ho
    · cases ho
  · cases ho
def ax_ftOk (ty : Nat) (ft : FieldType) : Prop := match ty with
  | 0 => ft = .int
  | 1 => ft = .boolean
  | 2 => ft = .char
  | _ => ft.isReference = true
/-- what fits a field, as the JVM says it -/
theorem ax_fitE {z : ax_Z} {ty : Nat} {v : ax_V} {ft : FieldType} (h : ax_fit ty v = true) (hf : ax_ftOk ty ft) : narrow ft (ax_cv z v) = ax_cv z v ∧ fits ft (ax_cv z v) = true := by
  rcases v with x | r
  · unfold ax_fit at h
    dsimp only at h
    split at h
    · have hf : ft = .int := hf
      subst hf; exact ⟨rfl, rfl⟩
    · have hf : ft = .boolean := hf
      subst hf
      rcases of_decide_eq_true h with rfl | rfl <;> exact ⟨rfl, rfl⟩
    · have hf : ft = .char := hf
      subst hf
      have h := of_decide_eq_true h
      show narrow .char (.int x) = .int x ∧ fits .char (.int x) = true
      rw [← h]
      exact ⟨pk_nc x, pk_fc x⟩
    · cases h
  · unfold ax_fit at h
    have h3 : ty = 3 := by simpa using h
    subst h3
    have hf : ft.isReference = true := hf
    cases r <;> cases ft <;> first | (cases hf; done) | exact ⟨rfl, rfl⟩
/-- an object's cell behind a put -/
theorem ax_putAt {z : ax_Z} {o ci : Nat} {C : String} {T : u_T} {N k : Nat} {fs : List ax_V} {v : ax_V} {H1 : Heap} {cell : Cell} {i0 : Nat} (hcl : vwCl[ci]? = some (C, T, N)) (q2 : cell.cls = z.1.1 ci) (q3 : cell.vm = .none) (q4 : ∀ k, k < N → cell.slots[z.1.2 ci k]? = some (vp_V (fs.map (ax_cv z)) k)) (hap : ∀ x y, x < N → y < N → x ≠ y → z.1.2 ci x ≠ z.1.2 ci y) (hk : k < N) (hl : k < fs.length) (he : i0 = z.1.2 ci k) (e1 : H1[ax_ad z o]? = some (cell.setSlot i0 (ax_cv z v))) : va_at z.1 vwCl (ax_ad z o, ax_cc z (.inr (ci, fs.set k v))) H1 := by
  subst he
  refine ⟨_, hcl, ?_⟩
  have hm : (fs.set k v).map (ax_cv z) = (fs.map (ax_cv z)).set k (ax_cv z v) := by rw [List.map_set]
  show t_OB _ _ _ _ H1 (vp_V ((fs.set k v).map (ax_cv z)))
  rw [hm]
  exact t_OB.to (V := updV (vp_V (fs.map (ax_cv z))) k (ax_cv z v)) ⟨_, e1, q2, q3, t_set q4 hap hk _⟩ (fun j _ => vp_updV_set (by simpa using hl) _ j)
theorem ok_put {j pc ci k ty nx : Nat} {C : String} {T : u_T} {N idx : Nat} (hcl : vwCl[ci]? = some (C, T, N)) (hin : ∀ w ∈ u_ws C T N, w ∈ ax_ws) (ty0 : Nat → FieldType) (hty : ∀ k, k < N → parseFieldDescriptor (T k).2.2.1 = some (ty0 k)) (hnm : ∀ a, a < N → ∀ b, b < N → a ≠ b → (T a).2.1 ≠ (T b).2.1) (hk : k < N) {ref name desc : String} (hlink : Cond.fieldLink (ax_y j).cls idx ref name desc ∈ ax_ws) (hT : ((T k).1, (T k).2.1, (T k).2.2.1) = (ref, name, desc)) (hfin : (T k).2.2.2 = false) (hft : ax_ftOk ty (ty0 k)) (hd : decode (ax_code j) pc = .ok (.putfield idx, 3)) (hn : ax_pc j nx = pc + 3) : ax_Ok j pc (ax_put ci k ty nx) := by
  refine ax_Ok.of (pl_put _ _ _ _) ?_
  intro p l e R s m args below meth c Q z n0 s0 cx hfr hlo L st h i' L' st' h' ho hcz hsz kk ls H locs cells slots hl hr hq hc hs
  obtain ⟨hx, hb, hml, hown, hts, hnw, hao, hK, hini⟩ := cx
  cases hT
  unfold ax_put at ho
  split at ho
  · next v o t =>
    split at ho
    · next cj fs hcell =>
      split at ho
      · next hcnd =>
        obtain ⟨rfl, h0, h1, hkl, hfit⟩ := hcnd
        cases ho
        rw [hn] at kk
        obtain ⟨hn1, hn2⟩ := ax_fitE (z := z) hfit hft
        have hap := va_apart (own := C) hts hin ty0 hty hnm hK hcl
        have hat := hr.at h0 h1
        rw [hcell] at hat
        obtain ⟨r, h1', cell, q1, q2, q3, q4⟩ := hat
        have hrr : r = (C, T, N) := Option.some.inj (h1'.symm.trans hcl)
        subst hrr
        obtain ⟨hS, hfc, kC, hkC, hkind⟩ := hK.1 cj _ hcl
        obtain ⟨cf, kf, fi, f, hi, hsl⟩ := hS k hk
        have hlay := hts _ (hin _ (u_in_lay hk))
        unfold u_lay at hlay
        rw [if_neg (by rw [hfin]; decide)] at hlay
        have hst := (u_facts hfc hkC (u_lays hts hin hk) hi).1
        have h6 := u_store hfc hkC hkind hlay hi (hty k hk) hn1 hn2
        refine W.putK hx hb (f := f) ⟨hown, hts _ hlink, ⟨_, _, _, hi⟩, hst⟩ (by rw [q2]; exact h6) q1 q3 (by rw [hsl]; exact k2_hasslot (q4 k hk)) rfl rfl hd fun H' e1 e2 e3 => ?_
        refine kk ls H' _ cells slots hl (hr.set h0 _ e2 (ax_putAt hcl q2 q3 q4 hap hk hkl hsl e1) e3) (fun q hq' => ?_) hc hs
        rcases List.mem_append.mp hq' with h | h
        · exact hq q h
        · rw [List.mem_singleton.mp h]; exact ax_ad_ge h0
      · cases ho
    · cases ho
  · cases ho
theorem ok_putN {j pc ci k ty nx : Nat} {C : String} {T : u_T} {N idx : Nat} {host : String} (hcl : vwCl[ci]? = some (C, T, N)) (hin : ∀ w ∈ u_ws C T N, w ∈ ax_ws) (ty0 : Nat → FieldType) (hty : ∀ k, k < N → parseFieldDescriptor (T k).2.2.1 = some (ty0 k)) (hnm : ∀ a, a < N → ∀ b, b < N → a ≠ b → (T a).2.1 ≠ (T b).2.1) (hk : k < N) {ref name desc : String} (hlink : Cond.fieldLinkNest (ax_y j).cls idx ref name desc host ∈ ax_nw) (hT : ((T k).1, (T k).2.1, (T k).2.2.1) = (ref, name, desc)) (hfin : (T k).2.2.2 = false) (hft : ax_ftOk ty (ty0 k)) (hd : decode (ax_code j) pc = .ok (.putfield idx, 3)) (hn : ax_pc j nx = pc + 3) : ax_Ok j pc (ax_put ci k ty nx) := by
  refine ax_Ok.of (pl_put _ _ _ _) ?_
  intro p l e R s m args below meth c Q z n0 s0 cx hfr hlo L st h i' L' st' h' ho hcz hsz kk ls H locs cells slots hl hr hq hc hs
  obtain ⟨hx, hb, hml, hown, hts, hnw, hao, hK, hini⟩ := cx
  cases hT
  unfold ax_put at ho
  split at ho
  · next v o t =>
    split at ho
    · next cj fs hcell =>
      split at ho
      · next hcnd =>
        obtain ⟨rfl, h0, h1, hkl, hfit⟩ := hcnd
        cases ho
        rw [hn] at kk
        obtain ⟨hn1, hn2⟩ := ax_fitE (z := z) hfit hft
        have hap := va_apart (own := C) hts hin ty0 hty hnm hK hcl
        have hat := hr.at h0 h1
        rw [hcell] at hat
        obtain ⟨r, h1', cell, q1, q2, q3, q4⟩ := hat
        have hrr : r = (C, T, N) := Option.some.inj (h1'.symm.trans hcl)
        subst hrr
        obtain ⟨hS, hfc, kC, hkC, hkind⟩ := hK.1 cj _ hcl
        obtain ⟨cf, kf, fi, f, hi, hsl⟩ := hS k hk
        have hlay := hts _ (hin _ (u_in_lay hk))
        unfold u_lay at hlay
        rw [if_neg (by rw [hfin]; decide)] at hlay
        have hst := (u_facts hfc hkC (u_lays hts hin hk) hi).1
        have h6 := u_store hfc hkC hkind hlay hi (hty k hk) hn1 hn2
        refine va_WputK hx hb (f := f) hown (va_Nw.use rfl (hnw _ hlink)) hi hst (by rw [q2]; exact h6) q1 q3 (by rw [hsl]; exact k2_hasslot (q4 k hk)) rfl rfl hd fun H' e1 e2 e3 => ?_
        refine kk ls H' _ cells slots hl (hr.set h0 _ e2 (ax_putAt hcl q2 q3 q4 hap hk hkl hsl e1) e3) (fun q hq' => ?_) hc hs
        rcases List.mem_append.mp hq' with h | h
        · exact hq q h
        · rw [List.mem_singleton.mp h]; exact ax_ad_ge h0
      · cases ho
    · cases ho
  · cases ho
theorem ok_putF {j pc ci k ty nx : Nat} {C : String} {T : u_T} {N idx : Nat} (hcl : vwCl[ci]? = some (C, T, N)) (hin : ∀ w ∈ u_ws C T N, w ∈ ax_ws) (ty0 : Nat → FieldType) (hty : ∀ k, k < N → parseFieldDescriptor (T k).2.2.1 = some (ty0 k)) (hnm : ∀ a, a < N → ∀ b, b < N → a ≠ b → (T a).2.1 ≠ (T b).2.1) (hk : k < N) {ref name desc : String} (hlink : Cond.fieldLink (ax_y j).cls idx ref name desc ∈ ax_ws) (hT : ((T k).1, (T k).2.1, (T k).2.2.1) = (ref, name, desc)) (hfin : (T k).2.2.2 = true) (hdecl : (T k).1 = (ax_y j).cls) (hnmi : (ax_y j).name = "<init>") (hft : ax_ftOk ty (ty0 k)) (hd : decode (ax_code j) pc = .ok (.putfield idx, 3)) (hn : ax_pc j nx = pc + 3) : ax_Ok j pc (ax_put ci k ty nx) := by
  refine ax_Ok.of (pl_put _ _ _ _) ?_
  intro p l e R s m args below meth c Q z n0 s0 cx hfr hlo L st h i' L' st' h' ho hcz hsz kk ls H locs cells slots hl hr hq hc hs
  obtain ⟨hx, hb, hml, hown, hts, hnw, hao, hK, hini⟩ := cx
  cases hT
  unfold ax_put at ho
  split at ho
  · next v o t =>
    split at ho
    · next cj fs hcell =>
      split at ho
      · next hcnd =>
        obtain ⟨rfl, h0, h1, hkl, hfit⟩ := hcnd
        cases ho
        rw [hn] at kk
        obtain ⟨hn1, hn2⟩ := ax_fitE (z := z) hfit hft
        have hap := va_apart (own := C) hts hin ty0 hty hnm hK hcl
        have hat := hr.at h0 h1
        rw [hcell] at hat
        obtain ⟨r, h1', cell, q1, q2, q3, q4⟩ := hat
        have hrr : r = (C, T, N) := Option.some.inj (h1'.symm.trans hcl)
        subst hrr
        obtain ⟨hS, hfc, kC, hkC, hkind⟩ := hK.1 cj _ hcl
        obtain ⟨cf, kf, fi, f, hi, hsl⟩ := hS k hk
        have hst := (u_facts hfc hkC (u_lays hts hin hk) hi).1
        have h6 := u_fits hfc hkC hkind (u_lays hts hin hk) hi (hty k hk) hn1 hn2
        have hlay := hts _ (hin _ (u_in_lay hk))
        unfold u_lay at hlay
        rw [if_pos hfin] at hlay
        have hcf : m.cls = cf := by
          obtain ⟨_, _, c', _, _, _, -, -, hf', -, -, -, hown2, -⟩ := Cond.laysFinal_spec hlay
          have e1 : c' = cf := by have := hi.symm.trans hf'; simp at this; exact this.1.symm
          rw [hdecl] at hown2
          rw [← e1]; exact Option.some.inj (hown.symm.trans hown2)
        refine W.putFinK hx hb hown (hts _ hlink) hi hst hcf (hini hnmi) (by rw [q2]; exact h6) q1 q3 (by rw [hsl]; exact k2_hasslot (q4 k hk)) rfl rfl hd fun H' e1 e2 e3 => ?_
        refine kk ls H' _ cells slots hl (hr.set h0 _ e2 (ax_putAt hcl q2 q3 q4 hap hk hkl hsl e1) e3) (fun q hq' => ?_) hc hs
        rcases List.mem_append.mp hq' with h | h
        · exact hq q h
        · rw [List.mem_singleton.mp h]; exact ax_ad_ge h0
      · cases ho
    · cases ho
  · cases ho
