/-! Arrays, new cells. -/
theorem ax_locs {z : ax_Z} {locs : List Loc} {o i : Nat} (h0 : 0 < o) (hq : ∀ q ∈ locs, z.2.2.1 ≤ q.base) : ∀ q ∈ locs ++ [⟨ax_ad z o, i⟩], z.2.2.1 ≤ q.base := by
  intro q hq'
  rcases List.mem_append.mp hq' with h | h
  · exact hq q h
  · rw [List.mem_singleton.mp h]; exact ax_ad_ge h0
theorem ax_arr {z : ax_Z} {h : ax_H} {s : State} {H : Heap} (hr : ax_rel z h s H) {o t n : Nat} {f : Nat → Int32} (h0 : 0 < o) (h1 : o < h.1) (hc : h.2.2 o = .inl (t, n, .inl f)) : H[ax_ad z o]? = some (arrV (z.2.1 t) n (fun j => .int (f j))) := by
  have := hr.at h0 h1
  rw [hc] at this
  exact this
theorem ok_iald {j pc nx : Nat} (hd : decode (ax_code j) pc = .ok (.iaload, 1)) (hn : ax_pc j nx = pc + 1) : ax_Ok j pc (ax_ald 0 nx) := by
  refine ax_Ok.of (pl_ald _ _) ?_
  intro p l e R s m args below meth c Q z n0 s0 cx hfr hlo L st h i' L' st' h' ho hcz hsz kk ls H locs cells slots hl hr hq hc hs
  obtain ⟨hx, hb, hml, hown, hts, hnw, hao, hK, hini⟩ := cx
  unfold ax_ald at ho
  split at ho
  · next i o t =>
    split at ho
    · next tz n f hcell =>
      split at ho
      · next hcnd =>
        obtain ⟨rfl, h0, h1, hin⟩ := hcnd
        cases ho
        rw [hn] at kk
        exact va_iald hx hb hK (ax_one hr h0 h1 hcell) 0 0 rfl rfl (ax_inE hin) hd (kk ls H locs cells slots hl hr hq hc hs)
      · cases ho
    · cases ho
  · cases ho
theorem ok_cald {j pc nx : Nat} (hd : decode (ax_code j) pc = .ok (.caload, 1)) (hn : ax_pc j nx = pc + 1) : ax_Ok j pc (ax_ald 1 nx) := by
  refine ax_Ok.of (pl_ald _ _) ?_
  intro p l e R s m args below meth c Q z n0 s0 cx hfr hlo L st h i' L' st' h' ho hcz hsz kk ls H locs cells slots hl hr hq hc hs
  obtain ⟨hx, hb, hml, hown, hts, hnw, hao, hK, hini⟩ := cx
  unfold ax_ald at ho
  split at ho
  · next i o t =>
    split at ho
    · next tz n f hcell =>
      split at ho
      · next hcnd =>
        obtain ⟨rfl, h0, h1, hin⟩ := hcnd
        cases ho
        rw [hn] at kk
        exact va_cald hx hb hK (ax_one hr h0 h1 hcell) 0 1 rfl rfl (ax_inE hin) hd (kk ls H locs cells slots hl hr hq hc hs)
      · cases ho
    · cases ho
  · cases ho
theorem ok_sld {j pc nx : Nat} (hd : decode (ax_code j) pc = .ok (.iaload, 1)) (hn : ax_pc j nx = pc + 1) : ax_Ok j pc (ax_sld nx) := by
  refine ax_Ok.of (pl_sld _) ?_
  intro p l e R s m args below meth c Q z n0 s0 cx hfr hlo L st h i' L' st' h' ho hcz hsz kk ls H locs cells slots hl hr hq hc hs
  obtain ⟨hx, hb, hml, hown, hts, hnw, hao, hK, hini⟩ := cx
  unfold ax_sld at ho
  split at ho
  · next i t =>
    split at ho
    · next n f hcell =>
      split at ho
      · next hin =>
        cases ho
        rw [hn] at kk
        obtain ⟨LL, xs, e1, scr, c1, c2, c3, c4, c5⟩ := hr.2.2.2.2
        rw [hcell] at e1
        cases e1
        have hv := ax_inE hin
        have hlt : i.toNatClampNeg < n := Nat.not_le.mp fun q => hv (Or.inr q)
        exact W.iald (v := .int (f i.toNatClampNeg)) hx hb c1 c2 c3 (by rw [c4]; exact hv) (c5 _ hlt) rfl rfl hd (kk ls H locs cells slots hl hr hq hc hs)
      · cases ho
    · cases ho
  · cases ho
theorem ok_slen {j pc nx : Nat} (hd : decode (ax_code j) pc = .ok (.arraylength, 1)) (hn : ax_pc j nx = pc + 1) : ax_Ok j pc (ax_slen nx) := by
  refine ax_Ok.of (pl_slen _) ?_
  intro p l e R s m args below meth c Q z n0 s0 cx hfr hlo L st h i' L' st' h' ho hcz hsz kk ls H locs cells slots hl hr hq hc hs
  obtain ⟨hx, hb, hml, hown, hts, hnw, hao, hK, hini⟩ := cx
  unfold ax_slen at ho
  split at ho
  · next t =>
    split at ho
    · next n f hcell =>
      cases ho
      rw [hn] at kk
      obtain ⟨LL, xs, e1, scr, c1, c2, c3, c4, c5⟩ := hr.2.2.2.2
      rw [hcell] at e1
      cases e1
      exact W.alen hx hb c1 c2 (by rw [c4]) rfl rfl hd (kk ls H locs cells slots hl hr hq hc hs)
    · cases ho
  · cases ho
theorem ax_stAt {z : ax_Z} {o t n : Nat} {f : Nat → Int32} {i : Nat} {x : Int32} {H1 : Heap} (e : H1[ax_ad z o]? = some ((arrV (z.2.1 t) n (fun j => .int (f j))).setSlot i (.int x))) : va_at z.1 vwCl (ax_ad z o, ax_cc z (.inl (t, n, .inl (upd f i x)))) H1 := by
  show H1[ax_ad z o]? = some (vp_cell _ _)
  rw [e, vp_cell_i, arrV_store]
  congr 2
  funext q
  by_cases hq : q = i
  · subst hq; simp [updV, upd]
  · simp [updV, upd, hq]
theorem ok_iast {j pc nx : Nat} (hd : decode (ax_code j) pc = .ok (.iastore, 1)) (hn : ax_pc j nx = pc + 1) : ax_Ok j pc (ax_ast 0 nx) := by
  refine ax_Ok.of (pl_ast _ _) ?_
  intro p l e R s m args below meth c Q z n0 s0 cx hfr hlo L st h i' L' st' h' ho hcz hsz kk ls H locs cells slots hl hr hq hc hs
  obtain ⟨hx, hb, hml, hown, hts, hnw, hao, hK, hini⟩ := cx
  unfold ax_ast at ho
  split at ho
  · next x i o t =>
    split at ho
    · next tz n f hcell =>
      split at ho
      · next hcnd =>
        obtain ⟨rfl, h0, h1, hin⟩ := hcnd
        cases ho
        rw [hn] at kk
        refine W.iast hx hb (ax_arr hr h0 h1 hcell) ((hK.2 0 _ rfl).1 n (fun j => .int (f j))) (fun q => by cases q) (by rw [arrV_size]; exact ax_inE hin) rfl rfl hd fun H1 e1 e2 e3 => ?_
        exact kk ls H1 _ cells slots hl (hr.set h0 _ e2 (ax_stAt e1) e3) (ax_locs h0 hq) hc hs
      · cases ho
    · cases ho
  · cases ho
theorem ax_narC (x : Int32) : narrow .char (.int x) = .int (vp_nar .char x) := rfl
theorem ok_cast {j pc nx : Nat} (hd : decode (ax_code j) pc = .ok (.castore, 1)) (hn : ax_pc j nx = pc + 1) : ax_Ok j pc (ax_ast 1 nx) := by
  refine ax_Ok.of (pl_ast _ _) ?_
  intro p l e R s m args below meth c Q z n0 s0 cx hfr hlo L st h i' L' st' h' ho hcz hsz kk ls H locs cells slots hl hr hq hc hs
  obtain ⟨hx, hb, hml, hown, hts, hnw, hao, hK, hini⟩ := cx
  unfold ax_ast at ho
  split at ho
  · next x i o t =>
    split at ho
    · next tz n f hcell =>
      split at ho
      · next hcnd =>
        obtain ⟨rfl, h0, h1, hin⟩ := hcnd
        cases ho
        rw [hn] at kk
        refine W.cast hx hb (ax_arr hr h0 h1 hcell) ((hK.2 1 _ rfl).1 n (fun j => .int (f j))) (fun q => by cases q) (by rw [arrV_size]; exact ax_inE hin) rfl rfl hd fun H1 e1 e2 e3 => ?_
        rw [ax_narC] at e1
        exact kk ls H1 _ cells slots hl (hr.set h0 _ e2 (ax_stAt e1) e3) (ax_locs h0 hq) hc hs
      · cases ho
    · cases ho
  · cases ho
/-- the type of an array of references, by its number -/
theorem ax_ety {z : ax_Z} {t : Nat} (h2 : 2 ≤ t) (h4 : t ≤ 4) : ∃ r : vw_C, vwCl[ax_ec t]? = some r ∧ (ax_tys z)[t]? = some (z.2.1 t, .object r.1) := by
  rcases (by omega : t = 2 ∨ t = 3 ∨ t = 4) with rfl | rfl | rfl
  · exact ⟨_, rfl, rfl⟩
  · exact ⟨_, rfl, rfl⟩
  · exact ⟨_, rfl, rfl⟩
theorem ok_aald {j pc nx : Nat} (hd : decode (ax_code j) pc = .ok (.aaload, 1)) (hn : ax_pc j nx = pc + 1) : ax_Ok j pc (ax_aald nx) := by
  refine ax_Ok.of (pl_aald _) ?_
  intro p l e R s m args below meth c Q z n0 s0 cx hfr hlo L st h i' L' st' h' ho hcz hsz kk ls H locs cells slots hl hr hq hc hs
  obtain ⟨hx, hb, hml, hown, hts, hnw, hao, hK, hini⟩ := cx
  unfold ax_aald at ho
  split at ho
  · next i o t =>
    split at ho
    · next tz n f hcell =>
      split at ho
      · next hcnd =>
        obtain ⟨ha, hb', h0, h1, hin⟩ := hcnd
        cases ho
        rw [hn] at kk
        obtain ⟨r, -, hr2⟩ := ax_ety (z := z) ha hb'
        exact va_aldq hx hb hK (ax_one hr h0 h1 hcell) 0 tz rfl hr2 (ax_inE hin) hd (kk ls H locs cells slots hl hr hq hc hs)
      · cases ho
    · cases ho
  · cases ho
theorem ok_aast {j pc nx : Nat} (hd : decode (ax_code j) pc = .ok (.aastore, 1)) (hn : ax_pc j nx = pc + 1) : ax_Ok j pc (ax_aast nx) := by
  refine ax_Ok.of (pl_aast _) ?_
  intro p l e R s m args below meth c Q z n0 s0 cx hfr hlo L st h i' L' st' h' ho hcz hsz kk ls H locs cells slots hl hr hq hc hs
  obtain ⟨hx, hb, hml, hown, hts, hnw, hao, hK, hini⟩ := cx
  unfold ax_aast at ho
  split at ho
  · next v i o t =>
    split at ho
    · next tz n f cj fs hcell hcv =>
      split at ho
      · next hcnd =>
        obtain ⟨ha, hb', h0, h1, hin, v0, v1, rfl⟩ := hcnd
        cases ho
        rw [hn] at kk
        obtain ⟨r, hc0, hr2⟩ := ax_ety (z := z) ha hb'
        have hvin := ax_inE hin
        have hlt : i.toNatClampNeg < n := Nat.not_le.mp fun q => hvin (Or.inr q)
        have hni : ¬ i < 0 := fun q => hvin (Or.inl q)
        have hat := hr.at v0 v1
        rw [hcv] at hat
        obtain ⟨r', hr', cellV, g1, g2, g3, -⟩ := hat
        have hcls := (hK.1 (ax_ec tz) r hc0).2
        obtain ⟨kA, comp, k1, k2, k3, -⟩ := (hK.2 tz _ hr2).2
        have hcomp : comp = z.1.1 (ax_ec tz) := Option.some.inj (k3.symm.trans hcls.1)
        subst hcomp
        obtain ⟨kC, hkC, -⟩ := hcls.2
        have hao' := hr.at h0 h1
        rw [hcell] at hao'
        have hao2 : H[ax_ad z o]? = some (arrV (z.2.1 tz) n (fun j => va_rf ((f j).map (ax_ad z)))) := hao'
        refine W.aast hx hb hao2 (fun q h => by cases h) (fun h => by cases h) k1 k2 rfl hkC ⟨hni, by rw [arrV_size]; exact hlt⟩ g1 (fun q h => by rw [g3] at h; cases h) (by rw [g2]; exact hkC) (by rw [g2]; exact va_assign hcls) rfl rfl hd fun H1 e1 e2 e3 => ?_
        refine kk ls H1 _ cells slots hl (hr.set h0 _ e2 ?_ e3) (ax_locs h0 hq) hc hs
        show H1[ax_ad z o]? = some (vp_cell _ _)
        rw [e1, vp_cell_q, arrV_store]
        congr 2
        funext q
        by_cases hqi : q = i.toNatClampNeg
        · subst hqi; simp [updV, va_up, va_rf]
        · simp [updV, va_up, hqi]
      · cases ho
    · cases ho
  · cases ho
theorem ok_new {j pc ci nx : Nat} {fs : List ax_V} {C : String} {T : u_T} {N idx : Nat} (hcl : vwCl[ci]? = some (C, T, N)) (hin : ∀ w ∈ u_ws C T N, w ∈ ax_ws) (ty0 : Nat → FieldType) (hty : ∀ k, k < N → parseFieldDescriptor (T k).2.2.1 = some (ty0 k)) (hdf : ∀ k, k < N → defaultValue (ty0 k) = vp_V (fs.map (fun v => match v with | .inl x => Value.int x | .inr _ => Value.null)) k) (hfs : fs.length = N) (hnr : fs.all (fun v => match v with | .inl _ => true | .inr r => r.isNone) = true) (hlink : Cond.classLink (ax_y j).cls idx C ∈ ax_ws) (hinst : Cond.instantiable C N ∈ ax_ws) (hini0 : Cond.initialized C ∈ ax_ws) (hd : decode (ax_code j) pc = .ok (.new idx, 3)) (hn : ax_pc j nx = pc + 3) : ax_Ok j pc (ax_new ci fs nx) := by
  refine ax_Ok.of (pl_new _ _ _) ?_
  intro p l e R s m args below meth c Q z n0 s0 cx hfr hlo L st h i' L' st' h' ho hcz hsz kk ls H locs cells slots hl hr hq hc hs
  obtain ⟨hx, hb, hml, hown, hts, hnw, hao, hK, hini⟩ := cx
  cases ho
  rw [hn] at kk
  have hKn := hK.1 ci _ hcl
  have hcz' : h.1 + 1 ≤ R.cells + n0 := hcz
  have hsz' : h.2.1 + fs.length ≤ R.slots + s0 := hsz
  refine W.newcK hx hb hown (hts _ hlink) (hts _ hinst) (hts _ hini0) rfl hd (by omega) (by omega) hKn.2.1 rfl fun H1 kC hkC e1 z1 o1 => ?_
  have hmap : fs.map (ax_cv z) = fs.map (fun v => match v with | .inl x => Value.int x | .inr _ => Value.null) := by
    apply List.map_congr_left
    intro v hv
    have := List.all_eq_true.mp hnr v hv
    rcases v with x | r
    · rfl
    · cases r with
      | none => rfl
      | some a => cases this
  have hrel := hr.push fs.length (.inr (ci, fs)) z1 (show va_at z.1 vwCl (H.size, ax_cc z (.inr (ci, fs))) H1 from ⟨_, hcl, by
    show t_OB _ _ _ _ H1 (vp_V (fs.map (ax_cv z)))
    rw [hmap]
    exact (u_born ty0 hts hin hKn hkC e1 hty).to hdf⟩) o1
  have := kk ls H1 locs (cells + 1) (slots + N) hl hrel hq (by show cells + 1 + n0 = h.1 + 1; omega) (by show slots + N + s0 = h.2.1 + fs.length; omega)
  rw [show (List.map (ax_cv z) (Sum.inr (some h.1) :: st)) = .ref H.size :: st.map (ax_cv z) from by rw [← hr.next]; rfl] at this
  exact this
theorem ax_newaU {j pc nx t : Nat} {at0 : ArrayType} {ty : FieldType} (hty : newarray.typeOf at0 = ty) (ht : ∀ z : ax_Z, (ax_tys z)[t]? = some (z.2.1 t, ty)) (hnr : ∀ (U : State) (cA : ClassId), va_RA U cA ty → U.vm.findClass ("[" ++ ty.toString) = some cA) (hdef : defaultValue ty = .int 0) (hby : componentBytes ty ≤ 8) (hlink : Cond.arrayClass ty ∈ ax_ws) (hd : decode (ax_code j) pc = .ok (.newarray at0, 2)) (hn : ax_pc j nx = pc + 2) : ax_Ok j pc (ax_newa t nx) := by
  subst hty
  refine ax_Ok.of (pl_newa _ _) ?_
  intro p l e R s m args below meth c Q z n0 s0 cx hfr hlo L st h i' L' st' h' ho hcz hsz kk ls H locs cells slots hl hr hq hc hs
  obtain ⟨hx, hb, hml, hown, hts, hnw, hao, hK, hini⟩ := cx
  unfold ax_newa at ho
  split at ho
  · next n t' =>
    split at ho
    · next hcnd =>
      cases ho
      rw [hn] at kk
      have hcz' : h.1 + 1 ≤ R.cells + n0 := hcz
      have hsz' : h.2.1 + n.toNatClampNeg ≤ R.slots + s0 := hsz
      refine va_newaK hx hb (hts _ hlink) rfl hd rfl hcnd.1 rfl (Nat.le_trans (Nat.mul_le_mul hcnd.2 hby) (by decide)) (by omega) (by omega) rfl fun H1 cA e1 z1 o1 hAr hNm => ?_
      have hcA : cA = z.2.1 t := Option.some.inj (hNm.symm.trans (hnr _ _ (hK.2 t _ (ht z)).2))
      subst hcA
      have hrel := hr.push n.toNatClampNeg (.inl (t, n.toNatClampNeg, .inl (fun _ => 0))) z1 (show va_at z.1 vwCl (H.size, ax_cc z (.inl (t, n.toNatClampNeg, .inl (fun _ => 0)))) H1 from by
        show H1[H.size]? = some (vp_cell _ _)
        rw [e1, vp_cell_i, hdef]) o1
      have := kk ls H1 locs (cells + 1) (slots + n.toNatClampNeg) hl hrel hq (by show cells + 1 + n0 = h.1 + 1; omega) (by show slots + n.toNatClampNeg + s0 = h.2.1 + n.toNatClampNeg; omega)
      rw [show (List.map (ax_cv z) (Sum.inr (some h.1) :: t')) = .ref H.size :: t'.map (ax_cv z) from by rw [← hr.next]; rfl] at this
      exact this
    · cases ho
  · cases ho
theorem ok_newa0 {j pc nx : Nat} (hlink : Cond.arrayClass .int ∈ ax_ws) (hd : decode (ax_code j) pc = .ok (.newarray .int, 2)) (hn : ax_pc j nx = pc + 2) : ax_Ok j pc (ax_newa 0 nx) := ax_newaU (at0 := .int) rfl (fun _ => rfl) (fun _ _ h => h) rfl (by decide) hlink hd hn
theorem ok_newa1 {j pc nx : Nat} (hlink : Cond.arrayClass .char ∈ ax_ws) (hd : decode (ax_code j) pc = .ok (.newarray .char, 2)) (hn : ax_pc j nx = pc + 2) : ax_Ok j pc (ax_newa 1 nx) := ax_newaU (at0 := .char) rfl (fun _ => rfl) (fun _ _ h => h) rfl (by decide) hlink hd hn
theorem ok_newq {j pc nx t : Nat} {C : String} {idx : Nat} (hC : C ∈ ax_ao) (ht : ∀ z : ax_Z, (ax_tys z)[t]? = some (z.2.1 t, .object C)) (hlink : Cond.classLink (ax_y j).cls idx C ∈ ax_ws) (h2 : 2 ≤ t) (hd : decode (ax_code j) pc = .ok (.anewarray idx, 3)) (hn : ax_pc j nx = pc + 3) : ax_Ok j pc (ax_newq t nx) := by
  refine ax_Ok.of (pl_newq _ _) ?_
  intro p l e R s m args below meth c Q z n0 s0 cx hfr hlo L st h i' L' st' h' ho hcz hsz kk ls H locs cells slots hl hr hq hc hs
  obtain ⟨hx, hb, hml, hown, hts, hnw, hao, hK, hini⟩ := cx
  unfold ax_newq at ho
  split at ho
  · next n t' =>
    split at ho
    · next hcnd =>
      cases ho
      rw [hn] at kk
      have hcz' : h.1 + 1 ≤ R.cells + n0 := hcz
      have hsz' : h.2.1 + n.toNatClampNeg ≤ R.slots + s0 := hsz
      refine W.anew hx hb hown (hts _ hlink) (va_AO.use (hao _ hC)) rfl hd rfl hcnd.1 (by omega) (by omega) (by omega) fun cA kA comp h1 h2' h3 h4 => ?_
      obtain ⟨kA', comp', -, -, -, hNm⟩ := (hK.2 t _ (ht z)).2
      have hcA : cA = z.2.1 t := Option.some.inj (h1.symm.trans hNm)
      subst hcA
      have hrel := hr.push (H1 := H.push { cls := z.2.1 t, slots := Array.replicate n.toNatClampNeg .null, vm := .none }) n.toNatClampNeg (.inl (t, n.toNatClampNeg, .inr (fun _ => none))) (by simp) (show va_at z.1 vwCl (H.size, ax_cc z (.inl (t, n.toNatClampNeg, .inr (fun _ => none)))) _ from by
        show (H.push _)[H.size]? = some (vp_cell _ _)
        rw [arrV_new]
        simp
        rfl) (fun q hq => by rw [Array.getElem?_push, if_neg (Nat.ne_of_lt hq)])
      have := kk ls _ locs (cells + 1) (slots + n.toNatClampNeg) hl hrel hq (by show cells + 1 + n0 = h.1 + 1; omega) (by show slots + n.toNatClampNeg + s0 = h.2.1 + n.toNatClampNeg; omega)
      rw [show (List.map (ax_cv z) (Sum.inr (some h.1) :: t')) = .ref H.size :: t'.map (ax_cv z) from by rw [← hr.next]; rfl] at this
      exact this
    · cases ho
  · cases ho
