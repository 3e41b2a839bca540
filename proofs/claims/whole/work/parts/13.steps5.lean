/-! Calls and returns. -/
theorem ax_good : ∀ w ∈ ax_ws, w ∈ ax_ws ∧ ((w.onTables && w.keeps) = true ∨ ∃ ty, w = .arrayClass ty) := fun w h => ⟨h, good_of_word (List.mem_filter.mp h).2⟩
theorem ax_goodM {k : Nat} (hc : Cond.code (ax_y k) (ax_code k) (ax_nL k) (ax_rt0 k) ∈ ax_ws) : GoodIn ax_ws (ax_wsm k) := by
  intro w hw
  rcases List.mem_cons.mp hw with rfl | h
  · exact ax_good _ hc
  · exact ax_good _ h
/-- the room of a call -/
theorem ax_rm {k d : Nat} {R : Room} (hnl : ax_nL k ≤ 40) (h1 : d + 1 ≤ R.frames) (h2 : 60 * (d + 1) ≤ R.locals) : d + 1 ≤ R.frames ∧ 8 + (ax_nL k + 11) + 60 * d ≤ R.locals := ⟨h1, by omega⟩
/-- what is asked of a called method k with n arguments -/
def ax_mOk (k n : Nat) : Prop := Cond.code (ax_y k) (ax_code k) (ax_nL k) (ax_rt0 k) ∈ ax_ws ∧ ((ax_y k).cls ≠ "java/lang/invoke/MethodHandle" ∧ (ax_y k).cls ≠ "java/lang/invoke/VarHandle" ∧ (parseMethodDescriptor (ax_y k).desc).map (fun d => d.parameters.length) = some n) ∧ ax_nL k ≤ 40 ∧ n + 1 ≤ ax_nL k + 1 ∧ plainName (ax_y k).cls = true
theorem ax_callOk {j pc : Nat} {o : ax_O} (h : ax_OKc j pc o) (h1 : ∀ L st h x, o L st h ≠ some (.inl x)) (h2 : ∀ L st h x, o L st h ≠ some (.inr (.inr x))) (h3 : ax_ln o) : ax_Ok j pc o :=
  ⟨fun _ _ _ _ _ _ _ _ _ _ _ _ _ _ _ _ _ _ _ _ _ _ _ _ q => absurd q (h1 _ _ _ _), h, fun _ _ _ _ _ _ _ _ _ _ _ _ _ _ _ _ _ _ _ _ q => absurd q (h2 _ _ _ _), fun _ _ _ _ q => absurd q (h1 _ _ _ _), h3⟩
theorem ok_callS {j pc k n nx idx : Nat} (hlink : Cond.methodLink (ax_y j).cls idx (ax_y k) ∈ ax_ws) (hst : Cond.static (ax_y k) ∈ ax_ws) (hin : Cond.initialized (ax_y k).cls ∈ ax_ws) (hm : ax_mOk k n) (hd : decode (ax_code j) pc = .ok (.invokestatic idx, 3)) (hn : ax_pc j nx = pc + 3) : ax_Ok j pc (ax_callS k n nx) := by
  refine ax_callOk ?_ (fun L st h x q => by unfold ax_callS at q; split at q <;> cases q) (fun L st h x q => by unfold ax_callS at q; split at q <;> cases q) (fun L st h k' as i' L' st' q => by
    unfold ax_callS at q
    split at q
    · cases q
      exact ⟨by rw [List.length_reverse, List.length_take]; have := hm.2.2.2.1; omega, hm.2.2.2.2⟩
    · cases q)
  intro p l e R s m args below meth c Q z n0 s0 d cx hfr hlo L st h k' as i' L' st' ho r h' hM hg1 hg2 hcz hsz kk ls H locs cells slots hl hr hq hc hs
  obtain ⟨hx, hb, hml, hown, hts, hnw, hao, hK, hini⟩ := cx
  unfold ax_callS at ho
  split at ho
  · next hlen =>
    cases ho
    rw [hn] at kk
    have hst2 : st.map (ax_cv z) = (((st.take n).reverse).map (ax_cv z)).reverse ++ (st.drop n).map (ax_cv z) := by
      rw [← List.map_reverse, List.reverse_reverse, ← List.map_append, List.take_append_drop]
    have hrun := va_runS (nL := ax_nL j) (As := ((st.take n).reverse).map (ax_cv z)) (rest := (st.drop n).map (ax_cv z)) (g := F0 m pc ls (st.map (ax_cv z))) (cells := cells) (slots := slots) (locs := locs) (H := H) (e := e) (below := below) (meth := meth) (R := R) ⟨hx, hb, hml, hown, hts⟩ hM
      ⟨callB_of n hts (ax_goodM hm.1) rfl rfl rfl (hts _ hin) (hts _ hlink) hm.2.1 (ax_rm hm.2.2.1 hfr hlo), hts _ hst⟩ (ax_pre hr hK hnw hao) rfl (by rw [List.length_map, List.length_reverse, List.length_take]; omega) hl.1 hst2 (by rw [ax_catS]; show 2 * 0 + _ ≤ 8; rw [List.length_drop]; omega) hd ⟨by omega, by omega⟩
    refine ax_after hrun hq (fun H1 locs1 hr1 hq1 => ?_)
    have := kk ls H1 locs1 (cells + (h'.1 - h.1)) (slots + (h'.2.1 - h.2.1)) hl hr1 hq1 (by omega) (by omega)
    rw [List.map_append] at this
    cases r with
    | none => exact this
    | some v => exact this
  · cases ho
theorem ok_callSN {j pc k n nx idx : Nat} {host : String} (hlink : Cond.methodLinkNest (ax_y j).cls idx (ax_y k) host ∈ ax_nw) (hst : Cond.static (ax_y k) ∈ ax_ws) (hin : Cond.initialized (ax_y k).cls ∈ ax_ws) (hm : ax_mOk k n) (hd : decode (ax_code j) pc = .ok (.invokestatic idx, 3)) (hn : ax_pc j nx = pc + 3) : ax_Ok j pc (ax_callS k n nx) := by
  refine ax_callOk ?_ (fun L st h x q => by unfold ax_callS at q; split at q <;> cases q) (fun L st h x q => by unfold ax_callS at q; split at q <;> cases q) (fun L st h k' as i' L' st' q => by
    unfold ax_callS at q
    split at q
    · cases q
      exact ⟨by rw [List.length_reverse, List.length_take]; have := hm.2.2.2.1; omega, hm.2.2.2.2⟩
    · cases q)
  intro p l e R s m args below meth c Q z n0 s0 d cx hfr hlo L st h k' as i' L' st' ho r h' hM hg1 hg2 hcz hsz kk ls H locs cells slots hl hr hq hc hs
  obtain ⟨hx, hb, hml, hown, hts, hnw, hao, hK, hini⟩ := cx
  unfold ax_callS at ho
  split at ho
  · next hlen =>
    cases ho
    rw [hn] at kk
    have hst2 : st.map (ax_cv z) = (((st.take n).reverse).map (ax_cv z)).reverse ++ (st.drop n).map (ax_cv z) := by
      rw [← List.map_reverse, List.reverse_reverse, ← List.map_append, List.take_append_drop]
    have hrun := va_runSN (nL := ax_nL j) (As := ((st.take n).reverse).map (ax_cv z)) (rest := (st.drop n).map (ax_cv z)) (g := F0 m pc ls (st.map (ax_cv z))) (cells := cells) (slots := slots) (locs := locs) (H := H) (e := e) (below := below) (meth := meth) (R := R) (p := p) ⟨hx, hb, hml, hown, hts⟩ hM
      ⟨va_cnB n hts (ax_goodM hm.1) rfl rfl rfl (hnw _ hlink) (hts _ hin) hm.2.1 (ax_rm hm.2.2.1 hfr hlo), hts _ hst, trivial⟩ (ax_pre hr hK hnw hao) rfl (by rw [List.length_map, List.length_reverse, List.length_take]; omega) hl.1 hst2 (by rw [ax_catS]; show 2 * 0 + _ ≤ 8; rw [List.length_drop]; omega) hd ⟨by omega, by omega⟩
    refine ax_after hrun hq (fun H1 locs1 hr1 hq1 => ?_)
    have := kk ls H1 locs1 (cells + (h'.1 - h.1)) (slots + (h'.2.1 - h.2.1)) hl hr1 hq1 (by omega) (by omega)
    rw [List.map_append] at this
    cases r with
    | none => exact this
    | some v => exact this
  · cases ho
/-- the stack at a call with a receiver -/
theorem ax_stk {z : ax_Z} {st t : List ax_V} {n : Nat} {v : ax_V} (h : st.drop n = v :: t) : st.map (ax_cv z) = (((st.take n).reverse).map (ax_cv z)).reverse ++ ax_cv z v :: t.map (ax_cv z) := by
  rw [← List.map_reverse, List.reverse_reverse, ← List.map_cons, ← h, ← List.map_append, List.take_append_drop]
theorem ok_callI {j pc k n nx idx : Nat} (hlink : Cond.methodLink (ax_y j).cls idx (ax_y k) ∈ ax_ws) (hst : Cond.instanceMethod (ax_y k) ∈ ax_ws) (hin : Cond.initialized (ax_y k).cls ∈ ax_ws) (hnm : (ax_y k).name = "<init>") (hrt : ax_rt0 k = none) (hm : ax_mOk k n) (hn1 : n + 1 ≤ ax_nL k) (hd : decode (ax_code j) pc = .ok (.invokespecial idx, 3)) (hn : ax_pc j nx = pc + 3) : ax_Ok j pc (ax_callI k n nx) := by
  refine ax_callOk ?_ (fun L st h x q => by unfold ax_callI at q; (repeat' split at q) <;> cases q) (fun L st h x q => by unfold ax_callI at q; (repeat' split at q) <;> cases q) (fun L st h k' as i' L' st' q => by
    unfold ax_callI at q
    (repeat' split at q) <;> cases q
    exact ⟨by rw [List.length_cons, List.length_reverse, List.length_take]; omega, hm.2.2.2.2⟩)
  intro p l e R s m args below meth c Q z n0 s0 d cx hfr hlo L st h k' as i' L' st' ho r h' hM hg1 hg2 hcz hsz kk ls H locs cells slots hl hr hq hc hs
  obtain ⟨hx, hb, hml, hown, hts, hnw, hao, hK, hini⟩ := cx
  unfold ax_callI at ho
  split at ho
  · next o t hdr =>
    split at ho
    · next hlen =>
      cases ho
      rw [hn] at kk
      have hcb := callB_of (R := R) (own := (ax_y j).cls) (index := idx) n hts (ax_goodM hm.1) rfl (rm := { frames := d, cells := h'.1 - h.1, slots := h'.2.1 - h.2.1, locals := 60 * d }) rfl rfl (hts _ hin) (hts _ hlink) hm.2.1 (ax_rm hm.2.2.1 hfr hlo)
      rw [hrt] at hcb
      have hrun := va_runI (nL := ax_nL j) (b := ax_ad z o) (As := ((st.take n).reverse).map (ax_cv z)) (rest := st'.map (ax_cv z)) (g := F0 m pc ls (st.map (ax_cv z))) (cells := cells) (slots := slots) (locs := locs) (H := H) (e := e) (below := below) (meth := meth) (R := R) ⟨hx, hb, hml, hown, hts⟩ hM
        ⟨hcb, hnm, hts _ hst⟩ (ax_pre hr hK hnw hao) rfl (by rw [List.length_map, List.length_reverse, List.length_take]; omega) hl.1 (ax_stk hdr) (by rw [ax_catS]; show 2 * 0 + _ ≤ 8; omega) hd ⟨by omega, by omega⟩
      refine ax_after hrun hq (fun H1 locs1 hr1 hq1 => ?_)
      have := kk ls H1 locs1 (cells + (h'.1 - h.1)) (slots + (h'.2.1 - h.2.1)) hl hr1 hq1 (by omega) (by omega)
      rw [List.map_append] at this
      cases r with
      | none => exact this
      | some v => exact this
    · cases ho
  · cases ho
theorem ok_callIN {j pc k n nx idx : Nat} {host : String} (hlink : Cond.methodLinkNest (ax_y j).cls idx (ax_y k) host ∈ ax_nw) (hst : Cond.instanceMethod (ax_y k) ∈ ax_ws) (hin : Cond.initialized (ax_y k).cls ∈ ax_ws) (hnm : (ax_y k).name = "<init>") (hrt : ax_rt0 k = none) (hm : ax_mOk k n) (hn1 : n + 1 ≤ ax_nL k) (hd : decode (ax_code j) pc = .ok (.invokespecial idx, 3)) (hn : ax_pc j nx = pc + 3) : ax_Ok j pc (ax_callI k n nx) := by
  refine ax_callOk ?_ (fun L st h x q => by unfold ax_callI at q; (repeat' split at q) <;> cases q) (fun L st h x q => by unfold ax_callI at q; (repeat' split at q) <;> cases q) (fun L st h k' as i' L' st' q => by
    unfold ax_callI at q
    (repeat' split at q) <;> cases q
    exact ⟨by rw [List.length_cons, List.length_reverse, List.length_take]; omega, hm.2.2.2.2⟩)
  intro p l e R s m args below meth c Q z n0 s0 d cx hfr hlo L st h k' as i' L' st' ho r h' hM hg1 hg2 hcz hsz kk ls H locs cells slots hl hr hq hc hs
  obtain ⟨hx, hb, hml, hown, hts, hnw, hao, hK, hini⟩ := cx
  unfold ax_callI at ho
  split at ho
  · next o t hdr =>
    split at ho
    · next hlen =>
      cases ho
      rw [hn] at kk
      have hcb := va_cnB (R := R) (own := (ax_y j).cls) (index := idx) (host := host) n hts (ax_goodM hm.1) rfl (rm := { frames := d, cells := h'.1 - h.1, slots := h'.2.1 - h.2.1, locals := 60 * d }) rfl rfl (hnw _ hlink) (hts _ hin) hm.2.1 (ax_rm hm.2.2.1 hfr hlo)
      rw [hrt] at hcb
      have hrun := va_runIN (nL := ax_nL j) (b := ax_ad z o) (As := ((st.take n).reverse).map (ax_cv z)) (rest := st'.map (ax_cv z)) (g := F0 m pc ls (st.map (ax_cv z))) (cells := cells) (slots := slots) (locs := locs) (H := H) (e := e) (below := below) (meth := meth) (R := R) (p := p) ⟨hx, hb, hml, hown, hts⟩ hM
        ⟨hcb, hnm, hts _ hst⟩ (ax_pre hr hK hnw hao) rfl (by rw [List.length_map, List.length_reverse, List.length_take]; omega) hl.1 (ax_stk hdr) (by rw [ax_catS]; show 2 * 0 + _ ≤ 8; omega) hd ⟨by omega, by omega⟩
      refine ax_after hrun hq (fun H1 locs1 hr1 hq1 => ?_)
      have := kk ls H1 locs1 (cells + (h'.1 - h.1)) (slots + (h'.2.1 - h.2.1)) hl hr1 hq1 (by omega) (by omega)
      rw [List.map_append] at this
      cases r with
      | none => exact this
      | some v => exact this
    · cases ho
  · cases ho
theorem ok_callV {j pc ci k n nx idx : Nat} {C : String} {T : u_T} {N : Nat} (hcl : vwCl[ci]? = some (C, T, N)) (hC : (ax_y k).cls = C) (hlink : Cond.methodLink (ax_y j).cls idx (ax_y k) ∈ ax_ws) (hst : Cond.instanceMethod (ax_y k) ∈ ax_ws) (hsl : Cond.selects C (ax_y k) (ax_y k) ∈ ax_ws) (hin : Cond.initialized (ax_y k).cls ∈ ax_ws) (hm : ax_mOk k n) (hn1 : n + 1 ≤ ax_nL k) (hd : decode (ax_code j) pc = .ok (.invokevirtual idx, 3)) (hn : ax_pc j nx = pc + 3) : ax_Ok j pc (ax_callV ci k n nx) := by
  refine ax_callOk ?_ (fun L st h x q => by unfold ax_callV at q; (repeat' split at q) <;> cases q) (fun L st h x q => by unfold ax_callV at q; (repeat' split at q) <;> cases q) (fun L st h k' as i' L' st' q => by
    unfold ax_callV at q
    (repeat' split at q) <;> cases q
    exact ⟨by rw [List.length_cons, List.length_reverse, List.length_take]; omega, hm.2.2.2.2⟩)
  intro p l e R s m args below meth c Q z n0 s0 d cx hfr hlo L st h k' as i' L' st' ho r h' hM hg1 hg2 hcz hsz kk ls H locs cells slots hl hr hq hc hs
  obtain ⟨hx, hb, hml, hown, hts, hnw, hao, hK, hini⟩ := cx
  unfold ax_callV at ho
  split at ho
  · next o t hdr =>
    split at ho
    · next cj fs hcell =>
      split at ho
      · next hlen =>
        obtain ⟨rfl, h0, h1, hl1, hl2⟩ := hlen
        cases ho
        rw [hn] at kk
        have hcb := callB_of (R := R) (own := (ax_y j).cls) (index := idx) n hts (ax_goodM hm.1) rfl (rm := { frames := d, cells := h'.1 - h.1, slots := h'.2.1 - h.2.1, locals := 60 * d }) rfl rfl (hts _ hin) (hts _ hlink) hm.2.1 (ax_rm hm.2.2.1 hfr hlo)
        have hpre := ax_pre (as := .inr (some o) :: (st.take n).reverse) hr hK hnw hao
        have hrecv := va_recv hK (ax_one hr h0 h1 hcell) hcl (q0 := 0) rfl
        have hrun := va_runV (nL := ax_nL j) (C := C) (b := ax_ad z o) (As := ((st.take n).reverse).map (ax_cv z)) (rest := st'.map (ax_cv z)) (g := F0 m pc ls (st.map (ax_cv z))) (cells := cells) (slots := slots) (locs := locs) (H := H) (e := e) (below := below) (meth := meth) (R := R) ⟨hx, hb, hml, hown, hts⟩ hM
          ⟨hcb, hts _ hst, hts _ hsl⟩ ⟨hpre.1, hrecv, hpre.2⟩ rfl (by rw [List.length_map, List.length_reverse, List.length_take]; omega) hl.1 (ax_stk hdr) (by rw [ax_catS]; show 2 * 0 + _ ≤ 8; omega) hd ⟨by omega, by omega⟩
        refine ax_after hrun hq (fun H1 locs1 hr1 hq1 => ?_)
        have := kk ls H1 locs1 (cells + (h'.1 - h.1)) (slots + (h'.2.1 - h.2.1)) hl hr1 hq1 (by omega) (by omega)
        rw [List.map_append] at this
        cases r with
        | none => exact this
        | some v => exact this
      · cases ho
    · cases ho
  · cases ho
/-- returns -/
theorem ax_retOk {j pc : Nat} {o : ax_O} (h : ax_OKr j pc o) (h1 : ∀ L st h x, o L st h ≠ some (.inl x)) (h2 : ∀ L st h x, o L st h ≠ some (.inr (.inl x))) : ax_Ok j pc o :=
  ⟨fun _ _ _ _ _ _ _ _ _ _ _ _ _ _ _ _ _ _ _ _ _ _ _ _ q => absurd q (h1 _ _ _ _), fun _ _ _ _ _ _ _ _ _ _ _ _ _ _ _ _ _ _ _ _ _ _ _ _ _ _ q => absurd q (h2 _ _ _ _), h, fun _ _ _ _ q => absurd q (h1 _ _ _ _), fun _ _ _ _ _ _ _ _ q => absurd q (h2 _ _ _ _)⟩
theorem ok_retU {j pc ty : Nat} {ft : FieldType} (hrt : ax_rt0 j = some ft) (hf : ax_ftOk ty ft) (hty : ty ≤ 2) (hd : decode (ax_code j) pc = .ok (.ireturn, 1)) : ax_Ok j pc (ax_ret ty) := by
  refine ax_retOk ?_ (fun L st h x q => by unfold ax_ret at q; (repeat' split at q) <;> cases q) (fun L st h x q => by unfold ax_ret at q; (repeat' split at q) <;> cases q)
  intro p l e R s m args below meth c z n0 s0 cx hlk hrt' L st h r ho ls H locs cells slots hl hr hq hc hs
  obtain ⟨hx, hb, hml, hown, hts, hnw, hao, hK, hini⟩ := cx
  unfold ax_ret at ho
  split at ho
  · next v =>
    split at ho
    · next hfit =>
      cases ho
      obtain ⟨h1, -⟩ := ax_fitE (z := z) hfit hf
      rw [hrt] at hrt'
      rw [show h.1 - n0 = cells by omega, show h.2.1 - s0 = slots by omega]
      rcases v with x | r
      · exact W.zret (v := x) hx hb hrt' h1 (fun t ht hW => ⟨rfl, by rw [ht]; exact hr.moved hW.alike⟩) hq hd hlk
      · unfold ax_fit at hfit
        have h3 : ty = 3 := by simpa using hfit
        omega
    · cases ho
  · cases ho
theorem ok_ret0 {j pc : Nat} (hrt : ax_rt0 j = some .int) (hd : decode (ax_code j) pc = .ok (.ireturn, 1)) : ax_Ok j pc (ax_ret 0) := ok_retU hrt rfl (by decide) hd
theorem ok_ret1 {j pc : Nat} (hrt : ax_rt0 j = some .boolean) (hd : decode (ax_code j) pc = .ok (.ireturn, 1)) : ax_Ok j pc (ax_ret 1) := ok_retU hrt rfl (by decide) hd
theorem ok_ret2 {j pc : Nat} (hrt : ax_rt0 j = some .char) (hd : decode (ax_code j) pc = .ok (.ireturn, 1)) : ax_Ok j pc (ax_ret 2) := ok_retU hrt rfl (by decide) hd
theorem ok_ret3 {j pc : Nat} {C : String} (hrt : ax_rt0 j = some (.object C)) (hd : decode (ax_code j) pc = .ok (.areturn, 1)) : ax_Ok j pc (ax_ret 3) := by
  refine ax_retOk ?_ (fun L st h x q => by unfold ax_ret at q; (repeat' split at q) <;> cases q) (fun L st h x q => by unfold ax_ret at q; (repeat' split at q) <;> cases q)
  intro p l e R s m args below meth c z n0 s0 cx hlk hrt' L st h r ho ls H locs cells slots hl hr hq hc hs
  obtain ⟨hx, hb, hml, hown, hts, hnw, hao, hK, hini⟩ := cx
  unfold ax_ret at ho
  split at ho
  · next v =>
    split at ho
    · next hfit =>
      cases ho
      rw [hrt] at hrt'
      rw [show h.1 - n0 = cells by omega, show h.2.1 - s0 = slots by omega]
      rcases v with x | r
      · cases hfit
      · exact W.aret hx hb hrt' (Or.inl ⟨_, rfl⟩) (by cases r with | none => exact Or.inl rfl | some a => exact Or.inr ⟨_, rfl⟩) (fun t ht hW => ⟨rfl, by rw [ht]; exact hr.moved hW.alike⟩) hq hd hlk
    · cases ho
  · cases ho
theorem ok_retv {j pc : Nat} (hrt : ax_rt0 j = none) (hd : decode (ax_code j) pc = .ok (.return_, 1)) : ax_Ok j pc ax_retv := by
  refine ax_retOk ?_ (fun L st h x q => by unfold ax_retv at q; (repeat' split at q) <;> cases q) (fun L st h x q => by unfold ax_retv at q; (repeat' split at q) <;> cases q)
  intro p l e R s m args below meth c z n0 s0 cx hlk hrt' L st h r ho ls H locs cells slots hl hr hq hc hs
  obtain ⟨hx, hb, hml, hown, hts, hnw, hao, hK, hini⟩ := cx
  unfold ax_retv at ho
  split at ho
  · cases ho
    rw [hrt] at hrt'
    rw [show h.1 - n0 = cells by omega, show h.2.1 - s0 = slots by omega]
    exact W.vret hx hb hrt' (fun t ht hW => ⟨rfl, by rw [ht]; exact hr.moved hW.alike⟩) hq hd hlk
  · cases ho
