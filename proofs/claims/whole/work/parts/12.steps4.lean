/-! Switches, calls, returns. -/
theorem ok_lsw {j pc d : Nat} {ks : List (Int × Nat)} {dflt : Int} {ps : Array (Int × Int)} {len : Nat} (hd : decode (ax_code j) pc = .ok (.lookupswitch dflt ps, len)) (ho2 : (ps.toList.zip (ps.toList.drop 1)).all (fun (a, next) => a.1 < next.1) = true ∧ ks = ps.toList.map (fun q => (q.1, ((ax_pcs.getD j []).idxOf ((pc : Int) + q.2).toNat))) ∧ (pc : Int) + dflt = (ax_pc j d : Int) ∧ ps.toList.all (fun q => decide ((pc : Int) + q.2 = (ax_pc j ((ax_pcs.getD j []).idxOf ((pc : Int) + q.2).toNat) : Int))) = true) : ax_Ok j pc (ax_sw ks d) := by
  refine ax_Ok.of (pl_sw _ _) ?_
  intro p l e R s m args below meth c Q z n0 s0 cx hfr hlo L st h i' L' st' h' ho hcz hsz kk ls H locs cells slots hl hr hq hc hs
  obtain ⟨hx, hb, hml, hown, hts, hnw, hao, hK, hini⟩ := cx
  obtain ⟨hp, hks, hdf, hall⟩ := ho2
  unfold ax_sw at ho
  split at ho
  · next x t =>
    cases ho
    have key : ∀ (l : List (Int × Int)), l.all (fun q => decide ((pc : Int) + q.2 = (ax_pc j ((ax_pcs.getD j []).idxOf ((pc : Int) + q.2).toNat) : Int))) = true → (pc : Int) + Op.lookupswitch.offset l dflt x.toInt = (ax_pc j (ax_sel x (l.map (fun q => (q.1, ((ax_pcs.getD j []).idxOf ((pc : Int) + q.2).toNat)))) d) : Int) := by
      intro l
      induction l with
      | nil => intro _; exact hdf
      | cons q l ih =>
        intro ha
        rw [List.all_cons, Bool.and_eq_true] at ha
        by_cases hxq : x.toInt = q.1
        · simp only [List.map_cons, ax_sel, hxq, if_true]
          have h1 := of_decide_eq_true ha.1
          simp only [Op.lookupswitch.offset, hxq]
          simpa using h1
        · simp only [List.map_cons, ax_sel, hxq, if_false]
          have h2 := ih ha.2
          have hxq' : ¬ q.1 = x.toInt := fun w => hxq w.symm
          simp only [Op.lookupswitch.offset]
          simpa [hxq, hxq'] using h2
    subst hks
    exact lv_lookup hx hb hd hp rfl (key ps.toList hall) (kk ls H locs cells slots hl hr hq hc hs)
  · cases ho
/-- a table switch from 0 on -/
theorem ax_selT (x : Int32) (d : Nat) : ∀ (ts : List Nat) (a : Nat), ax_sel x ((List.range' a ts.length).zip ts |>.map (fun q => ((q.1 : Int), q.2))) d = if (a : Int) ≤ x.toInt ∧ x.toInt < a + ts.length then ts.getD (x.toInt - a).toNat d else d
  | [], a => by simp [ax_sel]
  | t :: ts, a => by
    have ih := ax_selT x d ts (a + 1)
    simp only [List.length_cons, List.range'_succ, List.zip_cons_cons, List.map_cons, ax_sel]
    by_cases hx : x.toInt = (a : Int)
    · rw [if_pos hx, if_pos (by omega), hx]
      simp
    · rw [if_neg hx, ih]
      by_cases h2 : (a : Int) ≤ x.toInt ∧ x.toInt < a + (ts.length + 1 : Nat)
      · rw [if_pos h2, if_pos (by push_cast at h2 ⊢; omega)]
        rw [show (x.toInt - (a : Int)).toNat = (x.toInt - ((a + 1 : Nat) : Int)).toNat + 1 by omega]
        simp
      · rw [if_neg h2, if_neg (by push_cast at h2 ⊢; omega)]
theorem ax_swU {j pc d : Nat} {ks : List (Int × Nat)} {dflt hi : Int} {offs : Array Int} {len : Nat} {ts : List Nat} (hd : decode (ax_code j) pc = .ok (.tableswitch dflt 0 hi offs, len)) (hts' : ks = ((List.range' 0 ts.length).zip ts |>.map (fun q => ((q.1 : Int), q.2)))) (hlen : (ts.length : Int) = hi + 1) (hol : offs.size = ts.length) (hdf : (pc : Int) + dflt = (ax_pc j d : Int)) (hall : ∀ i, i < ts.length → (pc : Int) + offs.getD i 0 = (ax_pc j (ts.getD i d) : Int)) : ax_Ok j pc (ax_sw ks d) := by
  refine ax_Ok.of (pl_sw _ _) ?_
  intro p l e R s m args below meth c Q z n0 s0 cx hfr hlo L st h i' L' st' h' ho hcz hsz kk ls H locs cells slots hl hr hq hc hs
  obtain ⟨hx, hb, hml, hown, hts, hnw, hao, hK, hini⟩ := cx
  unfold ax_sw at ho
  split at ho
  · next x t =>
    cases ho
    subst hts'
    rw [ax_selT] at kk
    by_cases hin : ((0 : Nat) : Int) ≤ x.toInt ∧ x.toInt < ((0 : Nat) : Int) + (ts.length : Nat)
    · rw [if_pos hin] at kk
      have hi2 : (x.toInt - 0).toNat < ts.length := by omega
      have h0 : ((0 : Nat) : Int) = 0 := rfl
      rw [h0] at kk hin
      refine lv_tableIn hx hb hd (by omega) (by omega) (off := offs.getD (x.toInt - 0).toNat 0) ?_ (hall _ hi2) (kk ls H locs cells slots hl hr hq hc hs)
      rw [Array.getD_eq_getD_getElem?]
      rw [Array.getElem?_eq_getElem (by omega)]
      rfl
    · rw [if_neg hin] at kk
      exact lv_tableOut hx hb hd (by have h0 : ((0 : Nat) : Int) = 0 := rfl
                                     rw [h0] at hin
                                     omega) hdf (kk ls H locs cells slots hl hr hq hc hs)
  · cases ho
theorem ax_catS (z : ax_Z) : ∀ t : List ax_V, ((t.map (ax_cv z)).map fun v => v.category).sum = t.length
  | [] => rfl
  | v :: t => by
    simp only [List.map_cons, List.sum_cons, List.length_cons, ax_catS z t, ax_cat]
    omega
/-- Object.<init> -/
theorem ok_obj {j pc nx : Nat} {idx : Nat} (hlink : Cond.methodLink (ax_y j).cls idx objectInit ∈ ax_ws) (hin2 : Cond.instanceMethod objectInit ∈ ax_ws) (hco : Cond.code objectInit ⟨#[0xb1]⟩ 1 none ∈ ax_ws) (hd : decode (ax_code j) pc = .ok (.invokespecial idx, 3)) (hn : ax_pc j nx = pc + 3) : ax_Ok j pc (ax_obj nx) := by
  refine ax_Ok.of (pl_obj _) ?_
  intro p l e R s m args below meth c Q z n0 s0 cx hfr hlo L st h i' L' st' h' ho hcz hsz kk ls H locs cells slots hl hr hq hc hs
  obtain ⟨hx, hb, hml, hown, hts, hnw, hao, hK, hini⟩ := cx
  unfold ax_obj at ho
  split at ho
  · next o t =>
    split at ho
    · next hlen =>
      cases ho
      rw [hn] at kk
      have hcat := ax_catS z st'
      refine W.objInit hx hb hown (hts _ hlink) (hts _ hin2) (hts _ hco) rfl (by rw [hml]; exact hl.1) (rest := st'.map (ax_cv z)) rfl hd hfr (by rw [hcat]; show 2 * 0 + _ + 12 ≤ _; omega) ?_
      exact kk ls H locs cells slots hl hr hq hc hs
    · cases ho
  · cases ho
/-- behind a call -/
theorem ax_after {p : Program} {l : Launch} {e : Env} {R : Room} {s : State} {m : MethodId} {args : Array Value} {below : List Frame} {meth : Method} {c : Code} {Q : State → Prop} {H : Heap} {locs : List Loc} {cells slots mc ms pc : Nat} {ls : Array Slot} {st0 rest : List Value} {z : ax_Z} {r : Option ax_V} {h' : ax_H} {a : Array Value}
    (hr : va_Run p l e R s m args below meth c H locs cells slots mc ms (F0 m pc ls st0) rest (ax_Qc z r h' a) (fun q => z.2.2.1 ≤ q)) (hq : ∀ q ∈ locs, z.2.2.1 ≤ q.base)
    (kk : ∀ (H1 : Heap) (locs1 : List Loc), ax_rel z h' s H1 → (∀ q ∈ locs1, z.2.2.1 ≤ q.base) → W p l e R s m args below meth c H1 locs1 (cells + mc) (slots + ms) Q (F0 m (pc + 3) ls ((r.map (ax_cv z)).toList ++ rest))) : W p l e R s m args below meth c H locs cells slots Q (F0 m pc ls st0) := by
  intro T hT X
  obtain ⟨v, st₀, t, T', L, h0, X', hL, e1, e2, ⟨hv, hrel⟩, st⟩ := hr T hT X
  cases hv
  have hal : t.vm.Alike s.vm := by rw [← e2]; exact X'.warmed.alike.symm
  obtain ⟨t2, a1, b1⟩ := kk T'.heap (locs ++ L) (by rw [e1]; exact hrel.moved hal) (fun q hq' => by
      rcases List.mem_append.mp hq' with h | h
      · exact hq q h
      · exact hL q h) T' rfl X'
  exact ⟨t2, st t2 a1, b1⟩
theorem ax_nest_tab {w : Cond} (h : w ∈ ax_nw) : w.onTables = true := by
  have := (List.mem_filter.mp h).2
  cases w <;> first | (cases this; done) | rfl
theorem ax_nest_warm {w : Cond} {s U : State} (hW : s.WarmedH U.vm) (h : w ∈ ax_nw) (hz : va_Nw w s) : va_Nw w U := by
  have := (List.mem_filter.mp h).2
  cases w <;> first | (cases this; done) | exact va_Nw.warmM hW hz | exact va_Nw.warmF hW hz
/-- what a call needs of its caller's place -/
theorem ax_pre {z : ax_Z} {h : ax_H} {s : State} {H : Heap} {as : List ax_V} (hr : ax_rel z h s H) (hK : va_K z.1 vwCl (ax_tys z) s) (hnw : ∀ w ∈ ax_nw, va_Nw w s) (hao : ∀ C ∈ ax_ao, va_AO C s) : PreS s H (ax_Pc z as h) (as.map (ax_cv z)) := by
  refine ⟨fun a U g mk q => ?_, fun U hU hW => ⟨rfl, ?_, va_K.moved hW.alike hK, fun w hw => ?_, fun C hC => (hao C hC).moved hW.alike⟩⟩
  · obtain ⟨q0, q1, q2, q3, q4⟩ := q
    exact ⟨q0, q1.moved (Vm.Alike.refl U.vm), va_K.moved (u := U) (U := U.calling g mk a) (Vm.Alike.refl U.vm) q2, fun w hw => va_Nw.same (ax_nest_tab hw) (rfl : U.vm = (U.calling g mk a).vm) (q3 w hw), fun C hC => (q4 C hC).moved (U := U.calling g mk a) (Vm.Alike.refl U.vm)⟩
  · rw [hU]
    exact hr.moved hW.alike
  · exact ax_nest_warm hW hw (hnw w hw)
