/-! The small machine's runs are the JVM's. -/
theorem ax_grow (hall : ∀ j i, ax_Ok j (ax_pc j i) (ax_P j i)) : ∀ (n d j i : Nat) (L : ax_L) (st : List ax_V) (h : ax_H) (r : Option ax_V) (hF : ax_H), ax_run ax_P ax_nL n d j i L st h = some (r, hF) → h.1 ≤ hF.1 ∧ h.2.1 ≤ hF.2.1 := by
  intro n
  induction n with
  | zero => intro d j i L st h r hF hx; simp [ax_run] at hx
  | succ n ih =>
    intro d j i L st h r hF hx
    rw [ax_run] at hx
    cases ho : ax_P j i L st h with
    | none => rw [ho] at hx; cases hx
    | some o =>
      rw [ho] at hx
      rcases o with ⟨i', L', st', h'⟩ | ⟨k, as, i', L', st'⟩ | r'
      · dsimp only at hx
        have h1 := (hall j i).2.2.2.1 _ _ _ _ ho
        have h2 := ih _ _ _ _ _ _ _ _ hx
        exact ⟨Nat.le_trans h1.1 h2.1, Nat.le_trans h1.2 h2.2⟩
      · cases d with
        | zero => cases hx
        | succ d' =>
          dsimp only at hx
          cases hc : ax_run ax_P ax_nL n d' k 0 (ax_ent (ax_nL k) as) [] h with
          | none => rw [hc] at hx; cases hx
          | some y =>
            obtain ⟨r1, h1⟩ := y
            rw [hc] at hx
            have e1 := ih _ _ _ _ _ _ _ _ hc
            have e2 := ih _ _ _ _ _ _ _ _ hx
            exact ⟨Nat.le_trans e1.1 e2.1, Nat.le_trans e1.2 e2.2⟩
      · cases hx
        exact ⟨Nat.le_refl _, Nat.le_refl _⟩
theorem ax_lgl (z : ax_Z) : ∀ as : List ax_V, (lg_sl (as.map (ax_cv z))).length = as.length
  | [] => rfl
  | v :: as => by
    have hc : ¬ (ax_cv z v).category = 2 := by rw [ax_cat]; decide
    have e : lg_sl (ax_cv z v :: as.map (ax_cv z)) = .val (ax_cv z v) :: lg_sl (as.map (ax_cv z)) := by simp [lg_sl, hc]
    rw [List.map_cons, e, List.length_cons, ax_lgl z as, List.length_cons]
/-- a place of a method, by its run -/
def ax_S (l : Launch) (n : Nat) : Prop := ∀ (d j i : Nat) (L : ax_L) (st : List ax_V) (h : ax_H) (r : Option ax_V) (hF : ax_H), ax_run ax_P ax_nL n d j i L st h = some (r, hF) →
  ∀ (p : Program) (e : Env) (R : Room) (s : State) (m : MethodId) (args : Array Value) (below : List Frame) (meth : Method) (c : Code) (Q : State → Prop) (z : ax_Z) (n0 s0 : Nat), ax_cx z j p s m args meth c → d + 1 ≤ R.frames → 60 * (d + 1) ≤ R.locals → hF.1 ≤ R.cells + n0 → hF.2.1 ≤ R.slots + s0 →
  (∀ i' L' st', ax_P j i' L' st' hF = some (.inr (.inr r)) → ax_W p l e R s m args below meth c Q z n0 s0 (ax_nL j) (ax_pc j i') L' st' hF) → ax_W p l e R s m args below meth c Q z n0 s0 (ax_nL j) (ax_pc j i) L st h
/-- a called method, by its run -/
theorem ax_met {l : Launch} {n : Nat} (hS : ax_S l n) (hall : ∀ j i, ax_Ok j (ax_pc j i) (ax_P j i)) {d k : Nat} {as : List ax_V} {h : ax_H} {r : Option ax_V} {h' : ax_H} (hrun : ax_run ax_P ax_nL n d k 0 (ax_ent (ax_nL k) as) [] h = some (r, h')) (hlen : as.length ≤ ax_nL k) (hpl : plainName (ax_y k).cls = true) (hpc : ax_pc k 0 = 0) (z : ax_Z) : ax_Met l z (d + 1) k as h r h' := by
  have hg := ax_grow hall _ _ _ _ _ _ _ _ _ hrun
  refine Met.ofW (cc := ax_code k) (maxL := ax_nL k) (ret := ax_rt0 k) hpl rfl ?_
  intro p e s m args below meth c s₁ B hml hv
  obtain ⟨rfl, hrel, hK, hnw, hao⟩ := hv
  have hts := atoms_spec (ws := ax_wsm k) B.pre
  have hcx : ax_cx z k p s m (as.map (ax_cv z)).toArray meth c := ⟨B.exec, B.bytes, hml, findClass_of_methodNamed B.named, fun w hw => hts w (List.mem_cons_of_mem _ hw), hnw, hao, hK, fun hn => (name_of_methodNamed B.named B.method).1.trans hn⟩
  have hw := hS d k 0 _ [] h r h' hrun p e { frames := d + 1, cells := h'.1 - h.1, slots := h'.2.1 - h.2.1, locals := 60 * (d + 1) } s m (as.map (ax_cv z)).toArray below meth c (MQ below (ax_Qc z r h') (as.map (ax_cv z)).toArray s (h'.1 - h.1) (h'.2.1 - h.2.1) (fun q => z.2.2.1 ≤ q)) z h.1 h.2.1 hcx (Nat.le_refl _) (Nat.le_refl _) (by show h'.1 ≤ h'.1 - h.1 + h.1; omega) (by show h'.2.1 ≤ h'.2.1 - h.2.1 + h.2.1; omega)
    (fun i' L' st' ho => (hall k i').2.2.1 p l e _ s m _ below meth c z h.1 h.2.1 hcx B.notSynchronized B.returns L' st' h' r ho)
  rw [hpc] at hw
  have hl := lv_entry (as.map (ax_cv z)) (n := ax_nL k) (by rw [ax_lgl]; exact hlen)
  rw [lg_entry_eq]
  exact hw _ s.heap [] 0 0 ⟨hl.1, hl.2.1, fun q hq => hl.2.2 q (ax_lent as 0 _ q hq)⟩ hrel (fun q hq => by cases hq) (Nat.zero_add _) (Nat.zero_add _)
theorem ax_sim (l : Launch) (hall : ∀ j i, ax_Ok j (ax_pc j i) (ax_P j i)) (hpc : ∀ k, ax_pc k 0 = 0) : ∀ n, ax_S l n := by
  intro n
  induction n with
  | zero => intro d j i L st h r hF hx; simp [ax_run] at hx
  | succ n ih =>
    intro d j i L st h r hF hx p e R s m args below meth c Q z n0 s0 cx hfr hlo hcz hsz hret
    rw [ax_run] at hx
    cases ho : ax_P j i L st h with
    | none => rw [ho] at hx; cases hx
    | some o =>
      rw [ho] at hx
      rcases o with ⟨i', L', st', h'⟩ | ⟨k, as, i', L', st'⟩ | r'
      · dsimp only at hx
        have hg := ax_grow hall _ _ _ _ _ _ _ _ _ hx
        exact (hall j i).1 p l e R s m args below meth c Q z n0 s0 cx (by omega) (by omega) L st h i' L' st' h' ho (Nat.le_trans hg.1 hcz) (Nat.le_trans hg.2 hsz) (ih _ _ _ _ _ _ _ _ hx p e R s m args below meth c Q z n0 s0 cx hfr hlo hcz hsz hret)
      · cases d with
        | zero => cases hx
        | succ d' =>
          dsimp only at hx
          cases hc : ax_run ax_P ax_nL n d' k 0 (ax_ent (ax_nL k) as) [] h with
          | none => rw [hc] at hx; cases hx
          | some y =>
            obtain ⟨r1, h1⟩ := y
            rw [hc] at hx
            have e1 := ax_grow hall _ _ _ _ _ _ _ _ _ hc
            have e2 := ax_grow hall _ _ _ _ _ _ _ _ _ hx
            have hln := (hall j i).2.2.2.2 _ _ _ _ _ _ _ _ ho
            exact (hall j i).2.1 p l e R s m args below meth c Q z n0 s0 (d' + 1) cx hfr hlo L st h k as i' L' st' ho r1 h1 (ax_met ih hall hc hln.1 hln.2 (hpc k) z) e1.1 e1.2 (Nat.le_trans e2.1 hcz) (Nat.le_trans e2.2 hsz)
              (ih _ _ _ _ _ _ _ _ hx p e R s m args below meth c Q z n0 s0 cx hfr hlo hcz hsz hret)
      · cases hx
        exact hret i L st ho
