/-! Each kind of step is the JVM's. Printed by wip/whole/gen/emit_sound.py -/
theorem pl_const (a : Int32) (b : Nat) : ax_pl (ax_const a b) := by
  constructor
  · intro L st h x q
    unfold ax_const at q
    (repeat' split at q) <;> cases q
  · intro L st h x q
    unfold ax_const at q
    (repeat' split at q) <;> cases q <;> first | exact ⟨Nat.le_refl _, Nat.le_refl _⟩ | exact ⟨Nat.le_succ _, Nat.le_add_right _ _⟩
theorem pl_null (b : Nat) : ax_pl (ax_null b) := by
  constructor
  · intro L st h x q
    unfold ax_null at q
    (repeat' split at q) <;> cases q
  · intro L st h x q
    unfold ax_null at q
    (repeat' split at q) <;> cases q <;> first | exact ⟨Nat.le_refl _, Nat.le_refl _⟩ | exact ⟨Nat.le_succ _, Nat.le_add_right _ _⟩
theorem pl_iload (a b : Nat) : ax_pl (ax_iload a b) := by
  constructor
  · intro L st h x q
    unfold ax_iload at q
    (repeat' split at q) <;> cases q
  · intro L st h x q
    unfold ax_iload at q
    (repeat' split at q) <;> cases q <;> first | exact ⟨Nat.le_refl _, Nat.le_refl _⟩ | exact ⟨Nat.le_succ _, Nat.le_add_right _ _⟩
theorem pl_aload (a b : Nat) : ax_pl (ax_aload a b) := by
  constructor
  · intro L st h x q
    unfold ax_aload at q
    (repeat' split at q) <;> cases q
  · intro L st h x q
    unfold ax_aload at q
    (repeat' split at q) <;> cases q <;> first | exact ⟨Nat.le_refl _, Nat.le_refl _⟩ | exact ⟨Nat.le_succ _, Nat.le_add_right _ _⟩
theorem pl_istore (a b : Nat) : ax_pl (ax_istore a b) := by
  constructor
  · intro L st h x q
    unfold ax_istore at q
    (repeat' split at q) <;> cases q
  · intro L st h x q
    unfold ax_istore at q
    (repeat' split at q) <;> cases q <;> first | exact ⟨Nat.le_refl _, Nat.le_refl _⟩ | exact ⟨Nat.le_succ _, Nat.le_add_right _ _⟩
theorem pl_astore (a b : Nat) : ax_pl (ax_astore a b) := by
  constructor
  · intro L st h x q
    unfold ax_astore at q
    (repeat' split at q) <;> cases q
  · intro L st h x q
    unfold ax_astore at q
    (repeat' split at q) <;> cases q <;> first | exact ⟨Nat.le_refl _, Nat.le_refl _⟩ | exact ⟨Nat.le_succ _, Nat.le_add_right _ _⟩
theorem pl_iinc (a : Nat) (v : Int32) (b : Nat) : ax_pl (ax_iinc a v b) := by
  constructor
  · intro L st h x q
    unfold ax_iinc at q
    (repeat' split at q) <;> cases q
  · intro L st h x q
    unfold ax_iinc at q
    (repeat' split at q) <;> cases q <;> first | exact ⟨Nat.le_refl _, Nat.le_refl _⟩ | exact ⟨Nat.le_succ _, Nat.le_add_right _ _⟩
theorem pl_bin (f : Int32 → Int32 → Int32) (b : Nat) : ax_pl (ax_bin f b) := by
  constructor
  · intro L st h x q
    unfold ax_bin at q
    (repeat' split at q) <;> cases q
  · intro L st h x q
    unfold ax_bin at q
    (repeat' split at q) <;> cases q <;> first | exact ⟨Nat.le_refl _, Nat.le_refl _⟩ | exact ⟨Nat.le_succ _, Nat.le_add_right _ _⟩
theorem pl_un (f : Int32 → Int32) (b : Nat) : ax_pl (ax_un f b) := by
  constructor
  · intro L st h x q
    unfold ax_un at q
    (repeat' split at q) <;> cases q
  · intro L st h x q
    unfold ax_un at q
    (repeat' split at q) <;> cases q <;> first | exact ⟨Nat.le_refl _, Nat.le_refl _⟩ | exact ⟨Nat.le_succ _, Nat.le_add_right _ _⟩
theorem pl_dup (b : Nat) : ax_pl (ax_dup b) := by
  constructor
  · intro L st h x q
    unfold ax_dup at q
    (repeat' split at q) <;> cases q
  · intro L st h x q
    unfold ax_dup at q
    (repeat' split at q) <;> cases q <;> first | exact ⟨Nat.le_refl _, Nat.le_refl _⟩ | exact ⟨Nat.le_succ _, Nat.le_add_right _ _⟩
theorem pl_dup2 (b : Nat) : ax_pl (ax_dup2 b) := by
  constructor
  · intro L st h x q
    unfold ax_dup2 at q
    (repeat' split at q) <;> cases q
  · intro L st h x q
    unfold ax_dup2 at q
    (repeat' split at q) <;> cases q <;> first | exact ⟨Nat.le_refl _, Nat.le_refl _⟩ | exact ⟨Nat.le_succ _, Nat.le_add_right _ _⟩
theorem pl_pop (b : Nat) : ax_pl (ax_pop b) := by
  constructor
  · intro L st h x q
    unfold ax_pop at q
    (repeat' split at q) <;> cases q
  · intro L st h x q
    unfold ax_pop at q
    (repeat' split at q) <;> cases q <;> first | exact ⟨Nat.le_refl _, Nat.le_refl _⟩ | exact ⟨Nat.le_succ _, Nat.le_add_right _ _⟩
theorem pl_goto (b : Nat) : ax_pl (ax_goto b) := by
  constructor
  · intro L st h x q
    unfold ax_goto at q
    (repeat' split at q) <;> cases q
  · intro L st h x q
    unfold ax_goto at q
    (repeat' split at q) <;> cases q <;> first | exact ⟨Nat.le_refl _, Nat.le_refl _⟩ | exact ⟨Nat.le_succ _, Nat.le_add_right _ _⟩
theorem pl_slen (b : Nat) : ax_pl (ax_slen b) := by
  constructor
  · intro L st h x q
    unfold ax_slen at q
    (repeat' split at q) <;> cases q
  · intro L st h x q
    unfold ax_slen at q
    (repeat' split at q) <;> cases q <;> first | exact ⟨Nat.le_refl _, Nat.le_refl _⟩ | exact ⟨Nat.le_succ _, Nat.le_add_right _ _⟩
theorem pl_sld (b : Nat) : ax_pl (ax_sld b) := by
  constructor
  · intro L st h x q
    unfold ax_sld at q
    (repeat' split at q) <;> cases q
  · intro L st h x q
    unfold ax_sld at q
    (repeat' split at q) <;> cases q <;> first | exact ⟨Nat.le_refl _, Nat.le_refl _⟩ | exact ⟨Nat.le_succ _, Nat.le_add_right _ _⟩
theorem pl_aald (b : Nat) : ax_pl (ax_aald b) := by
  constructor
  · intro L st h x q
    unfold ax_aald at q
    (repeat' split at q) <;> cases q
  · intro L st h x q
    unfold ax_aald at q
    (repeat' split at q) <;> cases q <;> first | exact ⟨Nat.le_refl _, Nat.le_refl _⟩ | exact ⟨Nat.le_succ _, Nat.le_add_right _ _⟩
theorem pl_aast (b : Nat) : ax_pl (ax_aast b) := by
  constructor
  · intro L st h x q
    unfold ax_aast at q
    (repeat' split at q) <;> cases q
  · intro L st h x q
    unfold ax_aast at q
    (repeat' split at q) <;> cases q <;> first | exact ⟨Nat.le_refl _, Nat.le_refl _⟩ | exact ⟨Nat.le_succ _, Nat.le_add_right _ _⟩
theorem pl_obj (b : Nat) : ax_pl (ax_obj b) := by
  constructor
  · intro L st h x q
    unfold ax_obj at q
    (repeat' split at q) <;> cases q
  · intro L st h x q
    unfold ax_obj at q
    (repeat' split at q) <;> cases q <;> first | exact ⟨Nat.le_refl _, Nat.le_refl _⟩ | exact ⟨Nat.le_succ _, Nat.le_add_right _ _⟩
theorem pl_if (f : Int32 → Bool) (a b : Nat) : ax_pl (ax_if f a b) := by
  constructor
  · intro L st h x q
    unfold ax_if at q
    (repeat' split at q) <;> cases q
  · intro L st h x q
    unfold ax_if at q
    (repeat' split at q) <;> cases q <;> first | exact ⟨Nat.le_refl _, Nat.le_refl _⟩ | exact ⟨Nat.le_succ _, Nat.le_add_right _ _⟩
theorem pl_icmp (f : Int32 → Int32 → Bool) (a b : Nat) : ax_pl (ax_icmp f a b) := by
  constructor
  · intro L st h x q
    unfold ax_icmp at q
    (repeat' split at q) <;> cases q
  · intro L st h x q
    unfold ax_icmp at q
    (repeat' split at q) <;> cases q <;> first | exact ⟨Nat.le_refl _, Nat.le_refl _⟩ | exact ⟨Nat.le_succ _, Nat.le_add_right _ _⟩
theorem pl_ifnull (a b : Nat) : ax_pl (ax_ifnull a b) := by
  constructor
  · intro L st h x q
    unfold ax_ifnull at q
    (repeat' split at q) <;> cases q
  · intro L st h x q
    unfold ax_ifnull at q
    (repeat' split at q) <;> cases q <;> first | exact ⟨Nat.le_refl _, Nat.le_refl _⟩ | exact ⟨Nat.le_succ _, Nat.le_add_right _ _⟩
theorem pl_ifnonnull (a b : Nat) : ax_pl (ax_ifnonnull a b) := by
  constructor
  · intro L st h x q
    unfold ax_ifnonnull at q
    (repeat' split at q) <;> cases q
  · intro L st h x q
    unfold ax_ifnonnull at q
    (repeat' split at q) <;> cases q <;> first | exact ⟨Nat.le_refl _, Nat.le_refl _⟩ | exact ⟨Nat.le_succ _, Nat.le_add_right _ _⟩
theorem pl_ald (a b : Nat) : ax_pl (ax_ald a b) := by
  constructor
  · intro L st h x q
    unfold ax_ald at q
    (repeat' split at q) <;> cases q
  · intro L st h x q
    unfold ax_ald at q
    (repeat' split at q) <;> cases q <;> first | exact ⟨Nat.le_refl _, Nat.le_refl _⟩ | exact ⟨Nat.le_succ _, Nat.le_add_right _ _⟩
theorem pl_ast (a b : Nat) : ax_pl (ax_ast a b) := by
  constructor
  · intro L st h x q
    unfold ax_ast at q
    (repeat' split at q) <;> cases q
  · intro L st h x q
    unfold ax_ast at q
    (repeat' split at q) <;> cases q <;> first | exact ⟨Nat.le_refl _, Nat.le_refl _⟩ | exact ⟨Nat.le_succ _, Nat.le_add_right _ _⟩
theorem pl_newa (a b : Nat) : ax_pl (ax_newa a b) := by
  constructor
  · intro L st h x q
    unfold ax_newa at q
    (repeat' split at q) <;> cases q
  · intro L st h x q
    unfold ax_newa at q
    (repeat' split at q) <;> cases q <;> first | exact ⟨Nat.le_refl _, Nat.le_refl _⟩ | exact ⟨Nat.le_succ _, Nat.le_add_right _ _⟩
theorem pl_newq (a b : Nat) : ax_pl (ax_newq a b) := by
  constructor
  · intro L st h x q
    unfold ax_newq at q
    (repeat' split at q) <;> cases q
  · intro L st h x q
    unfold ax_newq at q
    (repeat' split at q) <;> cases q <;> first | exact ⟨Nat.le_refl _, Nat.le_refl _⟩ | exact ⟨Nat.le_succ _, Nat.le_add_right _ _⟩
theorem pl_sw (ks : List (Int × Nat)) (b : Nat) : ax_pl (ax_sw ks b) := by
  constructor
  · intro L st h x q
    unfold ax_sw at q
    (repeat' split at q) <;> cases q
  · intro L st h x q
    unfold ax_sw at q
    (repeat' split at q) <;> cases q <;> first | exact ⟨Nat.le_refl _, Nat.le_refl _⟩ | exact ⟨Nat.le_succ _, Nat.le_add_right _ _⟩
theorem pl_get (a k b : Nat) : ax_pl (ax_get a k b) := by
  constructor
  · intro L st h x q
    unfold ax_get at q
    (repeat' split at q) <;> cases q
  · intro L st h x q
    unfold ax_get at q
    (repeat' split at q) <;> cases q <;> first | exact ⟨Nat.le_refl _, Nat.le_refl _⟩ | exact ⟨Nat.le_succ _, Nat.le_add_right _ _⟩
theorem pl_put (a k t b : Nat) : ax_pl (ax_put a k t b) := by
  constructor
  · intro L st h x q
    unfold ax_put at q
    (repeat' split at q) <;> cases q
  · intro L st h x q
    unfold ax_put at q
    (repeat' split at q) <;> cases q <;> first | exact ⟨Nat.le_refl _, Nat.le_refl _⟩ | exact ⟨Nat.le_succ _, Nat.le_add_right _ _⟩
theorem pl_new (a : Nat) (fs : List ax_V) (b : Nat) : ax_pl (ax_new a fs b) := by
  constructor
  · intro L st h x q
    unfold ax_new at q
    (repeat' split at q) <;> cases q
  · intro L st h x q
    unfold ax_new at q
    (repeat' split at q) <;> cases q <;> first | exact ⟨Nat.le_refl _, Nat.le_refl _⟩ | exact ⟨Nat.le_succ _, Nat.le_add_right _ _⟩
theorem ok_iconst {j pc nx : Nat} {n : Int} {v : Int32} (hv : Int32.ofInt n = v) (hd : decode (ax_code j) pc = .ok (.iconst n, 1)) (hn : ax_pc j nx = pc + 1) : ax_Ok j pc (ax_const v nx) := by
  refine ax_Ok.of (pl_const _ _) ?_
  intro p l e R s m args below meth c Q z n0 s0 cx hfr hlo L st h i' L' st' h' ho hcz hsz kk ls H locs cells slots hl hr hq hc hs
  obtain ⟨hx, hb, hml, hown, hts, hnw, hao, hK, hini⟩ := cx
  cases ho
  rw [hn] at kk
  exact lv_iconst hx hb hd hv (kk ls H locs cells slots hl hr hq hc hs)

theorem ok_bipush {j pc nx : Nat} {n : Int} {v : Int32} (hv : (Int8.ofInt n).toInt32 = v) (hd : decode (ax_code j) pc = .ok (.bipush n, 2)) (hn : ax_pc j nx = pc + 2) : ax_Ok j pc (ax_const v nx) := by
  refine ax_Ok.of (pl_const _ _) ?_
  intro p l e R s m args below meth c Q z n0 s0 cx hfr hlo L st h i' L' st' h' ho hcz hsz kk ls H locs cells slots hl hr hq hc hs
  obtain ⟨hx, hb, hml, hown, hts, hnw, hao, hK, hini⟩ := cx
  cases ho
  rw [hn] at kk
  exact lv_bipush hx hb hd hv (kk ls H locs cells slots hl hr hq hc hs)

theorem ok_sipush {j pc nx : Nat} {n : Int} {v : Int32} (hv : (Int16.ofInt n).toInt32 = v) (hd : decode (ax_code j) pc = .ok (.sipush n, 3)) (hn : ax_pc j nx = pc + 3) : ax_Ok j pc (ax_const v nx) := by
  refine ax_Ok.of (pl_const _ _) ?_
  intro p l e R s m args below meth c Q z n0 s0 cx hfr hlo L st h i' L' st' h' ho hcz hsz kk ls H locs cells slots hl hr hq hc hs
  obtain ⟨hx, hb, hml, hown, hts, hnw, hao, hK, hini⟩ := cx
  cases ho
  rw [hn] at kk
  exact lv_sipush hx hb hd hv (kk ls H locs cells slots hl hr hq hc hs)

theorem ok_null {j pc nx : Nat} (hd : decode (ax_code j) pc = .ok (.aconst_null, 1)) (hn : ax_pc j nx = pc + 1) : ax_Ok j pc (ax_null nx) := by
  refine ax_Ok.of (pl_null _) ?_
  intro p l e R s m args below meth c Q z n0 s0 cx hfr hlo L st h i' L' st' h' ho hcz hsz kk ls H locs cells slots hl hr hq hc hs
  obtain ⟨hx, hb, hml, hown, hts, hnw, hao, hK, hini⟩ := cx
  cases ho
  rw [hn] at kk
  exact lv_null hx hb hd (kk ls H locs cells slots hl hr hq hc hs)

theorem ok_iload_n {j pc i nx : Nat} {k : Fin 4} (hk : (k : Nat) = i) (hd : decode (ax_code j) pc = .ok (.iload_n k, 1)) (hn : ax_pc j nx = pc + 1) : ax_Ok j pc (ax_iload i nx) := by
  refine ax_Ok.of (pl_iload _ _) ?_
  intro p l e R s m args below meth c Q z n0 s0 cx hfr hlo L st h i' L' st' h' ho hcz hsz kk ls H locs cells slots hl hr hq hc hs
  obtain ⟨hx, hb, hml, hown, hts, hnw, hao, hK, hini⟩ := cx
  unfold ax_iload at ho
  split at ho
  · next x hxx =>
    cases ho
    rw [hn] at kk
    exact lv_iload_n hx hb hd hk (ax_lat hl hxx) (kk ls H locs cells slots hl hr hq hc hs)
  · cases ho

theorem ok_iload {j pc i nx : Nat} (hd : decode (ax_code j) pc = .ok (.iload i, 2)) (hn : ax_pc j nx = pc + 2) : ax_Ok j pc (ax_iload i nx) := by
  refine ax_Ok.of (pl_iload _ _) ?_
  intro p l e R s m args below meth c Q z n0 s0 cx hfr hlo L st h i' L' st' h' ho hcz hsz kk ls H locs cells slots hl hr hq hc hs
  obtain ⟨hx, hb, hml, hown, hts, hnw, hao, hK, hini⟩ := cx
  unfold ax_iload at ho
  split at ho
  · next x hxx =>
    cases ho
    rw [hn] at kk
    exact lv_iload hx hb hd (ax_lat hl hxx) (kk ls H locs cells slots hl hr hq hc hs)
  · cases ho

theorem ok_aload_n {j pc i nx : Nat} {k : Fin 4} (hk : (k : Nat) = i) (hd : decode (ax_code j) pc = .ok (.aload_n k, 1)) (hn : ax_pc j nx = pc + 1) : ax_Ok j pc (ax_aload i nx) := by
  refine ax_Ok.of (pl_aload _ _) ?_
  intro p l e R s m args below meth c Q z n0 s0 cx hfr hlo L st h i' L' st' h' ho hcz hsz kk ls H locs cells slots hl hr hq hc hs
  obtain ⟨hx, hb, hml, hown, hts, hnw, hao, hK, hini⟩ := cx
  unfold ax_aload at ho
  split at ho
  · next x hxx =>
    cases ho
    rw [hn] at kk
    have hz := ax_lat hl hxx
    cases x with
    | none => exact lv_aload_nN hx hb hd hk hz (kk ls H locs cells slots hl hr hq hc hs)
    | some a => exact lv_aload_n hx hb hd hk hz (kk ls H locs cells slots hl hr hq hc hs)
  · cases ho

theorem ok_aload {j pc i nx : Nat} (hd : decode (ax_code j) pc = .ok (.aload i, 2)) (hn : ax_pc j nx = pc + 2) : ax_Ok j pc (ax_aload i nx) := by
  refine ax_Ok.of (pl_aload _ _) ?_
  intro p l e R s m args below meth c Q z n0 s0 cx hfr hlo L st h i' L' st' h' ho hcz hsz kk ls H locs cells slots hl hr hq hc hs
  obtain ⟨hx, hb, hml, hown, hts, hnw, hao, hK, hini⟩ := cx
  unfold ax_aload at ho
  split at ho
  · next x hxx =>
    cases ho
    rw [hn] at kk
    have hz := ax_lat hl hxx
    cases x with
    | none => exact lv_aloadN hx hb hd hz (kk ls H locs cells slots hl hr hq hc hs)
    | some a => exact lv_aload hx hb hd hz (kk ls H locs cells slots hl hr hq hc hs)
  · cases ho

theorem ok_istore_n {j pc i nx : Nat} {k : Fin 4} (hk : (k : Nat) = i) (hi : i < ax_nL j) (hd : decode (ax_code j) pc = .ok (.istore_n k, 1)) (hn : ax_pc j nx = pc + 1) : ax_Ok j pc (ax_istore i nx) := by
  refine ax_Ok.of (pl_istore _ _) ?_
  intro p l e R s m args below meth c Q z n0 s0 cx hfr hlo L st h i' L' st' h' ho hcz hsz kk ls H locs cells slots hl hr hq hc hs
  obtain ⟨hx, hb, hml, hown, hts, hnw, hao, hK, hini⟩ := cx
  unfold ax_istore at ho
  split at ho
  · next x t =>
    cases ho
    rw [hn] at kk
    exact lv_istore_n hx hb hd hk hl hi rfl (fun ls' hl' => kk ls' H locs cells slots (ax_lset (v := .inl x) hl') hr hq hc hs)
  · cases ho

theorem ok_istore {j pc i nx : Nat} (hi : i < ax_nL j) (hd : decode (ax_code j) pc = .ok (.istore i, 2)) (hn : ax_pc j nx = pc + 2) : ax_Ok j pc (ax_istore i nx) := by
  refine ax_Ok.of (pl_istore _ _) ?_
  intro p l e R s m args below meth c Q z n0 s0 cx hfr hlo L st h i' L' st' h' ho hcz hsz kk ls H locs cells slots hl hr hq hc hs
  obtain ⟨hx, hb, hml, hown, hts, hnw, hao, hK, hini⟩ := cx
  unfold ax_istore at ho
  split at ho
  · next x t =>
    cases ho
    rw [hn] at kk
    exact lv_istore hx hb hd hl hi rfl (fun ls' hl' => kk ls' H locs cells slots (ax_lset (v := .inl x) hl') hr hq hc hs)
  · cases ho

theorem ok_astore_n {j pc i nx : Nat} {k : Fin 4} (hk : (k : Nat) = i) (hi : i < ax_nL j) (hd : decode (ax_code j) pc = .ok (.astore_n k, 1)) (hn : ax_pc j nx = pc + 1) : ax_Ok j pc (ax_astore i nx) := by
  refine ax_Ok.of (pl_astore _ _) ?_
  intro p l e R s m args below meth c Q z n0 s0 cx hfr hlo L st h i' L' st' h' ho hcz hsz kk ls H locs cells slots hl hr hq hc hs
  obtain ⟨hx, hb, hml, hown, hts, hnw, hao, hK, hini⟩ := cx
  unfold ax_astore at ho
  split at ho
  · next x t =>
    cases ho
    rw [hn] at kk
    cases x with
    | none => exact lv_astore_nN hx hb hd hk hl hi rfl (fun ls' hl' => kk ls' H locs cells slots (ax_lset (v := .inr none) hl') hr hq hc hs)
    | some a => exact lv_astore_n hx hb hd hk hl hi rfl (fun ls' hl' => kk ls' H locs cells slots (ax_lset (v := .inr (some a)) hl') hr hq hc hs)
  · cases ho

theorem ok_astore {j pc i nx : Nat} (hi : i < ax_nL j) (hd : decode (ax_code j) pc = .ok (.astore i, 2)) (hn : ax_pc j nx = pc + 2) : ax_Ok j pc (ax_astore i nx) := by
  refine ax_Ok.of (pl_astore _ _) ?_
  intro p l e R s m args below meth c Q z n0 s0 cx hfr hlo L st h i' L' st' h' ho hcz hsz kk ls H locs cells slots hl hr hq hc hs
  obtain ⟨hx, hb, hml, hown, hts, hnw, hao, hK, hini⟩ := cx
  unfold ax_astore at ho
  split at ho
  · next x t =>
    cases ho
    rw [hn] at kk
    cases x with
    | none => exact lv_astoreN hx hb hd hl hi rfl (fun ls' hl' => kk ls' H locs cells slots (ax_lset (v := .inr none) hl') hr hq hc hs)
    | some a => exact lv_astore hx hb hd hl hi rfl (fun ls' hl' => kk ls' H locs cells slots (ax_lset (v := .inr (some a)) hl') hr hq hc hs)
  · cases ho

theorem ok_iinc {j pc i nx : Nat} {n : Int} {v : Int32} (hv : Int32.ofInt n = v) (hi : i < ax_nL j) (hd : decode (ax_code j) pc = .ok (.iinc i n, 3)) (hn : ax_pc j nx = pc + 3) : ax_Ok j pc (ax_iinc i v nx) := by
  refine ax_Ok.of (pl_iinc _ _ _) ?_
  intro p l e R s m args below meth c Q z n0 s0 cx hfr hlo L st h i' L' st' h' ho hcz hsz kk ls H locs cells slots hl hr hq hc hs
  obtain ⟨hx, hb, hml, hown, hts, hnw, hao, hK, hini⟩ := cx
  unfold ax_iinc at ho
  split at ho
  · next x hxx =>
    cases ho
    rw [hn] at kk
    obtain ⟨k, hk⟩ := List.getElem?_of_mem (ax_lof_in (z := z) L 0 i _ hxx)
    rw [Nat.zero_add] at hk
    exact lv_iinc hx hb hd hl hk (by rw [hv]) hi rfl (fun ls' hl' => kk ls' H locs cells slots (ax_lset (v := .inl (x + v)) hl') hr hq hc hs)
  · cases ho

theorem ok_iadd {j pc nx : Nat} (hd : decode (ax_code j) pc = .ok (.iadd, 1)) (hn : ax_pc j nx = pc + 1) : ax_Ok j pc (ax_bin (fun x y => x + y) nx) := by
  refine ax_Ok.of (pl_bin _ _) ?_
  intro p l e R s m args below meth c Q z n0 s0 cx hfr hlo L st h i' L' st' h' ho hcz hsz kk ls H locs cells slots hl hr hq hc hs
  obtain ⟨hx, hb, hml, hown, hts, hnw, hao, hK, hini⟩ := cx
  unfold ax_bin at ho
  split at ho
  · cases ho
    rw [hn] at kk
    exact lv_iadd hx hb hd (kk ls H locs cells slots hl hr hq hc hs)
  · cases ho

theorem ok_isub {j pc nx : Nat} (hd : decode (ax_code j) pc = .ok (.isub, 1)) (hn : ax_pc j nx = pc + 1) : ax_Ok j pc (ax_bin (fun x y => x - y) nx) := by
  refine ax_Ok.of (pl_bin _ _) ?_
  intro p l e R s m args below meth c Q z n0 s0 cx hfr hlo L st h i' L' st' h' ho hcz hsz kk ls H locs cells slots hl hr hq hc hs
  obtain ⟨hx, hb, hml, hown, hts, hnw, hao, hK, hini⟩ := cx
  unfold ax_bin at ho
  split at ho
  · cases ho
    rw [hn] at kk
    exact lv_isub hx hb hd (kk ls H locs cells slots hl hr hq hc hs)
  · cases ho

theorem ok_imul {j pc nx : Nat} (hd : decode (ax_code j) pc = .ok (.imul, 1)) (hn : ax_pc j nx = pc + 1) : ax_Ok j pc (ax_bin (fun x y => x * y) nx) := by
  refine ax_Ok.of (pl_bin _ _) ?_
  intro p l e R s m args below meth c Q z n0 s0 cx hfr hlo L st h i' L' st' h' ho hcz hsz kk ls H locs cells slots hl hr hq hc hs
  obtain ⟨hx, hb, hml, hown, hts, hnw, hao, hK, hini⟩ := cx
  unfold ax_bin at ho
  split at ho
  · cases ho
    rw [hn] at kk
    exact lv_imul hx hb hd (kk ls H locs cells slots hl hr hq hc hs)
  · cases ho

theorem ok_iand {j pc nx : Nat} (hd : decode (ax_code j) pc = .ok (.iand, 1)) (hn : ax_pc j nx = pc + 1) : ax_Ok j pc (ax_bin (fun x y => x &&& y) nx) := by
  refine ax_Ok.of (pl_bin _ _) ?_
  intro p l e R s m args below meth c Q z n0 s0 cx hfr hlo L st h i' L' st' h' ho hcz hsz kk ls H locs cells slots hl hr hq hc hs
  obtain ⟨hx, hb, hml, hown, hts, hnw, hao, hK, hini⟩ := cx
  unfold ax_bin at ho
  split at ho
  · cases ho
    rw [hn] at kk
    exact lv_iand hx hb hd (kk ls H locs cells slots hl hr hq hc hs)
  · cases ho

theorem ok_ior {j pc nx : Nat} (hd : decode (ax_code j) pc = .ok (.ior, 1)) (hn : ax_pc j nx = pc + 1) : ax_Ok j pc (ax_bin (fun x y => x ||| y) nx) := by
  refine ax_Ok.of (pl_bin _ _) ?_
  intro p l e R s m args below meth c Q z n0 s0 cx hfr hlo L st h i' L' st' h' ho hcz hsz kk ls H locs cells slots hl hr hq hc hs
  obtain ⟨hx, hb, hml, hown, hts, hnw, hao, hK, hini⟩ := cx
  unfold ax_bin at ho
  split at ho
  · cases ho
    rw [hn] at kk
    exact lv_ior hx hb hd (kk ls H locs cells slots hl hr hq hc hs)
  · cases ho

theorem ok_ishl {j pc nx : Nat} (hd : decode (ax_code j) pc = .ok (.ishl, 1)) (hn : ax_pc j nx = pc + 1) : ax_Ok j pc (ax_bin (fun x y => x <<< (y &&& 31)) nx) := by
  refine ax_Ok.of (pl_bin _ _) ?_
  intro p l e R s m args below meth c Q z n0 s0 cx hfr hlo L st h i' L' st' h' ho hcz hsz kk ls H locs cells slots hl hr hq hc hs
  obtain ⟨hx, hb, hml, hown, hts, hnw, hao, hK, hini⟩ := cx
  unfold ax_bin at ho
  split at ho
  · cases ho
    rw [hn] at kk
    exact lv_ishl hx hb hd (kk ls H locs cells slots hl hr hq hc hs)
  · cases ho

theorem ok_i2c {j pc nx : Nat} (hd : decode (ax_code j) pc = .ok (.i2c, 1)) (hn : ax_pc j nx = pc + 1) : ax_Ok j pc (ax_un (fun x => (x.toUInt32 % 65536).toInt32) nx) := by
  refine ax_Ok.of (pl_un _ _) ?_
  intro p l e R s m args below meth c Q z n0 s0 cx hfr hlo L st h i' L' st' h' ho hcz hsz kk ls H locs cells slots hl hr hq hc hs
  obtain ⟨hx, hb, hml, hown, hts, hnw, hao, hK, hini⟩ := cx
  unfold ax_un at ho
  split at ho
  · cases ho
    rw [hn] at kk
    exact lv_i2c hx hb hd rfl (kk ls H locs cells slots hl hr hq hc hs)
  · cases ho

theorem ok_dup {j pc nx : Nat} (hd : decode (ax_code j) pc = .ok (.dup, 1)) (hn : ax_pc j nx = pc + 1) : ax_Ok j pc (ax_dup nx) := by
  refine ax_Ok.of (pl_dup _) ?_
  intro p l e R s m args below meth c Q z n0 s0 cx hfr hlo L st h i' L' st' h' ho hcz hsz kk ls H locs cells slots hl hr hq hc hs
  obtain ⟨hx, hb, hml, hown, hts, hnw, hao, hK, hini⟩ := cx
  unfold ax_dup at ho
  split at ho
  · cases ho
    rw [hn] at kk
    exact lv_dup hx hb hd (ax_cat z _) (kk ls H locs cells slots hl hr hq hc hs)
  · cases ho

theorem ok_dup2 {j pc nx : Nat} (hd : decode (ax_code j) pc = .ok (.dup2, 1)) (hn : ax_pc j nx = pc + 1) : ax_Ok j pc (ax_dup2 nx) := by
  refine ax_Ok.of (pl_dup2 _) ?_
  intro p l e R s m args below meth c Q z n0 s0 cx hfr hlo L st h i' L' st' h' ho hcz hsz kk ls H locs cells slots hl hr hq hc hs
  obtain ⟨hx, hb, hml, hown, hts, hnw, hao, hK, hini⟩ := cx
  unfold ax_dup2 at ho
  split at ho
  · cases ho
    rw [hn] at kk
    exact lv_dup2_11 hx hb hd (ax_cat z _) (ax_cat z _) (kk ls H locs cells slots hl hr hq hc hs)
  · cases ho

theorem ok_pop {j pc nx : Nat} (hd : decode (ax_code j) pc = .ok (.pop, 1)) (hn : ax_pc j nx = pc + 1) : ax_Ok j pc (ax_pop nx) := by
  refine ax_Ok.of (pl_pop _) ?_
  intro p l e R s m args below meth c Q z n0 s0 cx hfr hlo L st h i' L' st' h' ho hcz hsz kk ls H locs cells slots hl hr hq hc hs
  obtain ⟨hx, hb, hml, hown, hts, hnw, hao, hK, hini⟩ := cx
  unfold ax_pop at ho
  split at ho
  · cases ho
    rw [hn] at kk
    exact lv_pop hx hb hd (ax_cat z _) (kk ls H locs cells slots hl hr hq hc hs)
  · cases ho

theorem ok_goto {j pc nx : Nat} {off : Int} (hd : decode (ax_code j) pc = .ok (.goto off, 3)) (hn : (pc : Int) + off = (ax_pc j nx : Int)) : ax_Ok j pc (ax_goto nx) := by
  refine ax_Ok.of (pl_goto _) ?_
  intro p l e R s m args below meth c Q z n0 s0 cx hfr hlo L st h i' L' st' h' ho hcz hsz kk ls H locs cells slots hl hr hq hc hs
  obtain ⟨hx, hb, hml, hown, hts, hnw, hao, hK, hini⟩ := cx
  cases ho
  exact lv_goto hx hb hd hn (kk ls H locs cells slots hl hr hq hc hs)

theorem ok_if_eq {j pc tg nx : Nat} {off : Int} (hd : decode (ax_code j) pc = .ok (.ifCond .eq off, 3)) (ht : (pc : Int) + off = (ax_pc j tg : Int)) (hn : ax_pc j nx = pc + 3) : ax_Ok j pc (ax_if (fun x => decide (x = 0)) tg nx) := by
  refine ax_Ok.of (pl_if _ _ _) ?_
  intro p l e R s m args below meth c Q z n0 s0 cx hfr hlo L st h i' L' st' h' ho hcz hsz kk ls H locs cells slots hl hr hq hc hs
  obtain ⟨hx, hb, hml, hown, hts, hnw, hao, hK, hini⟩ := cx
  unfold ax_if at ho
  split at ho
  · next x t =>
    cases ho
    dsimp only at kk
    exact lv_if_eq hx hb hd ht (fun q => by rw [show (decide (x = 0)) = true from decide_eq_true q] at kk; rw [cond_true] at kk; exact kk ls H locs cells slots hl hr hq hc hs) (fun q => by rw [show (decide (x = 0)) = false from decide_eq_false q] at kk; rw [cond_false, hn] at kk; exact kk ls H locs cells slots hl hr hq hc hs)
  · cases ho

theorem ok_if_ne {j pc tg nx : Nat} {off : Int} (hd : decode (ax_code j) pc = .ok (.ifCond .ne off, 3)) (ht : (pc : Int) + off = (ax_pc j tg : Int)) (hn : ax_pc j nx = pc + 3) : ax_Ok j pc (ax_if (fun x => decide (¬ x = 0)) tg nx) := by
  refine ax_Ok.of (pl_if _ _ _) ?_
  intro p l e R s m args below meth c Q z n0 s0 cx hfr hlo L st h i' L' st' h' ho hcz hsz kk ls H locs cells slots hl hr hq hc hs
  obtain ⟨hx, hb, hml, hown, hts, hnw, hao, hK, hini⟩ := cx
  unfold ax_if at ho
  split at ho
  · next x t =>
    cases ho
    dsimp only at kk
    exact lv_if_ne hx hb hd ht (fun q => by rw [show (decide (¬ x = 0)) = true from decide_eq_true q] at kk; rw [cond_true] at kk; exact kk ls H locs cells slots hl hr hq hc hs) (fun q => by rw [show (decide (¬ x = 0)) = false from decide_eq_false (fun w => w q)] at kk; rw [cond_false, hn] at kk; exact kk ls H locs cells slots hl hr hq hc hs)
  · cases ho

theorem ok_if_lt {j pc tg nx : Nat} {off : Int} (hd : decode (ax_code j) pc = .ok (.ifCond .lt off, 3)) (ht : (pc : Int) + off = (ax_pc j tg : Int)) (hn : ax_pc j nx = pc + 3) : ax_Ok j pc (ax_if (fun x => decide (x < 0)) tg nx) := by
  refine ax_Ok.of (pl_if _ _ _) ?_
  intro p l e R s m args below meth c Q z n0 s0 cx hfr hlo L st h i' L' st' h' ho hcz hsz kk ls H locs cells slots hl hr hq hc hs
  obtain ⟨hx, hb, hml, hown, hts, hnw, hao, hK, hini⟩ := cx
  unfold ax_if at ho
  split at ho
  · next x t =>
    cases ho
    dsimp only at kk
    exact lv_if_lt hx hb hd ht (fun q => by rw [show (decide (x < 0)) = true from decide_eq_true q] at kk; rw [cond_true] at kk; exact kk ls H locs cells slots hl hr hq hc hs) (fun q => by rw [show (decide (x < 0)) = false from decide_eq_false q] at kk; rw [cond_false, hn] at kk; exact kk ls H locs cells slots hl hr hq hc hs)
  · cases ho

theorem ok_if_ge {j pc tg nx : Nat} {off : Int} (hd : decode (ax_code j) pc = .ok (.ifCond .ge off, 3)) (ht : (pc : Int) + off = (ax_pc j tg : Int)) (hn : ax_pc j nx = pc + 3) : ax_Ok j pc (ax_if (fun x => decide (0 ≤ x)) tg nx) := by
  refine ax_Ok.of (pl_if _ _ _) ?_
  intro p l e R s m args below meth c Q z n0 s0 cx hfr hlo L st h i' L' st' h' ho hcz hsz kk ls H locs cells slots hl hr hq hc hs
  obtain ⟨hx, hb, hml, hown, hts, hnw, hao, hK, hini⟩ := cx
  unfold ax_if at ho
  split at ho
  · next x t =>
    cases ho
    dsimp only at kk
    exact lv_if_ge hx hb hd ht (fun q => by rw [show (decide (0 ≤ x)) = true from decide_eq_true q] at kk; rw [cond_true] at kk; exact kk ls H locs cells slots hl hr hq hc hs) (fun q => by rw [show (decide (0 ≤ x)) = false from decide_eq_false q] at kk; rw [cond_false, hn] at kk; exact kk ls H locs cells slots hl hr hq hc hs)
  · cases ho

theorem ok_if_gt {j pc tg nx : Nat} {off : Int} (hd : decode (ax_code j) pc = .ok (.ifCond .gt off, 3)) (ht : (pc : Int) + off = (ax_pc j tg : Int)) (hn : ax_pc j nx = pc + 3) : ax_Ok j pc (ax_if (fun x => decide (0 < x)) tg nx) := by
  refine ax_Ok.of (pl_if _ _ _) ?_
  intro p l e R s m args below meth c Q z n0 s0 cx hfr hlo L st h i' L' st' h' ho hcz hsz kk ls H locs cells slots hl hr hq hc hs
  obtain ⟨hx, hb, hml, hown, hts, hnw, hao, hK, hini⟩ := cx
  unfold ax_if at ho
  split at ho
  · next x t =>
    cases ho
    dsimp only at kk
    exact lv_if_gt hx hb hd ht (fun q => by rw [show (decide (0 < x)) = true from decide_eq_true q] at kk; rw [cond_true] at kk; exact kk ls H locs cells slots hl hr hq hc hs) (fun q => by rw [show (decide (0 < x)) = false from decide_eq_false q] at kk; rw [cond_false, hn] at kk; exact kk ls H locs cells slots hl hr hq hc hs)
  · cases ho

theorem ok_if_le {j pc tg nx : Nat} {off : Int} (hd : decode (ax_code j) pc = .ok (.ifCond .le off, 3)) (ht : (pc : Int) + off = (ax_pc j tg : Int)) (hn : ax_pc j nx = pc + 3) : ax_Ok j pc (ax_if (fun x => decide (x ≤ 0)) tg nx) := by
  refine ax_Ok.of (pl_if _ _ _) ?_
  intro p l e R s m args below meth c Q z n0 s0 cx hfr hlo L st h i' L' st' h' ho hcz hsz kk ls H locs cells slots hl hr hq hc hs
  obtain ⟨hx, hb, hml, hown, hts, hnw, hao, hK, hini⟩ := cx
  unfold ax_if at ho
  split at ho
  · next x t =>
    cases ho
    dsimp only at kk
    exact lv_if_le hx hb hd ht (fun q => by rw [show (decide (x ≤ 0)) = true from decide_eq_true q] at kk; rw [cond_true] at kk; exact kk ls H locs cells slots hl hr hq hc hs) (fun q => by rw [show (decide (x ≤ 0)) = false from decide_eq_false q] at kk; rw [cond_false, hn] at kk; exact kk ls H locs cells slots hl hr hq hc hs)
  · cases ho

theorem ok_icmp_eq {j pc tg nx : Nat} {off : Int} (hd : decode (ax_code j) pc = .ok (.if_icmp .eq off, 3)) (ht : (pc : Int) + off = (ax_pc j tg : Int)) (hn : ax_pc j nx = pc + 3) : ax_Ok j pc (ax_icmp (fun x y => decide (x = y)) tg nx) := by
  refine ax_Ok.of (pl_icmp _ _ _) ?_
  intro p l e R s m args below meth c Q z n0 s0 cx hfr hlo L st h i' L' st' h' ho hcz hsz kk ls H locs cells slots hl hr hq hc hs
  obtain ⟨hx, hb, hml, hown, hts, hnw, hao, hK, hini⟩ := cx
  unfold ax_icmp at ho
  split at ho
  · next y x t =>
    cases ho
    dsimp only at kk
    exact lv_icmp_eq hx hb hd ht (fun q => by rw [show (decide (x = y)) = true from decide_eq_true q] at kk; rw [cond_true] at kk; exact kk ls H locs cells slots hl hr hq hc hs) (fun q => by rw [show (decide (x = y)) = false from decide_eq_false q] at kk; rw [cond_false, hn] at kk; exact kk ls H locs cells slots hl hr hq hc hs)
  · cases ho

theorem ok_icmp_ne {j pc tg nx : Nat} {off : Int} (hd : decode (ax_code j) pc = .ok (.if_icmp .ne off, 3)) (ht : (pc : Int) + off = (ax_pc j tg : Int)) (hn : ax_pc j nx = pc + 3) : ax_Ok j pc (ax_icmp (fun x y => decide (¬ x = y)) tg nx) := by
  refine ax_Ok.of (pl_icmp _ _ _) ?_
  intro p l e R s m args below meth c Q z n0 s0 cx hfr hlo L st h i' L' st' h' ho hcz hsz kk ls H locs cells slots hl hr hq hc hs
  obtain ⟨hx, hb, hml, hown, hts, hnw, hao, hK, hini⟩ := cx
  unfold ax_icmp at ho
  split at ho
  · next y x t =>
    cases ho
    dsimp only at kk
    exact lv_icmp_ne hx hb hd ht (fun q => by rw [show (decide (¬ x = y)) = true from decide_eq_true q] at kk; rw [cond_true] at kk; exact kk ls H locs cells slots hl hr hq hc hs) (fun q => by rw [show (decide (¬ x = y)) = false from decide_eq_false (fun w => w q)] at kk; rw [cond_false, hn] at kk; exact kk ls H locs cells slots hl hr hq hc hs)
  · cases ho

theorem ok_icmp_lt {j pc tg nx : Nat} {off : Int} (hd : decode (ax_code j) pc = .ok (.if_icmp .lt off, 3)) (ht : (pc : Int) + off = (ax_pc j tg : Int)) (hn : ax_pc j nx = pc + 3) : ax_Ok j pc (ax_icmp (fun x y => decide (x < y)) tg nx) := by
  refine ax_Ok.of (pl_icmp _ _ _) ?_
  intro p l e R s m args below meth c Q z n0 s0 cx hfr hlo L st h i' L' st' h' ho hcz hsz kk ls H locs cells slots hl hr hq hc hs
  obtain ⟨hx, hb, hml, hown, hts, hnw, hao, hK, hini⟩ := cx
  unfold ax_icmp at ho
  split at ho
  · next y x t =>
    cases ho
    dsimp only at kk
    exact lv_icmp_lt hx hb hd ht (fun q => by rw [show (decide (x < y)) = true from decide_eq_true q] at kk; rw [cond_true] at kk; exact kk ls H locs cells slots hl hr hq hc hs) (fun q => by rw [show (decide (x < y)) = false from decide_eq_false q] at kk; rw [cond_false, hn] at kk; exact kk ls H locs cells slots hl hr hq hc hs)
  · cases ho

theorem ok_icmp_ge {j pc tg nx : Nat} {off : Int} (hd : decode (ax_code j) pc = .ok (.if_icmp .ge off, 3)) (ht : (pc : Int) + off = (ax_pc j tg : Int)) (hn : ax_pc j nx = pc + 3) : ax_Ok j pc (ax_icmp (fun x y => decide (y ≤ x)) tg nx) := by
  refine ax_Ok.of (pl_icmp _ _ _) ?_
  intro p l e R s m args below meth c Q z n0 s0 cx hfr hlo L st h i' L' st' h' ho hcz hsz kk ls H locs cells slots hl hr hq hc hs
  obtain ⟨hx, hb, hml, hown, hts, hnw, hao, hK, hini⟩ := cx
  unfold ax_icmp at ho
  split at ho
  · next y x t =>
    cases ho
    dsimp only at kk
    exact lv_icmp_ge hx hb hd ht (fun q => by rw [show (decide (y ≤ x)) = true from decide_eq_true q] at kk; rw [cond_true] at kk; exact kk ls H locs cells slots hl hr hq hc hs) (fun q => by rw [show (decide (y ≤ x)) = false from decide_eq_false q] at kk; rw [cond_false, hn] at kk; exact kk ls H locs cells slots hl hr hq hc hs)
  · cases ho

theorem ok_icmp_gt {j pc tg nx : Nat} {off : Int} (hd : decode (ax_code j) pc = .ok (.if_icmp .gt off, 3)) (ht : (pc : Int) + off = (ax_pc j tg : Int)) (hn : ax_pc j nx = pc + 3) : ax_Ok j pc (ax_icmp (fun x y => decide (y < x)) tg nx) := by
  refine ax_Ok.of (pl_icmp _ _ _) ?_
  intro p l e R s m args below meth c Q z n0 s0 cx hfr hlo L st h i' L' st' h' ho hcz hsz kk ls H locs cells slots hl hr hq hc hs
  obtain ⟨hx, hb, hml, hown, hts, hnw, hao, hK, hini⟩ := cx
  unfold ax_icmp at ho
  split at ho
  · next y x t =>
    cases ho
    dsimp only at kk
    exact lv_icmp_gt hx hb hd ht (fun q => by rw [show (decide (y < x)) = true from decide_eq_true q] at kk; rw [cond_true] at kk; exact kk ls H locs cells slots hl hr hq hc hs) (fun q => by rw [show (decide (y < x)) = false from decide_eq_false q] at kk; rw [cond_false, hn] at kk; exact kk ls H locs cells slots hl hr hq hc hs)
  · cases ho

theorem ok_icmp_le {j pc tg nx : Nat} {off : Int} (hd : decode (ax_code j) pc = .ok (.if_icmp .le off, 3)) (ht : (pc : Int) + off = (ax_pc j tg : Int)) (hn : ax_pc j nx = pc + 3) : ax_Ok j pc (ax_icmp (fun x y => decide (x ≤ y)) tg nx) := by
  refine ax_Ok.of (pl_icmp _ _ _) ?_
  intro p l e R s m args below meth c Q z n0 s0 cx hfr hlo L st h i' L' st' h' ho hcz hsz kk ls H locs cells slots hl hr hq hc hs
  obtain ⟨hx, hb, hml, hown, hts, hnw, hao, hK, hini⟩ := cx
  unfold ax_icmp at ho
  split at ho
  · next y x t =>
    cases ho
    dsimp only at kk
    exact lv_icmp_le hx hb hd ht (fun q => by rw [show (decide (x ≤ y)) = true from decide_eq_true q] at kk; rw [cond_true] at kk; exact kk ls H locs cells slots hl hr hq hc hs) (fun q => by rw [show (decide (x ≤ y)) = false from decide_eq_false q] at kk; rw [cond_false, hn] at kk; exact kk ls H locs cells slots hl hr hq hc hs)
  · cases ho

theorem ok_ifnull {j pc tg nx : Nat} {off : Int} (hd : decode (ax_code j) pc = .ok (.ifnull off, 3)) (ht : (pc : Int) + off = (ax_pc j tg : Int)) (hn : ax_pc j nx = pc + 3) : ax_Ok j pc (ax_ifnull tg nx) := by
  refine ax_Ok.of (pl_ifnull _ _) ?_
  intro p l e R s m args below meth c Q z n0 s0 cx hfr hlo L st h i' L' st' h' ho hcz hsz kk ls H locs cells slots hl hr hq hc hs
  obtain ⟨hx, hb, hml, hown, hts, hnw, hao, hK, hini⟩ := cx
  unfold ax_ifnull at ho
  split at ho
  · cases ho
    exact lv_ifnullN hx hb hd ht (kk ls H locs cells slots hl hr hq hc hs)
  · cases ho
    rw [hn] at kk
    exact lv_ifnull hx hb hd (kk ls H locs cells slots hl hr hq hc hs)
  · cases ho

theorem ok_ifnonnull {j pc tg nx : Nat} {off : Int} (hd : decode (ax_code j) pc = .ok (.ifnonnull off, 3)) (ht : (pc : Int) + off = (ax_pc j tg : Int)) (hn : ax_pc j nx = pc + 3) : ax_Ok j pc (ax_ifnonnull tg nx) := by
  refine ax_Ok.of (pl_ifnonnull _ _) ?_
  intro p l e R s m args below meth c Q z n0 s0 cx hfr hlo L st h i' L' st' h' ho hcz hsz kk ls H locs cells slots hl hr hq hc hs
  obtain ⟨hx, hb, hml, hown, hts, hnw, hao, hK, hini⟩ := cx
  unfold ax_ifnonnull at ho
  split at ho
  · cases ho
    rw [hn] at kk
    exact lv_ifnonnullN hx hb hd (kk ls H locs cells slots hl hr hq hc hs)
  · cases ho
    exact lv_ifnonnull hx hb hd ht (kk ls H locs cells slots hl hr hq hc hs)
  · cases ho

