/-! THE CLAIM OUT OF ONE WALK OF THE LAW'S BODY. Your part is whole_start (and what it stands on); all else here is the same for every law, but numbers. -/
def R_law : String := "RolePartsLaw"
def lw_P (b : Addr) (xs : List Int32) (args : Array Value) (s : State) : Prop := args = #[.ref b] ∧ s.IntsAt b xs ∧ xs.length ≤ 2048 ∧ (Jvm.Cond.and given_1 narrow_1).before args s = true
def lw_Q (_ : Array Value) (s : State) (o : Outcome) (t : State) : Prop := o = .returned (some (.int 1)) ∧ Framed s o t [] 600000 7302250
def lw_Z (below : List Frame) (a : Array Value) (s : State) : State → Prop := fun t => ∃ o, t.status = .running ∧ Ended t below o ∧ lw_Q a s o t
/-- the law's own end, with 1 on the stack, nothing written that was there before, its room as the claim has it -/
theorem lw_ret {p : Program} {l : Launch} {e : Env} {s : State} {m : MethodId} {below : List Frame} {meth : Method} {c : Code} {b : Nat} (hx : p.tables.exec = Jvm.exec) (hb : c.code = code) (hr : meth.sig.returnType = ret) (hlocks : meth.locks = false) {pc : Nat} {H : Heap} {ls : Array Slot} (hdg : decode code pc = .ok (.ireturn, 1)) : W p l e room_1 s m #[Value.ref b] below meth c H [] 600000 7302250 (lw_Z below #[Value.ref b] s) (F0 m pc ls [.int 1]) := by
  intro T hT X
  obtain ⟨fs, hret, hrun, hended, hW, hframe⟩ := X.leave (v := some (.int 1)) (hlocks := hlocks) (fun h => by rw [hr] at h; cases h)
  have hmeth' : T.vm.method? m = some meth := X.method'
  refine ⟨T.setFrames fs, ?_, .returned (some (.int 1)), hrun, hended, rfl, ⟨_, rfl⟩, hW, hframe⟩
  jvm_step X.here [X.here.top, hx, hb, hdg, hmeth', hr, ret, narrow_b1]
  (try refine ⟨rfl, ?_⟩); (try refine ⟨rfl, ?_⟩)
  first | (intro acts; rw [hret _ acts rfl rfl rfl]) | rw [hret _ _ rfl rfl rfl]
  exact Steps.refl _
/-- what holds at the law's entry: the machine, the code, the tables' words (any of lw_tbl by 'hts w (by decide +kernel)'), the script of L ints xs at the cell b, what the Statement gives of the start (any of its parts by flat_of_before) -/
def lw_At (p : Program) (s : State) (m : MethodId) (meth : Method) (c : Code) (b L : Nat) (xs : Nat → Int32) : Prop :=
  p.tables.exec = Jvm.exec ∧ c.code = code ∧ meth.sig.returnType = ret ∧ c.maxLocals = 4 ∧ s.vm.findClass R_law = some m.cls ∧ (∀ w ∈ lw_tbl, w.before #[Value.ref b] s = true) ∧ va_X b L xs s s.heap ∧ b < s.heap.size ∧ meth.locks = false ∧ (Jvm.Cond.and given_1 narrow_1).before #[Value.ref b] s = true
/-! From a run of the small machine to the claim. -/
theorem ax_Kcl {s : State} {args : Array Value} (hts : ∀ w ∈ ax_ws, w.before args s = true) : ∃ (dC : Nat → ClassId) (dI : Nat → Nat → Nat), ∀ (k : Nat) (q : vw_C), vwCl[k]? = some q → u_Kn s q.1 q.2.1 q.2.2 (dC k) (dI k) := by
  obtain ⟨c0, i0, h0⟩ := u_known (C := RX0) (T := TX0) (N := 2) (n := 2) hts in_X0 (hts _ wd_32)
  obtain ⟨c1, i1, h1⟩ := u_known (C := RX1) (T := TX1) (N := 4) (n := 4) hts in_X1 (hts _ wd_87)
  obtain ⟨c2, i2, h2⟩ := u_known (C := RX2) (T := TX2) (N := 3) (n := 3) hts in_X2 (hts _ wd_70)
  obtain ⟨c3, i3, h3⟩ := u_known (C := RX3) (T := TX3) (N := 2) (n := 2) hts in_X3 (hts _ wd_105)
  obtain ⟨c4, i4, h4⟩ := u_known (C := RX4) (T := TX4) (N := 4) (n := 4) hts in_X4 (hts _ wd_45)
  obtain ⟨c5, i5, h5⟩ := u_known (C := RX5) (T := TX5) (N := 2) (n := 2) hts in_X5 (hts _ wd_18)
  obtain ⟨c6, i6, h6⟩ := u_known (C := RX6) (T := TX6) (N := 9) (n := 9) hts in_X6 (hts _ wd_10)
  obtain ⟨c7, i7, h7⟩ := u_known (C := RX7) (T := TX7) (N := 19) (n := 19) hts in_X7 (hts _ wd_432)
  refine ⟨fun k => [c0, c1, c2, c3, c4, c5, c6, c7].getD k c0, fun k => [i0, i1, i2, i3, i4, i5, i6, i7].getD k i0, ?_⟩
  intro k q hq
  match k, hq with
  | 0, hq => cases hq; exact h0
  | 1, hq => cases hq; exact h1
  | 2, hq => cases hq; exact h2
  | 3, hq => cases hq; exact h3
  | 4, hq => cases hq; exact h4
  | 5, hq => cases hq; exact h5
  | 6, hq => cases hq; exact h6
  | 7, hq => cases hq; exact h7
  | k + 8, hq => simp [vwCl] at hq
theorem ax_arrN {s : State} {args : Array Value} {ty : FieldType} (h : (Cond.arrayClass ty).before args s = true) (hp : ∀ (U : State) (cA : ClassId), U.vm.findClass ("[" ++ ty.toString) = some cA → va_RA U cA ty) : ∃ cA : ClassId, ArrOfT s cA ty ∧ va_RA s cA ty := by
  obtain ⟨cA, kA, comp, h1, h2, h3⟩ := Cond.arrayClass_spec h
  exact ⟨cA, fun n z => ⟨fun k h => (by cases h), kA, h2, comp, h3⟩, hp s cA h1⟩
theorem ax_arrO {s : State} {C : String} (h : va_AO C s) : ∃ cA : ClassId, ArrOfT s cA (.object C) ∧ va_RA s cA (.object C) := by
  obtain ⟨comp, cA, kA, hcomp, hidx, hkA, hkind, hname⟩ := Cond.arrayOver_spec h
  exact ⟨cA, fun n z => ⟨fun k h => (by cases h), kA, hkA, comp, hkind⟩, kA, comp, hkA, hkind, hcomp, hname⟩
theorem ax_Kall {s : State} {args : Array Value} (hts : ∀ w ∈ ax_ws, w.before args s = true) (hao : ∀ C ∈ ax_ao, va_AO C s) : ∃ (D : va_G) (aC : Nat → ClassId), ∀ b sc : Nat, va_K D vwCl (ax_tys (D, aC, b, sc)) s := by
  obtain ⟨dC, dI, hK⟩ := ax_Kcl hts
  obtain ⟨a0, x0⟩ := ax_arrN (hts _ wd_63) (fun _ _ h => h)
  obtain ⟨a1, x1⟩ := ax_arrN (hts _ wd_30) (fun _ _ h => h)
  obtain ⟨a2, x2⟩ := ax_arrO (hao RX2 (by decide))
  obtain ⟨a3, x3⟩ := ax_arrO (hao RX1 (by decide))
  obtain ⟨a4, x4⟩ := ax_arrO (hao RX3 (by decide))
  refine ⟨(dC, dI), fun k => [a0, a1, a2, a3, a4].getD k a0, fun b sc => ⟨hK, fun k q hq => ?_⟩⟩
  match k, hq with
  | 0, hq => cases hq; exact x0
  | 1, hq => cases hq; exact x1
  | 2, hq => cases hq; exact x2
  | 3, hq => cases hq; exact x3
  | 4, hq => cases hq; exact x4
  | k + 5, hq => simp [ax_tys] at hq
theorem W.mono {p : Program} {l : Launch} {e : Env} {R : Room} {s : State} {m : MethodId} {args : Array Value} {below : List Frame} {meth : Method} {c : Code} {H : Heap} {locs : List Loc} {cells slots : Nat} {Q Q2 : State → Prop} {g : JFrame} (h : ∀ t, Q t → Q2 t) (w : W p l e R s m args below meth c H locs cells slots Q g) : W p l e R s m args below meth c H locs cells slots Q2 g := by
  intro T hT X
  obtain ⟨t, a, b⟩ := w T hT X
  exact ⟨t, a, h t b⟩
/-- the heap at the law's start: the script alone -/
def ax_h0 (L : Nat) (xs : Nat → Int32) : ax_H := (1, 0, fun _ => .inl (9, L, .inl xs))
theorem ax_whole {p : Program} {e : Env} {s : State} {m : MethodId} {below : List Frame} {meth : Method} {c : Code} (l : Launch) {b L : Nat} {xs : Nat → Int32} (C0 : lw_At p s m meth c b L xs) {hF : ax_H} (hE : ax_Ev ax_P ax_nL 1000 115 0 (ax_ent 4 [.inr (some 0)]) [] (ax_h0 L xs) (some (.inl 1)) hF) (h1 : hF.1 ≤ 600000) (h2 : hF.2.1 ≤ 7302250) : W p l e room_1 s m #[Value.ref b] below meth c s.heap [] 0 0 (lw_Z below #[Value.ref b] s) (entryFrame m ([Value.ref b] : List Value).toArray 4) := by
  obtain ⟨hx, hb, hr, hml, hown, hts0, hX, hbl, hlocks, hgv⟩ := C0
  obtain ⟨n, hn⟩ := hE
  have hts : ∀ w ∈ ax_ws, w.before #[Value.ref b] s = true := fun w hw => hts0 w (List.mem_filter.mp hw).1
  have hnw : ∀ w ∈ ax_nw, va_Nw w s := fun w hw => va_Nw.of (ax_nest_tab hw) (hts0 w (List.mem_append_right _ (List.mem_filter.mp hw).1))
  have hao : ∀ C ∈ ax_ao, va_AO C s := by
    intro C hC
    have h3 : ∀ C ∈ ax_ao, Cond.arrayOver (.object C) ∈ lw_tbl := by decide +kernel
    exact va_AO.of (hts0 _ (h3 C hC))
  obtain ⟨D, aC, hKa⟩ := ax_Kall hts hao
  have hcx : ax_cx (D, aC, s.heap.size, b) 115 p s m #[Value.ref b] meth c := ⟨hx, hb, hml, hown, hts, hnw, hao, hKa _ _, fun h => absurd h (by decide)⟩
  have hw := ax_sim l ax_all ax_pc0 n 1000 115 0 _ [] (ax_h0 L xs) (some (.inl 1)) hF hn p e room_1 s m #[Value.ref b] below meth c (MQ below (ax_Qc (D, aC, s.heap.size, b) (some (.inl 1)) hF) #[Value.ref b] s (hF.1 - 1) (hF.2.1 - 0) (fun q => s.heap.size ≤ q)) (D, aC, s.heap.size, b) 1 0 hcx (by decide) (by decide) (Nat.le_succ_of_le h1) h2
    (fun i' L' st' ho => (ax_all 115 i').2.2.1 p l e _ s m _ below meth c _ 1 0 hcx hlocks hr L' st' hF _ ho)
  rw [ax_pc0] at hw
  rw [lg_entry_eq]
  have hl := lv_entry ([.ref b]) (n := 4) (Nat.le_of_ble_eq_true rfl)
  have hW := hw _ s.heap [] 0 0 ⟨hl.1, hl.2.1, fun q hq => hl.2.2 q (ax_lent (z := (D, aC, s.heap.size, b)) [.inr (some 0)] 0 3 q hq)⟩ ⟨rfl, Nat.one_pos, hbl, fun k hk => absurd hk (by show ¬ k + 1 < 1; omega), L, xs, rfl, hX⟩ (fun q hq => by cases hq) rfl rfl
  refine W.mono ?_ hW
  rintro t ⟨o, q1, q2, ⟨q3, -⟩, LL, ⟨q4, q5, q6⟩, q7⟩
  refine ⟨o, q1, q2, q3, q4, q5, q6.weaken (fun x hx hlt => absurd (q7 x hx) (Nat.not_le.mpr hlt)) ?_ ?_⟩
  · omega
  · omega
