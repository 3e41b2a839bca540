/-! The law's loop. -/
section LAW
theorem ev_sld {d j i : Nat} {L : ax_L} {st : List ax_V} {h : ax_H} {r : Option ax_V} {h' : ax_H} {n nx k : Nat} {f : Nat → Int32} (hP : ax_P j i = ax_sld nx) (hc : h.2.2 0 = .inl (9, n, .inl f)) (hk : k < n) (hn : n ≤ 2048) (kk : Ev d j nx L (.inl (f k) :: st) h r h') : Ev d j i L (.inl (nI k) :: .inr (some 0) :: st) h r h' := by
  refine ax_st (i1 := nx) (L1 := L) (st1 := .inl (f k) :: st) (h1 := h) ?_ kk
  rw [hP]
  simp only [ax_sld, hc, in_nI hk (show n < 2 ^ 31 by omega), if_true, nI_clamp (show k < 2 ^ 31 by omega)]
theorem ev_slen {d j i : Nat} {L : ax_L} {st : List ax_V} {h : ax_H} {r : Option ax_V} {h' : ax_H} {n nx : Nat} {f : Nat → Int32} (hP : ax_P j i = ax_slen nx) (hc : h.2.2 0 = .inl (9, n, .inl f)) (kk : Ev d j nx L (.inl (nI n) :: st) h r h') : Ev d j i L (.inr (some 0) :: st) h r h' := by
  refine ax_st (i1 := nx) (L1 := L) (st1 := .inl (nI n) :: st) (h1 := h) ?_ kk
  rw [hP]
  simp only [ax_slen, hc]
  rfl
variable {n N S : Nat} {f : Nat → Int32}
/-- the place behind a call of both -/
def LW (i k : Nat) (h : ax_H) (N S : Nat) : Prop := ∃ h', Ev 1000 115 i [some (.inr (some 0)), some (.inr (some 1)), some (.inr (some 59)), some (.inl (nI k))] [] h (some (.inl 1)) h' ∧ h'.1 = N ∧ h'.2.1 = S
theorem lw_n {k : Nat} {h : ax_H} (h1 : LW 10 (k + 4) h N S) : LW 296 k h N S := by
  obtain ⟨h', e, q⟩ := h1
  refine ⟨h', ?_, q⟩
  rw [← nI_add k 4] at e
  repeat (first | (exact e) | refine ax_st rfl ?_ | (apply ev_get rfl; assumption; rfl))
theorem lw_0 {k : Nat} {h : ax_H} (L : LI (.inl (9, n, .inl f)) N S h) (hn : n ≤ 2048) (hk : k + 1 < n) (K : ∀ h1, LI (.inl (9, n, .inl f)) N S h1 → LW 296 k h1 N S) : LW 22 k h N S := by
  have hx : (f (k + 1)).toBitVec.toNat % 65536 < 65536 := Nat.mod_lt _ (by decide)
  obtain ⟨v, h1, h2, fs1, fs2, e1, e2, o1, o2, L2, c2⟩ := op_type hx L
  rw [← pk_char] at e1 e2
  obtain ⟨h', e3, q⟩ := K h2 L2
  refine ⟨h', ?_, q⟩
  have c1 := L.2.2.1
  (repeat (first | refine ax_st rfl ?_ | (apply ev_get rfl; assumption; rfl))); try dsimp only
  rw [show nI k + 1 = nI (k + 1) from nI_add k 1]
  refine ev_sld rfl c1 (by omega) hn ?_
  (repeat (first | refine ax_st rfl ?_ | (apply ev_get rfl; assumption; rfl))); try dsimp only
  refine ev_callV rfl o1 ⟨rfl, rfl, (Nat.le_of_ble_eq_true rfl), (Nat.le_of_ble_eq_true rfl)⟩ e1 ?_
  (repeat (first | refine ax_st rfl ?_ | (apply ev_get rfl; assumption; rfl))); try dsimp only
  rw [show nI k + 1 = nI (k + 1) from nI_add k 1]
  refine ev_sld rfl c2 (by omega) hn ?_
  (repeat (first | refine ax_st rfl ?_ | (apply ev_get rfl; assumption; rfl))); try dsimp only
  refine ev_callV rfl o2 ⟨rfl, rfl, (Nat.le_of_ble_eq_true rfl), (Nat.le_of_ble_eq_true rfl)⟩ e2 ?_
  refine ax_st rfl ?_
  dsimp only
  refine ev_t rfl ?_
  exact e3
theorem lw_1 {k : Nat} {h : ax_H} (L : LI (.inl (9, n, .inl f)) N S h) (hn : n ≤ 2048) (hk : k + 1 < n) (K : ∀ h1, LI (.inl (9, n, .inl f)) N S h1 → LW 296 k h1 N S) : LW 41 k h N S := by
  obtain ⟨v, h1, h2, fs1, fs2, e1, e2, o1, o2, L2, c2⟩ := op_define L
  obtain ⟨h', e3, q⟩ := K h2 L2
  refine ⟨h', ?_, q⟩
  have c1 := L.2.2.1
  (repeat (first | refine ax_st rfl ?_ | (apply ev_get rfl; assumption; rfl))); try dsimp only
  refine ev_callV rfl o1 ⟨rfl, rfl, (Nat.le_of_ble_eq_true rfl), (Nat.le_of_ble_eq_true rfl)⟩ e1 ?_
  (repeat (first | refine ax_st rfl ?_ | (apply ev_get rfl; assumption; rfl))); try dsimp only
  refine ev_callV rfl o2 ⟨rfl, rfl, (Nat.le_of_ble_eq_true rfl), (Nat.le_of_ble_eq_true rfl)⟩ e2 ?_
  refine ax_st rfl ?_
  dsimp only
  refine ev_t rfl ?_
  exact e3
theorem lw_2 {k : Nat} {h : ax_H} (L : LI (.inl (9, n, .inl f)) N S h) (hn : n ≤ 2048) (hk : k + 1 < n) (K : ∀ h1, LI (.inl (9, n, .inl f)) N S h1 → LW 296 k h1 N S) : LW 48 k h N S := by
  obtain ⟨v, h1, h2, fs1, fs2, e1, e2, o1, o2, L2, c2⟩ := op_messages L
  obtain ⟨h', e3, q⟩ := K h2 L2
  refine ⟨h', ?_, q⟩
  have c1 := L.2.2.1
  (repeat (first | refine ax_st rfl ?_ | (apply ev_get rfl; assumption; rfl))); try dsimp only
  refine ev_callV rfl o1 ⟨rfl, rfl, (Nat.le_of_ble_eq_true rfl), (Nat.le_of_ble_eq_true rfl)⟩ e1 ?_
  (repeat (first | refine ax_st rfl ?_ | (apply ev_get rfl; assumption; rfl))); try dsimp only
  refine ev_callV rfl o2 ⟨rfl, rfl, (Nat.le_of_ble_eq_true rfl), (Nat.le_of_ble_eq_true rfl)⟩ e2 ?_
  refine ax_st rfl ?_
  dsimp only
  refine ev_t rfl ?_
  exact e3
theorem lw_3 {k : Nat} {h : ax_H} (L : LI (.inl (9, n, .inl f)) N S h) (hn : n ≤ 2048) (hk : k + 1 < n) (K : ∀ h1, LI (.inl (9, n, .inl f)) N S h1 → LW 296 k h1 N S) : LW 55 k h N S := by
  obtain ⟨v, h1, h2, fs1, fs2, e1, e2, o1, o2, L2, c2⟩ := op_length (x := f (k + 1)) L
  obtain ⟨h', e3, q⟩ := K h2 L2
  refine ⟨h', ?_, q⟩
  have c1 := L.2.2.1
  (repeat (first | refine ax_st rfl ?_ | (apply ev_get rfl; assumption; rfl))); try dsimp only
  rw [show nI k + 1 = nI (k + 1) from nI_add k 1]
  refine ev_sld rfl c1 (by omega) hn ?_
  skip
  refine ev_callV rfl o1 ⟨rfl, rfl, (Nat.le_of_ble_eq_true rfl), (Nat.le_of_ble_eq_true rfl)⟩ e1 ?_
  (repeat (first | refine ax_st rfl ?_ | (apply ev_get rfl; assumption; rfl))); try dsimp only
  rw [show nI k + 1 = nI (k + 1) from nI_add k 1]
  refine ev_sld rfl c2 (by omega) hn ?_
  skip
  refine ev_callV rfl o2 ⟨rfl, rfl, (Nat.le_of_ble_eq_true rfl), (Nat.le_of_ble_eq_true rfl)⟩ e2 ?_
  refine ax_st rfl ?_
  dsimp only
  refine ev_t rfl ?_
  exact e3
theorem lw_4 {k : Nat} {h : ax_H} (L : LI (.inl (9, n, .inl f)) N S h) (hn : n ≤ 2048) (hk : k + 2 < n) (K : ∀ h1, LI (.inl (9, n, .inl f)) N S h1 → LW 296 k h1 N S) : LW 72 k h N S := by
  obtain ⟨v, h1, h2, fs1, fs2, e1, e2, o1, o2, L2, c2⟩ := op_charAt (x := f (k + 1)) (k := f (k + 2)) L
  obtain ⟨h', e3, q⟩ := K h2 L2
  refine ⟨h', ?_, q⟩
  have c1 := L.2.2.1
  (repeat (first | refine ax_st rfl ?_ | (apply ev_get rfl; assumption; rfl))); try dsimp only
  rw [show nI k + 1 = nI (k + 1) from nI_add k 1]
  refine ev_sld rfl c1 (by omega) hn ?_
  (repeat (first | refine ax_st rfl ?_ | (apply ev_get rfl; assumption; rfl))); try dsimp only
  rw [show nI k + 2 = nI (k + 2) from nI_add k 2]
  refine ev_sld rfl c1 (by omega) hn ?_
  skip
  refine ev_callV rfl o1 ⟨rfl, rfl, (Nat.le_of_ble_eq_true rfl), (Nat.le_of_ble_eq_true rfl)⟩ e1 ?_
  (repeat (first | refine ax_st rfl ?_ | (apply ev_get rfl; assumption; rfl))); try dsimp only
  rw [show nI k + 1 = nI (k + 1) from nI_add k 1]
  refine ev_sld rfl c2 (by omega) hn ?_
  (repeat (first | refine ax_st rfl ?_ | (apply ev_get rfl; assumption; rfl))); try dsimp only
  rw [show nI k + 2 = nI (k + 2) from nI_add k 2]
  refine ev_sld rfl c2 (by omega) hn ?_
  skip
  refine ev_callV rfl o2 ⟨rfl, rfl, (Nat.le_of_ble_eq_true rfl), (Nat.le_of_ble_eq_true rfl)⟩ e2 ?_
  refine ax_st rfl ?_
  dsimp only
  refine ev_t rfl ?_
  exact e3
theorem lw_5 {k : Nat} {h : ax_H} (L : LI (.inl (9, n, .inl f)) N S h) (hn : n ≤ 2048) (hk : k + 1 < n) (K : ∀ h1, LI (.inl (9, n, .inl f)) N S h1 → LW 296 k h1 N S) : LW 99 k h N S := by
  obtain ⟨v, h1, h2, fs1, fs2, e1, e2, o1, o2, L2, c2⟩ := op_begin L
  obtain ⟨h', e3, q⟩ := K h2 L2
  refine ⟨h', ?_, q⟩
  have c1 := L.2.2.1
  (repeat (first | refine ax_st rfl ?_ | (apply ev_get rfl; assumption; rfl))); try dsimp only
  refine ev_callV rfl o1 ⟨rfl, rfl, (Nat.le_of_ble_eq_true rfl), (Nat.le_of_ble_eq_true rfl)⟩ e1 ?_
  (repeat (first | refine ax_st rfl ?_ | (apply ev_get rfl; assumption; rfl))); try dsimp only
  refine ev_callV rfl o2 ⟨rfl, rfl, (Nat.le_of_ble_eq_true rfl), (Nat.le_of_ble_eq_true rfl)⟩ e2 ?_
  refine ax_st rfl ?_
  dsimp only
  refine ev_t rfl ?_
  exact e3
theorem lw_6 {k : Nat} {h : ax_H} (L : LI (.inl (9, n, .inl f)) N S h) (hn : n ≤ 2048) (hk : k + 1 < n) (K : ∀ h1, LI (.inl (9, n, .inl f)) N S h1 → LW 296 k h1 N S) : LW 106 k h N S := by
  obtain ⟨v, h1, h2, fs1, fs2, e1, e2, o1, o2, L2, c2⟩ := op_act (x := f (k + 1)) L
  obtain ⟨h', e3, q⟩ := K h2 L2
  refine ⟨h', ?_, q⟩
  have c1 := L.2.2.1
  (repeat (first | refine ax_st rfl ?_ | (apply ev_get rfl; assumption; rfl))); try dsimp only
  rw [show nI k + 1 = nI (k + 1) from nI_add k 1]
  refine ev_sld rfl c1 (by omega) hn ?_
  skip
  refine ev_callV rfl o1 ⟨rfl, rfl, (Nat.le_of_ble_eq_true rfl), (Nat.le_of_ble_eq_true rfl)⟩ e1 ?_
  (repeat (first | refine ax_st rfl ?_ | (apply ev_get rfl; assumption; rfl))); try dsimp only
  rw [show nI k + 1 = nI (k + 1) from nI_add k 1]
  refine ev_sld rfl c2 (by omega) hn ?_
  skip
  refine ev_callV rfl o2 ⟨rfl, rfl, (Nat.le_of_ble_eq_true rfl), (Nat.le_of_ble_eq_true rfl)⟩ e2 ?_
  refine ax_st rfl ?_
  dsimp only
  refine ev_t rfl ?_
  exact e3
theorem lw_7 {k : Nat} {h : ax_H} (L : LI (.inl (9, n, .inl f)) N S h) (hn : n ≤ 2048) (hk : k + 1 < n) (K : ∀ h1, LI (.inl (9, n, .inl f)) N S h1 → LW 296 k h1 N S) : LW 123 k h N S := by
  obtain ⟨v, h1, h2, fs1, fs2, e1, e2, o1, o2, L2, c2⟩ := op_partner (x := f (k + 1)) L
  obtain ⟨h', e3, q⟩ := K h2 L2
  refine ⟨h', ?_, q⟩
  have c1 := L.2.2.1
  (repeat (first | refine ax_st rfl ?_ | (apply ev_get rfl; assumption; rfl))); try dsimp only
  rw [show nI k + 1 = nI (k + 1) from nI_add k 1]
  refine ev_sld rfl c1 (by omega) hn ?_
  skip
  refine ev_callV rfl o1 ⟨rfl, rfl, (Nat.le_of_ble_eq_true rfl), (Nat.le_of_ble_eq_true rfl)⟩ e1 ?_
  (repeat (first | refine ax_st rfl ?_ | (apply ev_get rfl; assumption; rfl))); try dsimp only
  rw [show nI k + 1 = nI (k + 1) from nI_add k 1]
  refine ev_sld rfl c2 (by omega) hn ?_
  skip
  refine ev_callV rfl o2 ⟨rfl, rfl, (Nat.le_of_ble_eq_true rfl), (Nat.le_of_ble_eq_true rfl)⟩ e2 ?_
  refine ax_st rfl ?_
  dsimp only
  refine ev_t rfl ?_
  exact e3
theorem lw_8 {k : Nat} {h : ax_H} (L : LI (.inl (9, n, .inl f)) N S h) (hn : n ≤ 2048) (hk : k + 2 < n) (K : ∀ h1, LI (.inl (9, n, .inl f)) N S h1 → LW 296 k h1 N S) : LW 140 k h N S := by
  obtain ⟨v, h1, h2, fs1, fs2, e1, e2, o1, o2, L2, c2⟩ := op_offers (x := f (k + 1)) (l := f (k + 2)) L
  obtain ⟨h', e3, q⟩ := K h2 L2
  refine ⟨h', ?_, q⟩
  have c1 := L.2.2.1
  (repeat (first | refine ax_st rfl ?_ | (apply ev_get rfl; assumption; rfl))); try dsimp only
  rw [show nI k + 1 = nI (k + 1) from nI_add k 1]
  refine ev_sld rfl c1 (by omega) hn ?_
  (repeat (first | refine ax_st rfl ?_ | (apply ev_get rfl; assumption; rfl))); try dsimp only
  rw [show nI k + 2 = nI (k + 2) from nI_add k 2]
  refine ev_sld rfl c1 (by omega) hn ?_
  skip
  refine ev_callV rfl o1 ⟨rfl, rfl, (Nat.le_of_ble_eq_true rfl), (Nat.le_of_ble_eq_true rfl)⟩ e1 ?_
  (repeat (first | refine ax_st rfl ?_ | (apply ev_get rfl; assumption; rfl))); try dsimp only
  rw [show nI k + 1 = nI (k + 1) from nI_add k 1]
  refine ev_sld rfl c2 (by omega) hn ?_
  (repeat (first | refine ax_st rfl ?_ | (apply ev_get rfl; assumption; rfl))); try dsimp only
  rw [show nI k + 2 = nI (k + 2) from nI_add k 2]
  refine ev_sld rfl c2 (by omega) hn ?_
  skip
  refine ev_callV rfl o2 ⟨rfl, rfl, (Nat.le_of_ble_eq_true rfl), (Nat.le_of_ble_eq_true rfl)⟩ e2 ?_
  refine ax_st rfl ?_
  dsimp only
  refine ev_t rfl ?_
  exact e3
theorem lw_9 {k : Nat} {h : ax_H} (L : LI (.inl (9, n, .inl f)) N S h) (hn : n ≤ 2048) (hk : k + 2 < n) (K : ∀ h1, LI (.inl (9, n, .inl f)) N S h1 → LW 296 k h1 N S) : LW 167 k h N S := by
  obtain ⟨v, h1, h2, fs1, fs2, e1, e2, o1, o2, L2, c2⟩ := op_send (x := f (k + 1)) (l := f (k + 2)) L
  obtain ⟨h', e3, q⟩ := K h2 L2
  refine ⟨h', ?_, q⟩
  have c1 := L.2.2.1
  (repeat (first | refine ax_st rfl ?_ | (apply ev_get rfl; assumption; rfl))); try dsimp only
  rw [show nI k + 1 = nI (k + 1) from nI_add k 1]
  refine ev_sld rfl c1 (by omega) hn ?_
  (repeat (first | refine ax_st rfl ?_ | (apply ev_get rfl; assumption; rfl))); try dsimp only
  rw [show nI k + 2 = nI (k + 2) from nI_add k 2]
  refine ev_sld rfl c1 (by omega) hn ?_
  skip
  refine ev_callV rfl o1 ⟨rfl, rfl, (Nat.le_of_ble_eq_true rfl), (Nat.le_of_ble_eq_true rfl)⟩ e1 ?_
  (repeat (first | refine ax_st rfl ?_ | (apply ev_get rfl; assumption; rfl))); try dsimp only
  rw [show nI k + 1 = nI (k + 1) from nI_add k 1]
  refine ev_sld rfl c2 (by omega) hn ?_
  (repeat (first | refine ax_st rfl ?_ | (apply ev_get rfl; assumption; rfl))); try dsimp only
  rw [show nI k + 2 = nI (k + 2) from nI_add k 2]
  refine ev_sld rfl c2 (by omega) hn ?_
  skip
  refine ev_callV rfl o2 ⟨rfl, rfl, (Nat.le_of_ble_eq_true rfl), (Nat.le_of_ble_eq_true rfl)⟩ e2 ?_
  refine ax_st rfl ?_
  dsimp only
  refine ev_t rfl ?_
  exact e3
theorem lw_10 {k : Nat} {h : ax_H} (L : LI (.inl (9, n, .inl f)) N S h) (hn : n ≤ 2048) (hk : k + 1 < n) (K : ∀ h1, LI (.inl (9, n, .inl f)) N S h1 → LW 296 k h1 N S) : LW 194 k h N S := by
  obtain ⟨v, h1, h2, fs1, fs2, e1, e2, o1, o2, L2, c2⟩ := op_receive (x := f (k + 1)) L
  obtain ⟨h', e3, q⟩ := K h2 L2
  refine ⟨h', ?_, q⟩
  have c1 := L.2.2.1
  (repeat (first | refine ax_st rfl ?_ | (apply ev_get rfl; assumption; rfl))); try dsimp only
  rw [show nI k + 1 = nI (k + 1) from nI_add k 1]
  refine ev_sld rfl c1 (by omega) hn ?_
  skip
  refine ev_callV rfl o1 ⟨rfl, rfl, (Nat.le_of_ble_eq_true rfl), (Nat.le_of_ble_eq_true rfl)⟩ e1 ?_
  (repeat (first | refine ax_st rfl ?_ | (apply ev_get rfl; assumption; rfl))); try dsimp only
  rw [show nI k + 1 = nI (k + 1) from nI_add k 1]
  refine ev_sld rfl c2 (by omega) hn ?_
  skip
  refine ev_callV rfl o2 ⟨rfl, rfl, (Nat.le_of_ble_eq_true rfl), (Nat.le_of_ble_eq_true rfl)⟩ e2 ?_
  refine ax_st rfl ?_
  dsimp only
  refine ev_t rfl ?_
  exact e3
theorem lw_11 {k : Nat} {h : ax_H} (L : LI (.inl (9, n, .inl f)) N S h) (hn : n ≤ 2048) (hk : k + 2 < n) (K : ∀ h1, LI (.inl (9, n, .inl f)) N S h1 → LW 296 k h1 N S) : LW 211 k h N S := by
  obtain ⟨v, h1, h2, fs1, fs2, e1, e2, o1, o2, L2, c2⟩ := op_on (x := f (k + 1)) (y := f (k + 2)) L
  obtain ⟨h', e3, q⟩ := K h2 L2
  refine ⟨h', ?_, q⟩
  have c1 := L.2.2.1
  (repeat (first | refine ax_st rfl ?_ | (apply ev_get rfl; assumption; rfl))); try dsimp only
  rw [show nI k + 1 = nI (k + 1) from nI_add k 1]
  refine ev_sld rfl c1 (by omega) hn ?_
  (repeat (first | refine ax_st rfl ?_ | (apply ev_get rfl; assumption; rfl))); try dsimp only
  rw [show nI k + 2 = nI (k + 2) from nI_add k 2]
  refine ev_sld rfl c1 (by omega) hn ?_
  skip
  refine ev_callV rfl o1 ⟨rfl, rfl, (Nat.le_of_ble_eq_true rfl), (Nat.le_of_ble_eq_true rfl)⟩ e1 ?_
  (repeat (first | refine ax_st rfl ?_ | (apply ev_get rfl; assumption; rfl))); try dsimp only
  rw [show nI k + 1 = nI (k + 1) from nI_add k 1]
  refine ev_sld rfl c2 (by omega) hn ?_
  (repeat (first | refine ax_st rfl ?_ | (apply ev_get rfl; assumption; rfl))); try dsimp only
  rw [show nI k + 2 = nI (k + 2) from nI_add k 2]
  refine ev_sld rfl c2 (by omega) hn ?_
  skip
  refine ev_callV rfl o2 ⟨rfl, rfl, (Nat.le_of_ble_eq_true rfl), (Nat.le_of_ble_eq_true rfl)⟩ e2 ?_
  refine ax_st rfl ?_
  dsimp only
  refine ev_t rfl ?_
  exact e3
theorem lw_12 {k : Nat} {h : ax_H} (L : LI (.inl (9, n, .inl f)) N S h) (hn : n ≤ 2048) (hk : k + 3 < n) (K : ∀ h1, LI (.inl (9, n, .inl f)) N S h1 → LW 296 k h1 N S) : LW 238 k h N S := by
  obtain ⟨v, h1, h2, fs1, fs2, e1, e2, o1, o2, L2, c2⟩ := op_lab (x := f (k + 1)) (y := f (k + 2)) (k := f (k + 3)) L
  obtain ⟨h', e3, q⟩ := K h2 L2
  refine ⟨h', ?_, q⟩
  have c1 := L.2.2.1
  (repeat (first | refine ax_st rfl ?_ | (apply ev_get rfl; assumption; rfl))); try dsimp only
  rw [show nI k + 1 = nI (k + 1) from nI_add k 1]
  refine ev_sld rfl c1 (by omega) hn ?_
  (repeat (first | refine ax_st rfl ?_ | (apply ev_get rfl; assumption; rfl))); try dsimp only
  rw [show nI k + 2 = nI (k + 2) from nI_add k 2]
  refine ev_sld rfl c1 (by omega) hn ?_
  (repeat (first | refine ax_st rfl ?_ | (apply ev_get rfl; assumption; rfl))); try dsimp only
  rw [show nI k + 3 = nI (k + 3) from nI_add k 3]
  refine ev_sld rfl c1 (by omega) hn ?_
  skip
  refine ev_callV rfl o1 ⟨rfl, rfl, (Nat.le_of_ble_eq_true rfl), (Nat.le_of_ble_eq_true rfl)⟩ e1 ?_
  (repeat (first | refine ax_st rfl ?_ | (apply ev_get rfl; assumption; rfl))); try dsimp only
  rw [show nI k + 1 = nI (k + 1) from nI_add k 1]
  refine ev_sld rfl c2 (by omega) hn ?_
  (repeat (first | refine ax_st rfl ?_ | (apply ev_get rfl; assumption; rfl))); try dsimp only
  rw [show nI k + 2 = nI (k + 2) from nI_add k 2]
  refine ev_sld rfl c2 (by omega) hn ?_
  (repeat (first | refine ax_st rfl ?_ | (apply ev_get rfl; assumption; rfl))); try dsimp only
  rw [show nI k + 3 = nI (k + 3) from nI_add k 3]
  refine ev_sld rfl c2 (by omega) hn ?_
  skip
  refine ev_callV rfl o2 ⟨rfl, rfl, (Nat.le_of_ble_eq_true rfl), (Nat.le_of_ble_eq_true rfl)⟩ e2 ?_
  refine ax_st rfl ?_
  dsimp only
  refine ev_t rfl ?_
  exact e3
theorem lw_13 {k : Nat} {h : ax_H} (L : LI (.inl (9, n, .inl f)) N S h) (hn : n ≤ 2048) (hk : k + 1 < n) (K : ∀ h1, LI (.inl (9, n, .inl f)) N S h1 → LW 296 k h1 N S) : LW 275 k h N S := by
  obtain ⟨v, h1, h2, fs1, fs2, e1, e2, o1, o2, L2, c2⟩ := op_moves L
  obtain ⟨h', e3, q⟩ := K h2 L2
  refine ⟨h', ?_, q⟩
  have c1 := L.2.2.1
  (repeat (first | refine ax_st rfl ?_ | (apply ev_get rfl; assumption; rfl))); try dsimp only
  refine ev_callV rfl o1 ⟨rfl, rfl, (Nat.le_of_ble_eq_true rfl), (Nat.le_of_ble_eq_true rfl)⟩ e1 ?_
  (repeat (first | refine ax_st rfl ?_ | (apply ev_get rfl; assumption; rfl))); try dsimp only
  refine ev_callV rfl o2 ⟨rfl, rfl, (Nat.le_of_ble_eq_true rfl), (Nat.le_of_ble_eq_true rfl)⟩ e2 ?_
  refine ax_st rfl ?_
  dsimp only
  refine ev_t rfl ?_
  exact e3
theorem lw_14 {k : Nat} {h : ax_H} (L : LI (.inl (9, n, .inl f)) N S h) (hn : n ≤ 2048) (hk : k + 1 < n) (K : ∀ h1, LI (.inl (9, n, .inl f)) N S h1 → LW 296 k h1 N S) : LW 282 k h N S := by
  obtain ⟨v, h1, h2, fs1, fs2, e1, e2, o1, o2, L2, c2⟩ := op_ready L
  obtain ⟨h', e3, q⟩ := K h2 L2
  refine ⟨h', ?_, q⟩
  have c1 := L.2.2.1
  (repeat (first | refine ax_st rfl ?_ | (apply ev_get rfl; assumption; rfl))); try dsimp only
  refine ev_callV rfl o1 ⟨rfl, rfl, (Nat.le_of_ble_eq_true rfl), (Nat.le_of_ble_eq_true rfl)⟩ e1 ?_
  (repeat (first | refine ax_st rfl ?_ | (apply ev_get rfl; assumption; rfl))); try dsimp only
  refine ev_callV rfl o2 ⟨rfl, rfl, (Nat.le_of_ble_eq_true rfl), (Nat.le_of_ble_eq_true rfl)⟩ e2 ?_
  refine ax_st rfl ?_
  dsimp only
  refine ev_t rfl ?_
  exact e3
theorem lw_15 {k : Nat} {h : ax_H} (L : LI (.inl (9, n, .inl f)) N S h) (hn : n ≤ 2048) (hk : k + 1 < n) (K : ∀ h1, LI (.inl (9, n, .inl f)) N S h1 → LW 296 k h1 N S) : LW 289 k h N S := by
  obtain ⟨v, h1, h2, fs1, fs2, e1, e2, o1, o2, L2, c2⟩ := op_over L
  obtain ⟨h', e3, q⟩ := K h2 L2
  refine ⟨h', ?_, q⟩
  have c1 := L.2.2.1
  (repeat (first | refine ax_st rfl ?_ | (apply ev_get rfl; assumption; rfl))); try dsimp only
  refine ev_callV rfl o1 ⟨rfl, rfl, (Nat.le_of_ble_eq_true rfl), (Nat.le_of_ble_eq_true rfl)⟩ e1 ?_
  (repeat (first | refine ax_st rfl ?_ | (apply ev_get rfl; assumption; rfl))); try dsimp only
  refine ev_callV rfl o2 ⟨rfl, rfl, (Nat.le_of_ble_eq_true rfl), (Nat.le_of_ble_eq_true rfl)⟩ e2 ?_
  refine ax_st rfl ?_
  dsimp only
  refine ev_t rfl ?_
  exact e3
theorem lw_end {k : Nat} {h : ax_H} (L : LI (.inl (9, n, .inl f)) N S h) (e : ∀ {h'}, Ev 1000 115 298 [some (.inr (some 0)), some (.inr (some 1)), some (.inr (some 59)), some (.inl (nI k))] [] h (some (.inl 1)) h' → Ev 1000 115 10 [some (.inr (some 0)), some (.inr (some 1)), some (.inr (some 59)), some (.inl (nI k))] [] h (some (.inl 1)) h') : LW 10 k h N S := by
  refine ⟨h, e ?_, L.1, L.2.1⟩
  (repeat (first | refine ax_st rfl ?_ | (apply ev_get rfl; assumption; rfl))); try dsimp only
  exact ax_rt rfl
theorem lw_low {n k : Nat} (hn : n < 4) (hk : k < 2 ^ 30) : nI n - 4 < nI k := by
  rw [Int32.lt_iff_toInt_lt, nI_toInt (by omega)]
  have : n = 0 ∨ n = 1 ∨ n = 2 ∨ n = 3 := by omega
  rcases this with rfl | rfl | rfl | rfl
  · rw [show (nI 0 - 4 : Int32).toInt = -4 from rfl]; omega
  · rw [show (nI 1 - 4 : Int32).toInt = -3 from rfl]; omega
  · rw [show (nI 2 - 4 : Int32).toInt = -2 from rfl]; omega
  · rw [show (nI 3 - 4 : Int32).toInt = -1 from rfl]; omega
theorem lw_loop (hn : n ≤ 2048) : ∀ (g k : Nat) (h : ax_H), n ≤ k + g → k ≤ 4096 → LI (.inl (9, n, .inl f)) N S h → LW 10 k h N S := by
  intro g
  induction g with
  | zero =>
    intro k h hg hk L
    refine lw_end L (fun {h'} e => ?_)
    have c1 := L.2.2.1
    (repeat (first | refine ax_st rfl ?_ | (apply ev_get rfl; assumption; rfl))); try dsimp only
    refine ev_slen rfl c1 ?_
    (repeat (first | refine ax_st rfl ?_ | (apply ev_get rfl; assumption; rfl))); try dsimp only
    refine ev_t ?_ ?_
    · by_cases h4 : n < 4
      · exact lw_low h4 (by omega)
      · rw [show nI n - 4 = nI (n - 4) from pk_sub (a := n) (b := 4) (by omega)]
        exact (nI_ltI (by omega) (by omega)).mpr (by omega)
    · exact e
  | succ g ih =>
    intro k h hg hk L
    have c1 := L.2.2.1
    by_cases hx : k + 4 ≤ n
    · have NX : ∀ h1, LI (.inl (9, n, .inl f)) N S h1 → LW 296 k h1 N S := fun h1 L1 => lw_n (ih (k + 4) h1 (by omega) (by omega) L1)
      have pre : ∀ {v pl : Nat}, (f k).toBitVec.toNat % 2 ^ 4 = v → ax_sel (nI v) [(0, 22), (1, 41), (2, 48), (3, 55), (4, 72), (5, 99), (6, 106), (7, 123), (8, 140), (9, 167), (10, 194), (11, 211), (12, 238), (13, 275), (14, 282), (15, 289)] 296 = pl → LW pl k h N S → LW 10 k h N S := by
        intro v pl hv hs K
        obtain ⟨h', e, q⟩ := K
        refine ⟨h', ?_, q⟩
        (repeat (first | refine ax_st rfl ?_ | (apply ev_get rfl; assumption; rfl))); try dsimp only
        refine ev_slen rfl c1 ?_
        (repeat (first | refine ax_st rfl ?_ | (apply ev_get rfl; assumption; rfl))); try dsimp only
        rw [show nI n - 4 = nI (n - 4) from pk_sub (a := n) (b := 4) (by omega)]
        refine ev_f (fun z => absurd ((nI_ltI (by omega) (by omega)).mp z) (by omega)) ?_
        (repeat (first | refine ax_st rfl ?_ | (apply ev_get rfl; assumption; rfl))); try dsimp only
        refine ev_sld rfl c1 (by omega) hn ?_
        refine ax_st rfl ?_
        refine ax_st rfl ?_
        dsimp only
        rw [pk_and (f k) 4 (m := 15) (by decide), hv]
        refine ax_st (i1 := pl) (L1 := [some (.inr (some 0)), some (.inr (some 1)), some (.inr (some 59)), some (.inl (nI k))]) (st1 := []) (h1 := h) ?_ e
        rw [← hs]
        rfl
      have hv : (f k).toBitVec.toNat % 2 ^ 4 < 16 := Nat.mod_lt _ (by decide)
      generalize hvv : (f k).toBitVec.toNat % 2 ^ 4 = v at hv pre
      match v, hv with
      | 0, _ => exact pre rfl (pl := 22) rfl (lw_0 L hn (by omega) NX)
      | 1, _ => exact pre rfl (pl := 41) rfl (lw_1 L hn (by omega) NX)
      | 2, _ => exact pre rfl (pl := 48) rfl (lw_2 L hn (by omega) NX)
      | 3, _ => exact pre rfl (pl := 55) rfl (lw_3 L hn (by omega) NX)
      | 4, _ => exact pre rfl (pl := 72) rfl (lw_4 L hn (by omega) NX)
      | 5, _ => exact pre rfl (pl := 99) rfl (lw_5 L hn (by omega) NX)
      | 6, _ => exact pre rfl (pl := 106) rfl (lw_6 L hn (by omega) NX)
      | 7, _ => exact pre rfl (pl := 123) rfl (lw_7 L hn (by omega) NX)
      | 8, _ => exact pre rfl (pl := 140) rfl (lw_8 L hn (by omega) NX)
      | 9, _ => exact pre rfl (pl := 167) rfl (lw_9 L hn (by omega) NX)
      | 10, _ => exact pre rfl (pl := 194) rfl (lw_10 L hn (by omega) NX)
      | 11, _ => exact pre rfl (pl := 211) rfl (lw_11 L hn (by omega) NX)
      | 12, _ => exact pre rfl (pl := 238) rfl (lw_12 L hn (by omega) NX)
      | 13, _ => exact pre rfl (pl := 275) rfl (lw_13 L hn (by omega) NX)
      | 14, _ => exact pre rfl (pl := 282) rfl (lw_14 L hn (by omega) NX)
      | 15, _ => exact pre rfl (pl := 289) rfl (lw_15 L hn (by omega) NX)
      | v + 16, hv => omega
    · refine lw_end L (fun {h'} e => ?_)
      (repeat (first | refine ax_st rfl ?_ | (apply ev_get rfl; assumption; rfl))); try dsimp only
      refine ev_slen rfl c1 ?_
      (repeat (first | refine ax_st rfl ?_ | (apply ev_get rfl; assumption; rfl))); try dsimp only
      refine ev_t ?_ ?_
      · by_cases h4 : n < 4
        · exact lw_low h4 (by omega)
        · rw [show nI n - 4 = nI (n - 4) from pk_sub (a := n) (b := 4) (by omega)]
          exact (nI_ltI (by omega) (by omega)).mpr (by omega)
      · exact e
end LAW
/-- the class's cells stay where others come -/
theorem RC.grow {h h' : ax_H} {tp : List Nat} {mc mv : Int32} {P : Nat → Option Tr} {run : Bool} {pc : Nat → Nat} {rws : Nat → List Int32} (R : RC h tp mc P run pc rws mv) (h1 : h.1 ≤ h'.1) (h2 : ∀ q, q < 59 → h'.2.2 q = h.2.2 q) : RC h' tp mc P run pc rws mv := by
  have ob' : ∀ {o ci : Nat} {fs : List ax_V}, o < 59 → ob h o ci fs → ob h' o ci fs := fun ho a => ⟨by rw [h2 _ ho]; exact a.1, a.2.1, by have := a.2.2; omega⟩
  have ar' : ∀ {o t n : Nat} {g : Nat → Int32}, o < 59 → ar h o t n g → ar h' o t n g := fun ho a => ⟨by rw [h2 _ ho]; exact a.1, a.2.1, by have := a.2.2; omega⟩
  have aq' : ∀ {o t n : Nat} {g : Nat → Option Nat}, o < 59 → aq h o t n g → aq h' o t n g := fun ho a => ⟨by rw [h2 _ ho]; exact a.1, a.2.1, by have := a.2.2; omega⟩
  have tx' : ∀ {o k : Nat} {t : List Nat}, o < 59 → k < 59 → tx h o k t → tx h' o k t := fun ho hk a => by
    obtain ⟨g, x1, x2, x3⟩ := a
    exact ⟨g, ob' ho x1, ar' hk x2, x3⟩
  obtain ⟨a, ⟨⟨f8, a1, a1'⟩, ⟨f9, a2, a2'⟩, ⟨f10, a3, a3'⟩⟩, ⟨⟨u, v, g1⟩, n, lo, ff, gg, g2, g3, g4⟩, T, RRs, W⟩ := R
  refine ⟨ob' (by decide) a, ⟨⟨f8, aq' (by decide) a1, a1'⟩, ⟨f9, aq' (by decide) a2, a2'⟩, ⟨f10, aq' (by decide) a3, a3'⟩⟩, ⟨⟨u, v, ob' (by decide) g1⟩, n, lo, ff, gg, ob' (by decide) g2, ar' (by decide) g3, ar' (by decide) g4⟩, tx' (by decide) (by decide) T, fun r hr => ?_, fun k hk => ?_⟩
  · obtain ⟨⟨b, q1, q2⟩, q3, q, q4⟩ := RRs r hr
    exact ⟨⟨b, tx' (by omega) (by omega) q1, q2⟩, ob' (by omega) q3, q, ob' (by omega) q4⟩
  · obtain ⟨g, x1, x2, x3⟩ := W k hk
    exact ⟨g, ob' (by omega) x1, ar' (by omega) x2, x3⟩
/-- the whole run of the small machine -/
theorem law_run (n : Nat) (f : Nat → Int32) (hn : n ≤ 2048) : ∃ hF, Ev 1000 115 0 (ax_ent 4 [.inr (some 0)]) [] (ax_h0 n f) (some (.inl 1)) hF ∧ hF.1 ≤ 600000 ∧ hF.2.1 ≤ 7302250 := by
  have n0 : (ax_h0 n f).1 = 1 := rfl
  have p1 : ob (ax_push (ax_h0 n f) 9 (.inr (6, [.inr none, .inr none, .inr none, .inr none, .inr none, .inr none, .inl 0, .inl 0, .inl 0]))) 1 6 [.inr none, .inr none, .inr none, .inr none, .inr none, .inr none, .inl 0, .inl 0, .inl 0] := ob_pu (h := ax_h0 n f) Nat.one_pos
  have c1 : (ax_push (ax_h0 n f) 9 (.inr (6, [.inr none, .inr none, .inr none, .inr none, .inr none, .inr none, .inl 0, .inl 0, .inl 0]))).2.2 0 = .inl (9, n, .inl f) := (fg.pu (h := ax_h0 n f) (A := fun _ => False)).2.2 0 Nat.one_pos (fun z => z)
  have s1 : (ax_push (ax_h0 n f) 9 (.inr (6, [.inr none, .inr none, .inr none, .inr none, .inr none, .inr none, .inl 0, .inl 0, .inl 0]))).2.1 = 9 := rfl
  have m1 : (ax_push (ax_h0 n f) 9 (.inr (6, [.inr none, .inr none, .inr none, .inr none, .inr none, .inr none, .inl 0, .inl 0, .inl 0]))).1 = 2 := rfl
  obtain ⟨h2, e2, R2, n2, s2, c2⟩ := k_parts (d := 997) m1 p1
  rw [c1] at c2
  rw [s1] at s2
  have p3 : ob (ax_push h2 19 (.inr (7, [.inl 0, .inr none, .inl 0, .inr none, .inr none, .inr none, .inr none, .inr none, .inr none, .inr none, .inl 0, .inl 0, .inr none, .inr none, .inl 0, .inr none, .inr none, .inr none, .inl 0]))) h2.1 7 [.inl 0, .inr none, .inl 0, .inr none, .inr none, .inr none, .inr none, .inr none, .inr none, .inr none, .inl 0, .inl 0, .inr none, .inr none, .inl 0, .inr none, .inr none, .inr none, .inl 0] := ob_pu (by omega)
  have f3 := fg.pu (h := h2) (n := 19) (c := .inr (7, [.inl 0, .inr none, .inl 0, .inr none, .inr none, .inr none, .inr none, .inr none, .inr none, .inr none, .inl 0, .inl 0, .inr none, .inr none, .inl 0, .inr none, .inr none, .inr none, .inl 0])) (A := fun _ => False)
  rw [n2] at p3
  generalize hh3 : ax_push h2 19 (.inr (7, [.inl 0, .inr none, .inl 0, .inr none, .inr none, .inr none, .inr none, .inr none, .inr none, .inr none, .inl 0, .inl 0, .inr none, .inr none, .inl 0, .inr none, .inr none, .inr none, .inl 0])) = h3 at p3 f3
  have n3 : h3.1 = 60 := by rw [f3.1, n2]
  obtain ⟨h4, e4, M4, n4, s4, k4⟩ := k_model (d := 998) n3 p3
  -- the class's cells, behind the second constructor
  have F4 : ∀ q, q < 59 → h4.2.2 q = h2.2.2 q := fun q hq => (k4 q hq).trans (f3.2.2 q (by omega) (fun z => z))
  have R4 : RC h4 [] (-1) (fun _ => none) false (fun _ => 0) (fun _ => []) 0 := R2.grow (by omega) F4
  have L4 : LI (.inl (9, n, .inl f)) 73 (h4.2.1) h4 := ⟨n4, rfl, (F4 0 (by decide)).trans c2, [], -1, _, false, _, _, 0, R4, M4, (fun r _ l z => by cases z), (fun r _ => show 0 < 2 ^ 20 by decide), (fun z => by cases z)⟩
  obtain ⟨h', e5, q1, q2⟩ := lw_loop hn n 0 h4 (by omega) (by decide) L4
  refine ⟨h', ?_, by omega, by rw [q2, s4, f3.2.1, s2]; decide⟩
  have e5' : Ev 1000 115 10 [some (.inr (some 0)), some (.inr (some 1)), some (.inr (some 59)), some (.inl (nI 0))] [] h4 (some (.inl 1)) h' := e5
  refine ax_st (h1 := ax_push (ax_h0 n f) 9 (.inr (6, [.inr none, .inr none, .inr none, .inr none, .inr none, .inr none, .inl 0, .inl 0, .inl 0]))) (i1 := 1) (L1 := ax_ent 4 [.inr (some 0)]) (st1 := [.inr (some 1)]) rfl ?_
  refine ax_st rfl ?_
  refine ev_callI rfl ⟨rfl, rfl, (Nat.le_of_ble_eq_true rfl), (Nat.le_of_ble_eq_true rfl)⟩ e2 ?_
  refine ax_st rfl ?_
  refine ax_st (h1 := ax_push h2 19 (.inr (7, [.inl 0, .inr none, .inl 0, .inr none, .inr none, .inr none, .inr none, .inr none, .inr none, .inr none, .inl 0, .inl 0, .inr none, .inr none, .inl 0, .inr none, .inr none, .inr none, .inl 0]))) (i1 := 5) (L1 := [some (.inr (some 0)), some (.inr (some 1)), none, none]) (st1 := [.inr (some h2.1)]) rfl ?_
  rw [hh3, n2]
  refine ax_st rfl ?_
  refine ev_callI rfl ⟨rfl, rfl, (Nat.le_of_ble_eq_true rfl), (Nat.le_of_ble_eq_true rfl)⟩ e4 ?_
  repeat (first | (exact e5') | refine ax_st rfl ?_ | (apply ev_get rfl; assumption; rfl))
theorem whole_start {p : Program} {e : Env} {s : State} {m : MethodId} {below : List Frame} {meth : Method} {c : Code} (l : Launch) {b L : Nat} {xs : Nat → Int32} (hL : L ≤ 2048) (C0 : lw_At p s m meth c b L xs) : W p l e room_1 s m #[Value.ref b] below meth c s.heap [] 0 0 (lw_Z below #[Value.ref b] s) (entryFrame m ([Value.ref b] : List Value).toArray 4) := by
  obtain ⟨hF, e1, q1, q2⟩ := law_run L xs hL
  exact ax_whole l C0 e1 q1 q2
