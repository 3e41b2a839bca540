/-! The reference: a message's part. -/
def oI (o : Option (Nat × List Nat)) : Int32 := match o with
  | none => -1
  | some (s, _) => nI s
def osm (o : Option (Nat × List Nat)) (T : List Nat) : Bool := match o with
  | none => true
  | some (_, T0) => decide (T0 = T)
def MG (d i k r : Nat) (sn tk : Bool) (one : Int32) (ex : Bool) (q : Nat) (h : ax_H) (Φ : ax_H → Prop) : Prop := ∀ w9, ∃ h', Ev (d + 2) 92 i [some (.inr (some 59)), some (.inl (nI k)), some (.inl (nI r)), some (.inl (nI (4 * k + r))), some (.inl (bi sn)), some (.inl (bi tk)), some (.inl one), some (.inl (bi ex)), some (.inl (nI q)), w9] [] h none h' ∧ Φ h' ∧ fr h h' (fun q => 59 ≤ q)
/-- the slots of the branches -/
def SLs (F : Nat → Nat → Int32) (r : Nat) : Tr → Nat → Prop
  | .mulL _ g, m => SL F (4 * m + r) ((lt (65 + r) g 0).map (fun l => rn l false))
  | .add a b, m => SLs F r a m ∧ SLs F r b (m + sz a true)
  | _, _ => True
theorem SLs.c {F F' : Nat → Nat → Int32} {r : Nat} {S : Nat → Prop} (k : kS F F' S) : ∀ (t : Tr) (m : Nat), (∀ s, 4 * m ≤ s → ¬ S s) → SLs F r t m → SLs F' r t m
  | .num _, _, _, _ => trivial
  | .var _, _, _, _ => trivial
  | .mulL _ g, m, hs, a => SL.c a k (hs _ (by omega))
  | .mulR _ _, _, _, _ => trivial
  | .add a b, m, hs, z => ⟨SLs.c k a m hs z.1, SLs.c k b _ (fun s h => hs s (by omega)) z.2⟩
section MPT
variable {d : Nat} {n0 ms mv : Int32} {th ru : Bool} {k r N : Nat} {sn tk : Bool} {Φ : ax_H → Prop}
theorem mg_skip {h : ax_H} {F : Nat → Nat → Int32} {one : Int32} (hN : N ≤ 60) (m : mo h n0 (nI N) th ms ru mv) (A : MA h F) : ∀ g q, q + g ≤ N → (∀ i, q ≤ i → i < q + g → F 64 i ≠ nI k) → MG d 64 k r sn tk one true (q + g) h Φ → MG d 64 k r sn tk one true q h Φ := by
  intro g
  induction g with
  | zero => intro q _ _ K; exact K
  | succ g ih =>
    intro q hq hne K w9
    obtain ⟨h', e, f⟩ := ih (q + 1) (by omega) (fun i h1 h2 => hne i (by omega) (by omega)) (by rw [show q + 1 + g = q + (g + 1) by omega]; exact K) w9
    refine ⟨h', ?_, f⟩
    rw [← nI_1 q] at e
    have h64 := A.a64
    unfold mo at m
    (repeat (first | refine ax_st rfl ?_ | (apply ev_get rfl; assumption; rfl))); try dsimp only
    refine ev_f (fun z => absurd ((nI_leI (by omega) (by omega)).mp z) (by omega)) ?_
    (repeat (first | refine ax_st rfl ?_ | (apply ev_get rfl; assumption; rfl))); try dsimp only
    refine ev_ald rfl h64 ?_ ?_; exact in_nI (by omega) (by decide)
    rw [nI_clamp (by omega)]
    (repeat (first | refine ax_st rfl ?_ | (apply ev_get rfl; assumption; rfl))); try dsimp only
    refine ev_f (hne q (Nat.le_refl _) (by omega)) ?_
    repeat (first | (exact e) | refine ax_st rfl ?_ | (apply ev_get rfl; assumption; rfl))
theorem mg_ex0 {h : ax_H} {one : Int32} {q : Nat} (m : mo h n0 (nI N) th ms ru mv) (K : MG d 132 k r sn tk one false q h Φ) : MG d 64 k r sn tk one false q h Φ := by
  intro w9
  obtain ⟨h', e, f⟩ := K w9
  refine ⟨h', ?_, f⟩
  unfold mo at m
  (repeat (first | refine ax_st rfl ?_ | (apply ev_get rfl; assumption; rfl))); try dsimp only
  refine ev_if (fun c1 => ?_) (fun c1 => ?_)
  · exact e
  · repeat (first | (exact e) | refine ax_st rfl ?_ | (apply ev_get rfl; assumption; rfl))
theorem mg_exN {h : ax_H} {one : Int32} (hN : N ≤ 60) (m : mo h n0 (nI N) th ms ru mv) (K : MG d 132 k r sn tk one true N h Φ) : MG d 64 k r sn tk one true N h Φ := by
  intro w9
  obtain ⟨h', e, f⟩ := K w9
  refine ⟨h', ?_, f⟩
  unfold mo at m
  (repeat (first | refine ax_st rfl ?_ | (apply ev_get rfl; assumption; rfl))); try dsimp only
  refine ev_t ((nI_leI (by omega) (by omega)).mpr (Nat.le_refl _)) ?_
  exact e
/-- a branch: up to its slot's length -/
theorem mg_pre {h : ax_H} {F : Nat → Nat → Int32} {one : Int32} {q : Nat} (hN : N ≤ 60) (hq : q < N) (hr : r < 4) (m : mo h n0 (nI N) th ms ru mv) (A : MA h F) (h64k : F 64 q = nI k) {h' : ax_H} {w9 : Option ax_V} (K : Ev (d + 2) 92 87 [some (.inr (some 59)), some (.inl (nI k)), some (.inl (nI r)), some (.inl (nI (4 * k + r))), some (.inl (bi sn)), some (.inl (bi tk)), some (.inl one), some (.inl (bi true)), some (.inl (nI q)), some (.inl (nI (4 * q + r)))] [.inl (F 67 (4 * q + r))] h none h') : Ev (d + 2) 92 64 [some (.inr (some 59)), some (.inl (nI k)), some (.inl (nI r)), some (.inl (nI (4 * k + r))), some (.inl (bi sn)), some (.inl (bi tk)), some (.inl one), some (.inl (bi true)), some (.inl (nI q)), w9] [] h none h' := by
  have h64 := A.a64
  have h67 := A.a67
  unfold mo at m
  (repeat (first | refine ax_st rfl ?_ | (apply ev_get rfl; assumption; rfl))); try dsimp only
  refine ev_f (fun z => absurd ((nI_leI (by omega) (by omega)).mp z) (by omega)) ?_
  (repeat (first | refine ax_st rfl ?_ | (apply ev_get rfl; assumption; rfl))); try dsimp only
  refine ev_ald rfl h64 ?_ ?_; exact in_nI (by omega) (by decide)
  rw [nI_clamp (by omega), h64k]
  (repeat (first | refine ax_st rfl ?_ | (apply ev_get rfl; assumption; rfl))); try dsimp only
  refine ev_t rfl ?_
  (repeat (first | refine ax_st rfl ?_ | (apply ev_get rfl; assumption; rfl))); try dsimp only
  rw [show (4 : Int32) * nI q = nI (4 * q) from pk_mul 4 q, nI_add]
  refine ev_ald rfl h67 ?_ ?_; exact in_nI (by omega) (by decide)
  rw [nI_clamp (by omega)]
  exact K
theorem mg_cN {h : ax_H} {F : Nat → Nat → Int32} {one : Int32} {q : Nat} (hN : N ≤ 60) (hq : q < N) (hr : r < 4) (m : mo h n0 (nI N) th ms ru mv) (A : MA h F) (h64k : F 64 q = nI k) (S : SL F (4 * q + r) none) (K : MG d 64 k r sn tk (nI (4 * q + r)) false (q + 1) h Φ) : MG d 64 k r sn tk one true q h Φ := by
  intro w9
  obtain ⟨h', e, f⟩ := K (some (.inl (nI (4 * q + r))))
  refine ⟨h', mg_pre hN hq hr m A h64k ?_, f⟩
  rw [show F 67 (4 * q + r) = -1 from S]
  rw [← nI_1 q] at e
  cases tk with
  | true =>
    repeat (first | (exact e) | refine ax_st rfl ?_ | (apply ev_get rfl; assumption; rfl))
  | false =>
    repeat (first | (exact e) | refine ax_st rfl ?_ | (apply ev_get rfl; assumption; rfl))
theorem mg_cT {h : ax_H} {F : Nat → Nat → Int32} {o : Option (Nat × List Nat)} {q x : Nat} {T S : List Nat} (ho : ∀ s T, o = some (s, T) → s < 240) (hN : N ≤ 60) (hq : q < N) (hkq : k < q) (hr : r < 4) (hx : x < 65536) (m : mo h n0 (nI N) th ms ru mv) (A : MA h F) (h64k : F 64 q = nI k) (h65x : F 65 q = nI x) (ST : SL F (4 * q + r) (some T)) (SS : SL F (4 * k + r) (some S)) (hl : S.length + 3 + T.length ≤ 60) (K : ∀ h1 F1, mo h1 n0 (nI N) th ms ru mv → MA h1 F1 → SL F1 (4 * k + r) (some (S ++ (if o = none then 123 else 44) :: x :: 46 :: T)) → kS F F1 (fun q => q = 4 * k + r) → MG d 64 k r sn true (nI (4 * q + r)) true (q + 1) h1 Φ) : MG d 64 k r sn true (oI o) true q h Φ := by
  have hsep : (if o = none then 123 else 44) < 65536 := by split <;> decide
  obtain ⟨ha, Fa, ea, ma, Aa, Sa, Ka, fa⟩ := m_put (d := d + 1) (c := if o = none then 123 else 44) (show 4 * k + r < 240 by omega) hsep (by omega) m A SS
  obtain ⟨hb, Fb, eb, mb, Ab, Sb, Kb, fb⟩ := m_put (d := d + 1) (c := x) (show 4 * k + r < 240 by omega) hx (by simp; omega) ma Aa Sa
  obtain ⟨hc, Fc, ec, mc, Ac, Sc, Kc, fc⟩ := m_put (d := d + 1) (c := 46) (show 4 * k + r < 240 by omega) (by decide) (by simp; omega) mb Ab Sb
  have KK := (Ka.tr Kb).tr Kc
  obtain ⟨he, Fe, ee, me, Ae, Se, Ke, fe⟩ := m_copy (d := d) (show 4 * q + r < 240 by omega) (show 4 * k + r < 240 by omega) (by omega) (by simp; omega) mc Ac (ST.c KK (by omega)) Sc
  have hlist : S ++ [if o = none then 123 else 44] ++ [x] ++ [46] ++ T = S ++ (if o = none then 123 else 44) :: x :: 46 :: T := by simp
  rw [hlist] at Se
  intro w9
  obtain ⟨h', e, f⟩ := K he Fe me Ae Se (KK.tr Ke) (some (.inl (nI (4 * q + r))))
  refine ⟨h', mg_pre hN hq hr m A h64k ?_, f.1, (((fa.tr fb).tr fc).tr fe).tr f.2⟩
  rw [ST.1]
  have t2 := ST.2.1
  rw [← nI_1 q] at e
  have h65a := Aa.a65
  have h65xa : Fa 65 q = nI x := by rw [Ka.1 65 (by decide) (by decide)]; exact h65x
  unfold mo at m ma mb mc
  refine ax_st rfl ?_
  dsimp only
  refine ev_f (nI_pos (by omega)) ?_
  (repeat (first | refine ax_st rfl ?_ | (apply ev_get rfl; assumption; rfl))); try dsimp only
  have tail : Ev (d + 2) 92 113 [some (.inr (some 59)), some (.inl (nI k)), some (.inl (nI r)), some (.inl (nI (4 * k + r))), some (.inl (bi sn)), some (.inl (bi true)), some (.inl (oI o)), some (.inl (bi true)), some (.inl (nI q)), some (.inl (nI (4 * q + r)))] [] ha none h' := by
    (repeat (first | refine ax_st rfl ?_ | (apply ev_get rfl; assumption; rfl))); try dsimp only
    refine ev_ald rfl h65a ?_ ?_; exact in_nI (by omega) (by decide)
    rw [nI_clamp (by omega), h65xa]
    refine ev_callU rfl ma ⟨rfl, rfl, Nat.le_of_ble_eq_true rfl, Nat.le_of_ble_eq_true rfl⟩ (eb) ?_
    (repeat (first | refine ax_st rfl ?_ | (apply ev_get rfl; assumption; rfl))); try dsimp only
    refine ev_callU rfl mb ⟨rfl, rfl, Nat.le_of_ble_eq_true rfl, Nat.le_of_ble_eq_true rfl⟩ (ec) ?_
    (repeat (first | refine ax_st rfl ?_ | (apply ev_get rfl; assumption; rfl))); try dsimp only
    refine ev_callU rfl mc ⟨rfl, rfl, Nat.le_of_ble_eq_true rfl, Nat.le_of_ble_eq_true rfl⟩ (ee) ?_
    repeat (first | (exact e) | refine ax_st rfl ?_ | (apply ev_get rfl; assumption; rfl))
  cases o with
  | none =>
    rw [if_pos rfl] at ea
    (repeat (first | refine ax_st rfl ?_ | (apply ev_get rfl; assumption; rfl))); try dsimp only
    refine ev_callU rfl m ⟨rfl, rfl, Nat.le_of_ble_eq_true rfl, Nat.le_of_ble_eq_true rfl⟩ (ea) ?_
    repeat (first | (exact tail) | refine ax_st rfl ?_ | (apply ev_get rfl; assumption; rfl))
  | some so =>
    obtain ⟨s, T'⟩ := so
    have hs := ho s T' rfl
    rw [if_neg (by simp)] at ea
    refine ev_t ((nI_leI (a := 0) (by decide) (by omega)).mpr (Nat.zero_le _)) ?_
    (repeat (first | refine ax_st rfl ?_ | (apply ev_get rfl; assumption; rfl))); try dsimp only
    refine ev_callU rfl m ⟨rfl, rfl, Nat.le_of_ble_eq_true rfl, Nat.le_of_ble_eq_true rfl⟩ (ea) ?_
    repeat (first | (exact tail) | refine ax_st rfl ?_ | (apply ev_get rfl; assumption; rfl))
theorem mg_c1 {h : ax_H} {F : Nat → Nat → Int32} {o : Option (Nat × List Nat)} {q : Nat} {T : List Nat} (hN : N ≤ 60) (hq : q < N) (hr : r < 4) (m : mo h n0 (nI N) th ms ru mv) (A : MA h F) (h64k : F 64 q = nI k) (ST : SL F (4 * q + r) (some T)) (ho : ∀ s T0, o = some (s, T0) → s < 240 ∧ SL F s (some T0)) (K : MG d 64 k r sn false (nI (4 * q + r)) (osm o T) (q + 1) h Φ) : MG d 64 k r sn false (oI o) true q h Φ := by
  intro w9
  obtain ⟨h', e, f⟩ := K (some (.inl (nI (4 * q + r))))
  refine ⟨h', mg_pre hN hq hr m A h64k ?_, f⟩
  rw [ST.1]
  have t2 := ST.2.1
  rw [← nI_1 q] at e
  have m0 := m
  unfold mo at m
  refine ax_st rfl ?_
  dsimp only
  refine ev_f (nI_pos (by omega)) ?_
  (repeat (first | refine ax_st rfl ?_ | (apply ev_get rfl; assumption; rfl))); try dsimp only
  cases o with
  | none =>
    rw [show osm none T = true from rfl] at e
    repeat (first | (exact e) | refine ax_st rfl ?_ | (apply ev_get rfl; assumption; rfl))
  | some so =>
    obtain ⟨s, T0⟩ := so
    obtain ⟨hs, S0⟩ := ho s T0 rfl
    refine ev_f (nI_pos (by omega)) ?_
    (repeat (first | refine ax_st rfl ?_ | (apply ev_get rfl; assumption; rfl))); try dsimp only
    refine ev_callV rfl m ⟨rfl, rfl, Nat.le_of_ble_eq_true rfl, Nat.le_of_ble_eq_true rfl⟩ (m_same hs (show 4 * q + r < 240 by omega) m0 A S0 ST) ?_
    by_cases hT : T0 = T
    · rw [show osm (some (s, T0)) T = true from decide_eq_true hT] at e
      rw [decide_eq_true hT]
      repeat (first | (exact e) | refine ax_st rfl ?_ | (apply ev_get rfl; assumption; rfl))
    · rw [show osm (some (s, T0)) T = false from decide_eq_false hT] at e
      rw [decide_eq_false hT]
      repeat (first | (exact e) | refine ax_st rfl ?_ | (apply ev_get rfl; assumption; rfl))
end MPT
