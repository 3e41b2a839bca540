/-! The reference: its parts, slot by slot. -/
def SL (F : Nat → Nat → Int32) (s : Nat) (Q : Option (List Nat)) : Prop := match Q with
  | some T => F 67 s = nI T.length ∧ T.length ≤ 60 ∧ (∀ x ∈ T, x < 65536) ∧ ∀ i, i < T.length → F 66 (60 * s + i) = nI (T.getD i 0)
  | none => F 67 s = -1
/-- only slots of S change -/
def kS (F F' : Nat → Nat → Int32) (S : Nat → Prop) : Prop := (∀ q, q ≠ 66 → q ≠ 67 → F' q = F q) ∧ ∀ s, ¬ S s → F' 67 s = F 67 s ∧ ∀ i, i < 60 → F' 66 (60 * s + i) = F 66 (60 * s + i)
theorem kS.rf {F : Nat → Nat → Int32} {S : Nat → Prop} : kS F F S := ⟨fun _ _ _ => rfl, fun _ _ => ⟨rfl, fun _ _ => rfl⟩⟩
theorem kS.tr {F F' F'' : Nat → Nat → Int32} {S : Nat → Prop} (a : kS F F' S) (b : kS F' F'' S) : kS F F'' S := ⟨fun q h1 h2 => (b.1 q h1 h2).trans (a.1 q h1 h2), fun s hs => ⟨(b.2 s hs).1.trans (a.2 s hs).1, fun i hi => ((b.2 s hs).2 i hi).trans ((a.2 s hs).2 i hi)⟩⟩
theorem kS.wk {F F' : Nat → Nat → Int32} {S S' : Nat → Prop} (a : kS F F' S) (h : ∀ s, S s → S' s) : kS F F' S' := ⟨a.1, fun s hs => a.2 s (fun z => hs (h s z))⟩
theorem SL.c {F F' : Nat → Nat → Int32} {S : Nat → Prop} {s : Nat} {Q : Option (List Nat)} (a : SL F s Q) (k : kS F F' S) (hs : ¬ S s) : SL F' s Q := by
  unfold SL at *
  cases Q with
  | none => exact (k.2 s hs).1.trans a
  | some T => exact ⟨(k.2 s hs).1.trans a.1, a.2.1, a.2.2.1, fun i hi => ((k.2 s hs).2 i (by have := a.2.1; omega)).trans (a.2.2.2 i hi)⟩
section PRJ
variable {d : Nat} {n0 pcs ms mv : Int32} {th ru : Bool}
theorem m_put {h : ax_H} {F : Nat → Nat → Int32} {s c : Nat} {T : List Nat} (hs : s < 240) (hc : c < 65536) (hT : T.length < 60) (m : mo h n0 pcs th ms ru mv) (A : MA h F) (S : SL F s (some T)) : ∃ h' F', mt d 88 [.inr (some 59), .inl (nI s), .inl (nI c)] h none h' ∧ mo h' n0 pcs th ms ru mv ∧ MA h' F' ∧ SL F' s (some (T ++ [c])) ∧ kS F F' (fun q => q = s) ∧ fr h h' (fun q => 59 ≤ q) := by
  obtain ⟨s1, s2, s3, s4⟩ := S
  have A1 := A.s66 (upd (F 66) (60 * s + T.length) (nI c))
  have m1 := m.s 66 (by decide) (.inl (1, 14400, .inl (upd (F 66) (60 * s + T.length) (nI c))))
  have A2 := A1.s67 (upd (F 67) s (nI (T.length + 1)))
  have m2 := m1.s 67 (by decide) (.inl (0, 240, .inl (upd (F 67) s (nI (T.length + 1)))))
  refine ⟨_, _, ?_, m2, A2, ⟨?_, ?_, ?_, ?_⟩, ⟨fun q h1 h2 => ?_, fun s' hs' => ⟨?_, fun i hi => ?_⟩⟩, fr.tr (A := fun q => 59 ≤ q) (fr.st (by decide)) (fr.st (by decide))⟩
  · have h66 := A.a66
    have h67 := A.a67
    have h67' := A1.a67
    rw [va_up_ne _ _ (by decide)] at h67'
    unfold mo at m m1
    (repeat (first | refine ax_st rfl ?_ | (apply ev_get rfl; assumption; rfl))); try dsimp only
    rw [show (60 : Int32) * nI s = nI (60 * s) from pk_mul 60 s]
    refine ev_ald rfl h67 ?_ ?_; exact in_nI (by omega) (by decide)
    rw [nI_clamp (by omega), s1]
    (repeat (first | refine ax_st rfl ?_ | (apply ev_get rfl; assumption; rfl))); try dsimp only
    rw [nI_add, show ((nI c).toUInt32 % 65536).toInt32 = nI c from cf_nI hc]
    refine ev_ast rfl h66 ?_ ?_; exact in_nI (by omega) (by decide)
    rw [if_pos rfl, nI_clamp (by omega), cf_nar (cf_nI hc)]
    (repeat (first | refine ax_st rfl ?_ | (apply ev_get rfl; assumption; rfl))); try dsimp only
    refine ev_ald rfl h67' ?_ ?_; exact in_nI (by omega) (by decide)
    rw [nI_clamp (by omega), s1]
    (repeat (first | refine ax_st rfl ?_ | (apply ev_get rfl; assumption; rfl))); try dsimp only
    rw [nI_1]
    refine ev_ast rfl h67' ?_ ?_; exact in_nI (by omega) (by decide)
    rw [if_neg (by decide), nI_clamp (by omega)]
    exact ax_rt rfl
  · rw [va_up_self, upd_s, List.length_append]
    rfl
  · rw [List.length_append]
    show T.length + 1 ≤ 60
    omega
  · intro x hx
    rcases List.mem_append.mp hx with q | q
    · exact s3 x q
    · rw [List.mem_singleton.mp q]; exact hc
  · intro i hi
    rw [va_up_ne _ _ (by decide), va_up_self]
    have hi : i < T.length + 1 := by
      rw [List.length_append] at hi
      exact hi
    by_cases h2 : i = T.length
    · subst h2
      rw [upd_s]
      simp [List.getD]
    · rw [upd_n (by omega), s4 i (by omega)]
      simp only [List.getD, List.getElem?_append_left (show i < T.length by omega)]
  · rw [va_up_ne _ _ h2, va_up_ne _ _ h1]
  · rw [va_up_self, upd_n hs']
  · rw [va_up_ne _ _ (by decide), va_up_self]
    have hs' : s' ≠ s := hs'
    rw [upd_n (by omega)]
def CP (d : Nat) (a b : Nat) (i : Nat) (h : ax_H) (Φ : ax_H → Prop) : Prop := ∃ h', Ev (d + 1) 89 2 [some (.inr (some 59)), some (.inl (nI a)), some (.inl (nI b)), some (.inl (nI i))] [] h none h' ∧ Φ h' ∧ fr h h' (fun q => 59 ≤ q)
theorem cp_loop {a b : Nat} {T S0 : List Nat} {F0 : Nat → Nat → Int32} (ha : a < 240) (hb : b < 240) (hab : a ≠ b) (hl : S0.length + T.length ≤ 60) : ∀ g i (h : ax_H) (F : Nat → Nat → Int32), i + g = T.length → mo h n0 pcs th ms ru mv → MA h F → SL F a (some T) → SL F b (some (S0 ++ T.take i)) → kS F0 F (fun q => q = b) → CP d a b i h (fun h' => ∃ F', mo h' n0 pcs th ms ru mv ∧ MA h' F' ∧ SL F' b (some (S0 ++ T)) ∧ kS F0 F' (fun q => q = b)) := by
  intro g
  induction g with
  | zero =>
    intro i h F hi m A Sa Sb K
    have hi : i = T.length := by omega
    rw [hi, List.take_length] at Sb
    refine ⟨h, ?_, ⟨F, m, A, Sb, K⟩, fr.rf⟩
    obtain ⟨s1, s2, s3, s4⟩ := Sa
    have h67 := A.a67
    unfold mo at m
    (repeat (first | refine ax_st rfl ?_ | (apply ev_get rfl; assumption; rfl))); try dsimp only
    refine ev_ald rfl h67 ?_ ?_; exact in_nI (by omega) (by decide)
    rw [nI_clamp (by omega), s1]
    (repeat (first | refine ax_st rfl ?_ | (apply ev_get rfl; assumption; rfl))); try dsimp only
    refine ev_t ((nI_leI (by omega) (by omega)).mpr (by omega)) ?_
    exact ax_rt rfl
  | succ g ih =>
    intro i h F hi m A Sa Sb K
    obtain ⟨s1, s2, s3, s4⟩ := id Sa
    have hc := lt_of_all s3 i
    obtain ⟨h1, F1, e1, m1, A1, Sb1, K1, f1⟩ := m_put (d := d) hb hc (by rw [List.length_append, List.length_take]; omega) m A Sb
    rw [List.append_assoc, show T.take i ++ [T.getD i 0] = T.take (i + 1) by
      rw [List.take_succ]
      congr 1
      rw [List.getD_eq_getElem?_getD, List.getElem?_eq_getElem (show i < T.length by omega)]
      rfl] at Sb1
    obtain ⟨h', q1, q2, q3⟩ := ih (i + 1) h1 F1 (by omega) m1 A1 (Sa.c K1 hab) Sb1 (K.tr K1)
    refine ⟨h', ?_, q2, f1.tr q3⟩
    rw [← nI_1 i] at q1
    have h67 := A.a67
    have h66 := A.a66
    unfold mo at m
    (repeat (first | refine ax_st rfl ?_ | (apply ev_get rfl; assumption; rfl))); try dsimp only
    refine ev_ald rfl h67 ?_ ?_; exact in_nI (by omega) (by decide)
    rw [nI_clamp (by omega), s1]
    (repeat (first | refine ax_st rfl ?_ | (apply ev_get rfl; assumption; rfl))); try dsimp only
    refine ev_f (fun z => absurd ((nI_leI (by omega) (by omega)).mp z) (by omega)) ?_
    (repeat (first | refine ax_st rfl ?_ | (apply ev_get rfl; assumption; rfl))); try dsimp only
    rw [show (60 : Int32) * nI a = nI (60 * a) from pk_mul 60 a, nI_add]
    refine ev_ald rfl h66 ?_ ?_; exact in_nI (by omega) (by decide)
    rw [nI_clamp (by omega), s4 i (by omega)]
    refine ev_callU rfl m ⟨rfl, rfl, Nat.le_of_ble_eq_true rfl, Nat.le_of_ble_eq_true rfl⟩ (e1) ?_
    repeat (first | (exact q1) | refine ax_st rfl ?_ | (apply ev_get rfl; assumption; rfl))
theorem m_copy {h : ax_H} {F : Nat → Nat → Int32} {a b : Nat} {T S0 : List Nat} (ha : a < 240) (hb : b < 240) (hab : a ≠ b) (hl : S0.length + T.length ≤ 60) (m : mo h n0 pcs th ms ru mv) (A : MA h F) (Sa : SL F a (some T)) (Sb : SL F b (some S0)) : ∃ h' F', mt (d + 1) 89 [.inr (some 59), .inl (nI a), .inl (nI b)] h none h' ∧ mo h' n0 pcs th ms ru mv ∧ MA h' F' ∧ SL F' b (some (S0 ++ T)) ∧ kS F F' (fun q => q = b) ∧ fr h h' (fun q => 59 ≤ q) := by
  obtain ⟨h', q1, ⟨F', q2⟩, q3⟩ := cp_loop (d := d) ha hb hab hl T.length 0 h F (Nat.zero_add _) m A Sa (by rw [List.take_zero, List.append_nil]; exact Sb) kS.rf
  refine ⟨h', F', ?_, q2.1, q2.2.1, q2.2.2.1, q2.2.2.2, q3⟩
  repeat (first | (exact q1) | refine ax_st rfl ?_ | (apply ev_get rfl; assumption; rfl))
theorem sm_loop {h : ax_H} {F : Nat → Nat → Int32} {a b : Nat} {S T : List Nat} (ha : a < 240) (hb : b < 240) (m : mo h n0 pcs th ms ru mv) (A : MA h F) (Sa : SL F a (some S)) (Sb : SL F b (some T)) (hl : S.length = T.length) : ∀ g i, i + g = S.length → S.take i = T.take i → Ev d 90 15 [some (.inr (some 59)), some (.inl (nI a)), some (.inl (nI b)), some (.inl (bi true)), some (.inl (nI i))] [] h (some (.inl (bi (decide (S = T))))) h := by
  obtain ⟨s1, s2, s3, s4⟩ := Sa
  obtain ⟨t1, t2, t3, t4⟩ := Sb
  have h67 := A.a67
  have h66 := A.a66
  unfold mo at m
  intro g
  induction g with
  | zero =>
    intro i hi he
    rw [show i = S.length by omega, List.take_length, hl, List.take_length] at he
    rw [decide_eq_true he]
    (repeat (first | refine ax_st rfl ?_ | (apply ev_get rfl; assumption; rfl))); try dsimp only
    refine ev_ald rfl h67 ?_ ?_; exact in_nI (by omega) (by decide)
    rw [nI_clamp (by omega), s1]
    (repeat (first | refine ax_st rfl ?_ | (apply ev_get rfl; assumption; rfl))); try dsimp only
    refine ev_t ((nI_leI (by omega) (by omega)).mpr (by omega)) ?_
    (repeat (first | refine ax_st rfl ?_ | (apply ev_get rfl; assumption; rfl))); try dsimp only
    exact ax_rt rfl
  | succ g ih =>
    intro i hi he
    have hc := lt_of_all s3 i
    have hc' := lt_of_all t3 i
    (repeat (first | refine ax_st rfl ?_ | (apply ev_get rfl; assumption; rfl))); try dsimp only
    refine ev_ald rfl h67 ?_ ?_; exact in_nI (by omega) (by decide)
    rw [nI_clamp (by omega), s1]
    (repeat (first | refine ax_st rfl ?_ | (apply ev_get rfl; assumption; rfl))); try dsimp only
    refine ev_f (fun z => absurd ((nI_leI (by omega) (by omega)).mp z) (by omega)) ?_
    (repeat (first | refine ax_st rfl ?_ | (apply ev_get rfl; assumption; rfl))); try dsimp only
    rw [show (60 : Int32) * nI a = nI (60 * a) from pk_mul 60 a, nI_add]
    refine ev_ald rfl h66 ?_ ?_; exact in_nI (by omega) (by decide)
    rw [nI_clamp (by omega), s4 i (by omega)]
    (repeat (first | refine ax_st rfl ?_ | (apply ev_get rfl; assumption; rfl))); try dsimp only
    rw [show (60 : Int32) * nI b = nI (60 * b) from pk_mul 60 b, nI_add]
    refine ev_ald rfl h66 ?_ ?_; exact in_nI (by omega) (by decide)
    rw [nI_clamp (by omega), t4 i (by omega)]
    (repeat (first | refine ax_st rfl ?_ | (apply ev_get rfl; assumption; rfl))); try dsimp only
    refine ev_if (fun c1 => ?_) (fun c1 => ?_)
    · rw [decide_eq_false (fun z => c1 (by rw [z]))]
      have e9 : Ev d 90 15 [some (.inr (some 59)), some (.inl (nI a)), some (.inl (nI b)), some (.inl (bi false)), some (.inl (nI i + 1))] [] h (some (.inl (bi false))) h := by
        (repeat (first | refine ax_st rfl ?_ | (apply ev_get rfl; assumption; rfl))); try dsimp only
        refine ev_ald rfl h67 ?_ ?_; exact in_nI (by omega) (by decide)
        rw [nI_clamp (by omega), s1]
        (repeat (first | refine ax_st rfl ?_ | (apply ev_get rfl; assumption; rfl))); try dsimp only
        refine ev_if (fun c2 => ?_) (fun c2 => ?_)
        · (repeat (first | refine ax_st rfl ?_ | (apply ev_get rfl; assumption; rfl))); try dsimp only
          exact ax_rt rfl
        · (repeat (first | refine ax_st rfl ?_ | (apply ev_get rfl; assumption; rfl))); try dsimp only
          exact ax_rt rfl
      repeat (first | (exact e9) | refine ax_st rfl ?_ | (apply ev_get rfl; assumption; rfl))
    · have c1 := (nI_eq (by omega) (by omega)).mp (Decidable.not_not.mp c1)
      have e1 := ih (i + 1) (by omega) (by
        rw [List.take_succ, List.take_succ, he]
        rw [List.getD_eq_getElem?_getD, List.getD_eq_getElem?_getD, List.getElem?_eq_getElem (show i < S.length by omega), List.getElem?_eq_getElem (show i < T.length by omega)] at c1
        rw [List.getElem?_eq_getElem (show i < S.length by omega), List.getElem?_eq_getElem (show i < T.length by omega)]
        have c1 : S[i] = T[i] := c1
        rw [c1])
      rw [← nI_1 i] at e1
      repeat (first | (exact e1) | refine ax_st rfl ?_ | (apply ev_get rfl; assumption; rfl))
theorem m_same {h : ax_H} {F : Nat → Nat → Int32} {a b : Nat} {S T : List Nat} (ha : a < 240) (hb : b < 240) (m : mo h n0 pcs th ms ru mv) (A : MA h F) (Sa : SL F a (some S)) (Sb : SL F b (some T)) : mt d 90 [.inr (some 59), .inl (nI a), .inl (nI b)] h (some (.inl (bi (decide (S = T))))) h := by
  obtain ⟨s1, s2, s3, s4⟩ := id Sa
  obtain ⟨t1, t2, t3, t4⟩ := id Sb
  have h67 := A.a67
  have m0 := m
  unfold mo at m
  (repeat (first | refine ax_st rfl ?_ | (apply ev_get rfl; assumption; rfl))); try dsimp only
  refine ev_ald rfl h67 ?_ ?_; exact in_nI (by omega) (by decide)
  rw [nI_clamp (by omega), s1]
  (repeat (first | refine ax_st rfl ?_ | (apply ev_get rfl; assumption; rfl))); try dsimp only
  refine ev_ald rfl h67 ?_ ?_; exact in_nI (by omega) (by decide)
  rw [nI_clamp (by omega), t1]
  (repeat (first | refine ax_st rfl ?_ | (apply ev_get rfl; assumption; rfl))); try dsimp only
  by_cases hl : S.length = T.length
  · have e1 := sm_loop (d := d) ha hb m0 A Sa Sb hl S.length 0 (Nat.zero_add _) rfl
    refine ev_f (fun z => z (by rw [hl])) ?_
    repeat (first | (exact e1) | refine ax_st rfl ?_ | (apply ev_get rfl; assumption; rfl))
  · refine ev_t (fun z => hl ((nI_eq (by omega) (by omega)).mp z)) ?_
    rw [decide_eq_false (fun z => hl (by rw [z]))]
    (repeat (first | refine ax_st rfl ?_ | (apply ev_get rfl; assumption; rfl))); try dsimp only
    refine ev_ald rfl h67 ?_ ?_; exact in_nI (by omega) (by decide)
    rw [nI_clamp (by omega), s1]
    refine ax_st rfl ?_
    dsimp only
    refine ev_if (fun c2 => ?_) (fun c2 => ?_)
    · (repeat (first | refine ax_st rfl ?_ | (apply ev_get rfl; assumption; rfl))); try dsimp only
      exact ax_rt rfl
    · (repeat (first | refine ax_st rfl ?_ | (apply ev_get rfl; assumption; rfl))); try dsimp only
      exact ax_rt rfl
/-- a loop's part -/
def lpt (v : Nat) (T : List Nat) : List Nat := if T = [v] then [101] else if v ∈ T then 109 :: v :: 46 :: T else T
theorem ls_loop {h : ax_H} {F : Nat → Nat → Int32} {k r v : Nat} {T : List Nat} {s0 : Int32} (hk : k < 59) (hr : r < 4) (hv : v < 65536) (m : mo h n0 pcs th ms ru mv) (A : MA h F) (h62v : F 62 k = nI v) (Sb : SL F (4 * (k + 1) + r) (some T)) {res : Option ax_V} {h' : ax_H} : ∀ g i (b : Bool), i + g = T.length → (∀ i', Ev (d + 2) 91 45 [some (.inr (some 59)), some (.inl (nI k)), some (.inl (nI r)), some (.inl s0), some (.inl (nI (4 * (k + 1) + r))), some (.inl (bi (b || decide (v ∈ T.drop i)))), some (.inl i')] [] h res h') → Ev (d + 2) 91 18 [some (.inr (some 59)), some (.inl (nI k)), some (.inl (nI r)), some (.inl s0), some (.inl (nI (4 * (k + 1) + r))), some (.inl (bi b)), some (.inl (nI i))] [] h res h' := by
  obtain ⟨t1, t2, t3, t4⟩ := Sb
  have h67 := A.a67
  have h66 := A.a66
  have h62 := A.a62
  unfold mo at m
  intro g
  induction g with
  | zero =>
    intro i b hi K
    have e1 := K (nI i)
    rw [List.drop_eq_nil_of_le (show T.length ≤ i by omega), decide_eq_false (by simp), Bool.or_false] at e1
    (repeat (first | refine ax_st rfl ?_ | (apply ev_get rfl; assumption; rfl))); try dsimp only
    refine ev_ald rfl h67 ?_ ?_; exact in_nI (by omega) (by decide)
    rw [nI_clamp (by omega), t1]
    (repeat (first | refine ax_st rfl ?_ | (apply ev_get rfl; assumption; rfl))); try dsimp only
    refine ev_t ((nI_leI (by omega) (by omega)).mpr (by omega)) ?_
    exact e1
  | succ g ih =>
    intro i b hi K
    have hc := lt_of_all t3 i
    have hdr : T.drop i = T.getD i 0 :: T.drop (i + 1) := by
      rw [List.drop_eq_getElem_cons (show i < T.length by omega)]
      congr 1
      rw [List.getD_eq_getElem?_getD, List.getElem?_eq_getElem (show i < T.length by omega)]
      rfl
    have step : ∀ b' : Bool, b' = (b || decide (v = T.getD i 0)) → Ev (d + 2) 91 42 [some (.inr (some 59)), some (.inl (nI k)), some (.inl (nI r)), some (.inl s0), some (.inl (nI (4 * (k + 1) + r))), some (.inl (bi b)), some (.inl (nI i))] [.inl (bi b')] h res h' := by
      intro b' hb'
      have e1 := ih (i + 1) b' (by omega) (fun i' => by
        have := K i'
        rw [hdr] at this
        have he : (b || decide (v ∈ T.getD i 0 :: T.drop (i + 1))) = (b' || decide (v ∈ T.drop (i + 1))) := by
          rw [hb', Bool.or_assoc]
          congr 1
          rw [← Bool.decide_or]
          exact decide_eq_decide.mpr List.mem_cons
        rw [he] at this
        exact this)
      rw [← nI_1 i] at e1
      repeat (first | (exact e1) | refine ax_st rfl ?_ | (apply ev_get rfl; assumption; rfl))
    (repeat (first | refine ax_st rfl ?_ | (apply ev_get rfl; assumption; rfl))); try dsimp only
    refine ev_ald rfl h67 ?_ ?_; exact in_nI (by omega) (by decide)
    rw [nI_clamp (by omega), t1]
    (repeat (first | refine ax_st rfl ?_ | (apply ev_get rfl; assumption; rfl))); try dsimp only
    refine ev_f (fun z => absurd ((nI_leI (by omega) (by omega)).mp z) (by omega)) ?_
    cases b with
    | true =>
      have e1 := step true rfl
      repeat (first | (exact e1) | refine ax_st rfl ?_ | (apply ev_get rfl; assumption; rfl))
    | false =>
      (repeat (first | refine ax_st rfl ?_ | (apply ev_get rfl; assumption; rfl))); try dsimp only
      rw [show (60 : Int32) * nI (4 * (k + 1) + r) = nI (60 * (4 * (k + 1) + r)) from pk_mul 60 _, nI_add]
      refine ev_ald rfl h66 ?_ ?_; exact in_nI (by omega) (by decide)
      rw [nI_clamp (by omega), t4 i (by omega)]
      (repeat (first | refine ax_st rfl ?_ | (apply ev_get rfl; assumption; rfl))); try dsimp only
      refine ev_ald rfl h62 ?_ ?_; exact in_nI (by omega) (by decide)
      rw [nI_clamp (by omega), h62v]
      (repeat (first | refine ax_st rfl ?_ | (apply ev_get rfl; assumption; rfl))); try dsimp only
      refine ev_if (fun c1 => ?_) (fun c1 => ?_)
      · have e1 := step false (by rw [decide_eq_false (fun z => c1 (by rw [z]))]; rfl)
        repeat (first | (exact e1) | refine ax_st rfl ?_ | (apply ev_get rfl; assumption; rfl))
      · have e1 := step true (by rw [decide_eq_true ((nI_eq (by omega) (by omega)).mp (Decidable.not_not.mp c1)).symm]; rfl)
        repeat (first | (exact e1) | refine ax_st rfl ?_ | (apply ev_get rfl; assumption; rfl))
theorem m_loopPart {h : ax_H} {F : Nat → Nat → Int32} {k r v : Nat} {Q : Option (List Nat)} (hk : k < 59) (hr : r < 4) (hv : v < 65536) (m : mo h n0 pcs th ms ru mv) (A : MA h F) (h62v : F 62 k = nI v) (Ss : SL F (4 * k + r) (some [])) (Sb : SL F (4 * (k + 1) + r) Q) (hQ : ∀ T, Q = some T → T.length + 3 ≤ 60) : ∃ h' F', mt (d + 2) 91 [.inr (some 59), .inl (nI k), .inl (nI r)] h none h' ∧ mo h' n0 pcs th ms ru mv ∧ MA h' F' ∧ SL F' (4 * k + r) (Q.map (lpt v)) ∧ kS F F' (fun q => q = 4 * k + r) ∧ fr h h' (fun q => 59 ≤ q) := by
  have m0 := m
  have h67 := A.a67
  have pre : ∀ {res : Option ax_V} {h' : ax_H}, Ev (d + 2) 91 18 [some (.inr (some 59)), some (.inl (nI k)), some (.inl (nI r)), some (.inl (nI (4 * k + r))), some (.inl (nI (4 * (k + 1) + r))), some (.inl (bi false)), some (.inl (nI 0))] [] h res h' → mt (d + 2) 91 [.inr (some 59), .inl (nI k), .inl (nI r)] h res h' := by
    intro res h' e
    iterate 18 (refine ax_st rfl ?_)
    dsimp only
    rw [show (4 : Int32) * nI k = nI (4 * k) from pk_mul 4 k, nI_add, nI_1, show (4 : Int32) * nI (k + 1) = nI (4 * (k + 1)) from pk_mul 4 _, nI_add]
    exact e
  cases Q with
  | none =>
    have Sb : F 67 (4 * (k + 1) + r) = -1 := Sb
    have A1 := A.s67 (upd (F 67) (4 * k + r) (-1))
    have m1 := m0.s 67 (by decide) (.inl (0, 240, .inl (upd (F 67) (4 * k + r) (-1))))
    refine ⟨_, _, pre ?_, m1, A1, ?_, ⟨fun q h1 h2 => va_up_ne _ _ h2, fun s hs => ⟨by rw [va_up_self, upd_n hs], fun i hi => by rw [va_up_ne _ _ (by decide)]⟩⟩, fr.st (by decide)⟩
    · unfold mo at m
      (repeat (first | refine ax_st rfl ?_ | (apply ev_get rfl; assumption; rfl))); try dsimp only
      refine ev_ald rfl h67 ?_ ?_; exact in_nI (by omega) (by decide)
      rw [nI_clamp (by omega), Sb]
      (repeat (first | refine ax_st rfl ?_ | (apply ev_get rfl; assumption; rfl))); try dsimp only
      refine ev_ald rfl h67 ?_ ?_; exact in_nI (by omega) (by decide)
      rw [nI_clamp (by omega), Sb]
      (repeat (first | refine ax_st rfl ?_ | (apply ev_get rfl; assumption; rfl))); try dsimp only
      refine ev_ast rfl h67 ?_ ?_; exact in_nI (by omega) (by decide)
      rw [if_neg (by decide), nI_clamp (by omega)]
      (repeat (first | refine ax_st rfl ?_ | (apply ev_get rfl; assumption; rfl))); try dsimp only
      exact ax_rt rfl
    · show (va_up F 67 (upd (F 67) (4 * k + r) (-1))) 67 (4 * k + r) = -1
      rw [va_up_self, upd_s]
  | some T =>
    have hT := hQ T rfl
    obtain ⟨t1, t2, t3, t4⟩ := id Sb
    have fin : ∀ {h' : ax_H}, (∀ i', Ev (d + 2) 91 56 [some (.inr (some 59)), some (.inl (nI k)), some (.inl (nI r)), some (.inl (nI (4 * k + r))), some (.inl (nI (4 * (k + 1) + r))), some (.inl (bi (decide (v ∈ T)))), some (.inl i')] [] h none h') → mt (d + 2) 91 [.inr (some 59), .inl (nI k), .inl (nI r)] h none h' := by
      intro h' K
      refine pre (ls_loop (d := d) hk hr hv m0 A h62v Sb T.length 0 false (Nat.zero_add _) (fun i' => ?_))
      rw [Bool.false_or, List.drop_zero]
      unfold mo at m
      have e := K i'
      (repeat (first | refine ax_st rfl ?_ | (apply ev_get rfl; assumption; rfl))); try dsimp only
      refine ev_ald rfl h67 ?_ ?_; exact in_nI (by omega) (by decide)
      rw [nI_clamp (by omega), t1]
      refine ax_st rfl ?_
      dsimp only
      refine ev_t ((nI_leI (a := 0) (by decide) (by omega)).mpr (Nat.zero_le _)) ?_
      exact e
    show ∃ h' F', _ ∧ _ ∧ _ ∧ SL F' (4 * k + r) (some (lpt v T)) ∧ _ ∧ _
    unfold lpt
    by_cases h1 : T = [v]
    · rw [if_pos h1]
      obtain ⟨h1', F1, e1, m1, A1, S1, K1, f1⟩ := m_put (d := d + 1) (c := 101) (show 4 * k + r < 240 by omega) (by decide) (by decide) m A Ss
      refine ⟨h1', F1, fin (fun i' => ?_), m1, A1, S1, K1, f1⟩
      rw [decide_eq_true (by rw [h1]; simp)]
      rw [h1] at t1
      unfold mo at m
      (repeat (first | refine ax_st rfl ?_ | (apply ev_get rfl; assumption; rfl))); try dsimp only
      refine ev_ald rfl h67 ?_ ?_; exact in_nI (by omega) (by decide)
      rw [nI_clamp (by omega), t1]
      (repeat (first | refine ax_st rfl ?_ | (apply ev_get rfl; assumption; rfl))); try dsimp only
      refine ev_callU rfl m ⟨rfl, rfl, Nat.le_of_ble_eq_true rfl, Nat.le_of_ble_eq_true rfl⟩ (e1) ?_
      (repeat (first | refine ax_st rfl ?_ | (apply ev_get rfl; assumption; rfl))); try dsimp only
      exact ax_rt rfl
    · rw [if_neg h1]
      by_cases h2 : v ∈ T
      · rw [if_pos h2]
        have hl1 : T.length ≠ 1 := by
          intro z
          obtain ⟨y, rfl⟩ := List.length_eq_one_iff.mp z
          rw [List.mem_singleton] at h2
          exact h1 (by rw [h2])
        obtain ⟨ha, Fa, ea, ma, Aa, Sa, Ka, fa⟩ := m_put (d := d + 1) (c := 109) (show 4 * k + r < 240 by omega) (by decide) (by decide) m A Ss
        obtain ⟨hb, Fb, eb, mb, Ab, Sb', Kb, fb⟩ := m_put (d := d + 1) (c := v) (show 4 * k + r < 240 by omega) hv (by decide) ma Aa Sa
        obtain ⟨hc, Fc, ec, mc, Ac, Sc, Kc, fc⟩ := m_put (d := d + 1) (c := 46) (show 4 * k + r < 240 by omega) (by decide) (by simp) mb Ab Sb'
        have KK := (Ka.tr Kb).tr Kc
        obtain ⟨he, Fe, ee, me, Ae, Se, Ke, fe⟩ := m_copy (d := d) (show 4 * (k + 1) + r < 240 by omega) (show 4 * k + r < 240 by omega) (by omega) (by show 3 + T.length ≤ 60; omega) mc Ac (Sb.c KK (by omega)) Sc
        refine ⟨he, Fe, fin (fun i' => ?_), me, Ae, Se, KK.tr Ke, ((fa.tr fb).tr fc).tr fe⟩
        rw [decide_eq_true h2]
        have h62a := Aa.a62
        have h62va : Fa 62 k = nI v := by rw [Ka.1 62 (by decide) (by decide)]; exact h62v
        unfold mo at m ma mb mc
        (repeat (first | refine ax_st rfl ?_ | (apply ev_get rfl; assumption; rfl))); try dsimp only
        refine ev_ald rfl h67 ?_ ?_; exact in_nI (by omega) (by decide)
        rw [nI_clamp (by omega), t1]
        refine ax_st rfl ?_
        refine ax_st rfl ?_
        dsimp only
        refine ev_t (fun z => hl1 ((nI_eq (b := 1) (by omega) (by decide)).mp z)) ?_
        (repeat (first | refine ax_st rfl ?_ | (apply ev_get rfl; assumption; rfl))); try dsimp only
        refine ev_callU rfl m ⟨rfl, rfl, Nat.le_of_ble_eq_true rfl, Nat.le_of_ble_eq_true rfl⟩ (ea) ?_
        (repeat (first | refine ax_st rfl ?_ | (apply ev_get rfl; assumption; rfl))); try dsimp only
        refine ev_ald rfl h62a ?_ ?_; exact in_nI (by omega) (by decide)
        rw [nI_clamp (by omega), h62va]
        refine ev_callU rfl ma ⟨rfl, rfl, Nat.le_of_ble_eq_true rfl, Nat.le_of_ble_eq_true rfl⟩ (eb) ?_
        (repeat (first | refine ax_st rfl ?_ | (apply ev_get rfl; assumption; rfl))); try dsimp only
        refine ev_callU rfl mb ⟨rfl, rfl, Nat.le_of_ble_eq_true rfl, Nat.le_of_ble_eq_true rfl⟩ (ec) ?_
        (repeat (first | refine ax_st rfl ?_ | (apply ev_get rfl; assumption; rfl))); try dsimp only
        refine ev_callU rfl mc ⟨rfl, rfl, Nat.le_of_ble_eq_true rfl, Nat.le_of_ble_eq_true rfl⟩ (ee) ?_
        exact ax_rt rfl
      · rw [if_neg h2]
        obtain ⟨he, Fe, ee, me, Ae, Se, Ke, fe⟩ := m_copy (d := d) (show 4 * (k + 1) + r < 240 by omega) (show 4 * k + r < 240 by omega) (by omega) (by show 0 + T.length ≤ 60; omega) m A Sb Ss
        refine ⟨he, Fe, fin (fun i' => ?_), me, Ae, Se, Ke, fe⟩
        rw [decide_eq_false h2]
        unfold mo at m
        (repeat (first | refine ax_st rfl ?_ | (apply ev_get rfl; assumption; rfl))); try dsimp only
        refine ev_callU rfl m ⟨rfl, rfl, Nat.le_of_ble_eq_true rfl, Nat.le_of_ble_eq_true rfl⟩ (ee) ?_
        exact ax_rt rfl
end PRJ
