/-! The reference: looks. -/
def mS (F : Nat → Nat → Int32) (r : Nat) (T : List Nat) : Prop := F 69 r = nI T.length ∧ T.length ≤ 60 ∧ (∀ x ∈ T, x < 65536) ∧ ∀ i, i < T.length → F 68 (60 * r + i) = nI (T.getD i 0)
theorem lt_of_all {T : List Nat} (h : ∀ x ∈ T, x < 65536) (k : Nat) : T.getD k 0 < 65536 := by
  by_cases hk : k < T.length
  · exact h _ (by rw [List.getD_eq_getElem?_getD, List.getElem?_eq_getElem hk]; exact List.getElem_mem hk)
  · simp [List.getD, List.getElem?_eq_none (by omega : T.length ≤ k)]
section MD2
variable {d : Nat} {h : ax_H} {n0 pcs ms mv : Int32} {th ru : Bool} {F : Nat → Nat → Int32}
theorem m_sign {r p : Nat} {T : List Nat} (m : mo h n0 pcs th ms ru mv) (A : MA h F) (S : mS F r T) (hr : r < 4) (hp : p < 2 ^ 30) : mt d 99 [.inr (some 59), .inl (nI r), .inl (nI p)] h (some (.inl (nI (T.getD p 0)))) h := by
  unfold mo at m
  obtain ⟨s1, s2, s3, s4⟩ := S
  have h69 := A.a69
  have h68 := A.a68
  (repeat (first | refine ax_st rfl ?_ | (apply ev_get rfl; assumption; rfl))); try dsimp only
  refine ev_ald rfl h69 ?_ ?_; exact in_nI (by omega) (by decide)
  rw [nI_clamp (by omega), s1]
  (repeat (first | refine ax_st rfl ?_ | (apply ev_get rfl; assumption; rfl))); try dsimp only
  refine ev_if (fun c1 => ?_) (fun c1 => ?_)
  · have c1 := (nI_leI (by omega) (by omega)).mp c1
    rw [show T.getD p 0 = 0 by simp [List.getD, List.getElem?_eq_none c1]]
    (repeat (first | refine ax_st rfl ?_ | (apply ev_get rfl; assumption; rfl))); try dsimp only
    exact ax_rt rfl
  · have c1 : ¬ T.length ≤ p := fun q => c1 ((nI_leI (by omega) (by omega)).mpr q)
    (repeat (first | refine ax_st rfl ?_ | (apply ev_get rfl; assumption; rfl))); try dsimp only
    rw [show (60 : Int32) * nI r = nI (60 * r) from pk_mul 60 r, nI_add]
    refine ev_ald rfl h68 ?_ ?_; exact in_nI (by omega) (by decide)
    rw [nI_clamp (by omega), s4 p (by omega)]
    (repeat (first | refine ax_st rfl ?_ | (apply ev_get rfl; assumption; rfl))); try dsimp only
    exact ax_rt rfl
theorem m_messages : ∀ {tp : List Nat} {mc : Int32} {P : Nat → Option Tr} {run : Bool} {pc : Nat → Nat} {rws : Nat → List Int32} {mv : Int32}, RM h tp mc P run pc rws mv → mt d 96 [.inr (some 59)] h (some (.inl mc)) h := by
  intro tp mc P run pc rws mv R
  obtain ⟨pcs, ms, th, F, m, A, -, hmc, -⟩ := R
  unfold mo at m
  rw [hmc]
  cases th with
  | true =>
    (repeat (first | refine ax_st rfl ?_ | (apply ev_get rfl; assumption; rfl))); try dsimp only
    exact ax_rt rfl
  | false =>
    (repeat (first | refine ax_st rfl ?_ | (apply ev_get rfl; assumption; rfl))); try dsimp only
    exact ax_rt rfl
theorem m_moves : ∀ {tp : List Nat} {mc : Int32} {P : Nat → Option Tr} {run : Bool} {pc : Nat → Nat} {rws : Nat → List Int32} {mv : Int32}, RM h tp mc P run pc rws mv → mt d 111 [.inr (some 59)] h (some (.inl (if run = true then mv else -1))) h := by
  intro tp mc P run pc rws mv R
  obtain ⟨pcs, ms, th, F, m, A, -⟩ := R
  unfold mo at m
  cases run with
  | true =>
    (repeat (first | refine ax_st rfl ?_ | (apply ev_get rfl; assumption; rfl))); try dsimp only
    exact ax_rt rfl
  | false =>
    (repeat (first | refine ax_st rfl ?_ | (apply ev_get rfl; assumption; rfl))); try dsimp only
    exact ax_rt rfl
section MRR
variable {tp : List Nat} {mc mv : Int32} {P : Nat → Option Tr} {run : Bool} {pc : Nat → Nat} {rws : Nat → List Int32}
theorem m_length {x : Int32} (R : RM h tp mc P run pc rws mv) : mt (d + 1) 97 [.inr (some 59), .inl x] h (some (.inl (qLen P x))) h := by
  obtain ⟨pcs, ms, th, F, m, A, -, hmc, hP, -⟩ := R
  unfold mo at m
  have h69 := A.a69
  cases th with
  | false =>
    have : qLen P x = (-1 : Int32) := by
      unfold qLen
      by_cases hN : isN x = true
      · obtain ⟨r, hr, rfl⟩ := isN_iff.mp hN
        have hp := hP r hr
        rw [if_neg (by decide)] at hp
        rw [if_pos hN, nI_clamp (by omega), hp]
      · rw [if_neg hN]
    rw [this]
    (repeat (first | refine ax_st rfl ?_ | (apply ev_get rfl; assumption; rfl))); try dsimp only
    exact ax_rt rfl
  | true =>
    unfold qLen
    (repeat (first | refine ax_st rfl ?_ | (apply ev_get rfl; assumption; rfl))); try dsimp only
    refine ev_callS rfl ⟨rfl, rfl, Nat.le_of_ble_eq_true rfl, Nat.le_of_ble_eq_true rfl⟩ (m_isNumber x) ?_
    by_cases hN : isN x = true
    · rw [if_pos hN, hN]
      obtain ⟨r, hr, rfl⟩ := isN_iff.mp hN
      rw [nI_clamp (by omega)]
      have hp := hP r hr
      rw [if_pos rfl] at hp
      (repeat (first | refine ax_st rfl ?_ | (apply ev_get rfl; assumption; rfl))); try dsimp only
      refine ev_ald rfl h69 ?_ ?_; exact in_nI (by omega) (by decide)
      rw [nI_clamp (by omega)]
      (repeat (first | refine ax_st rfl ?_ | (apply ev_get rfl; assumption; rfl))); try dsimp only
      cases hq : P r with
      | none =>
        rw [hq] at hp
        have hp : F 69 r = -1 := hp
        rw [hp]
        exact ax_rt rfl
      | some l =>
        rw [hq] at hp
        rw [hp.1]
        exact ax_rt rfl
    · rw [if_neg hN, isN_f hN]
      (repeat (first | refine ax_st rfl ?_ | (apply ev_get rfl; assumption; rfl))); try dsimp only
      exact ax_rt rfl
theorem m_charAt {x k : Int32} (R : RM h tp mc P run pc rws mv) : mt (d + 1) 98 [.inr (some 59), .inl x, .inl k] h (some (.inl (qChr P x k))) h := by
  obtain ⟨pcs, ms, th, F, m, A, -, hmc, hP, -⟩ := R
  unfold mo at m
  have h69 := A.a69
  have h68 := A.a68
  cases th with
  | false =>
    have : qChr P x k = (-1 : Int32) := by
      unfold qChr
      by_cases hN : isN x = true
      · obtain ⟨r, hr, rfl⟩ := isN_iff.mp hN
        have hp := hP r hr
        rw [if_neg (by decide)] at hp
        rw [if_pos hN, nI_clamp (by omega), hp]
      · rw [if_neg hN]
    rw [this]
    (repeat (first | refine ax_st rfl ?_ | (apply ev_get rfl; assumption; rfl))); try dsimp only
    exact ax_rt rfl
  | true =>
    unfold qChr
    (repeat (first | refine ax_st rfl ?_ | (apply ev_get rfl; assumption; rfl))); try dsimp only
    refine ev_callS rfl ⟨rfl, rfl, Nat.le_of_ble_eq_true rfl, Nat.le_of_ble_eq_true rfl⟩ (m_isNumber x) ?_
    by_cases hN : isN x = true
    · rw [if_pos hN, hN]
      obtain ⟨r, hr, rfl⟩ := isN_iff.mp hN
      rw [nI_clamp (by omega)]
      have hp := hP r hr
      rw [if_pos rfl] at hp
      (repeat (first | refine ax_st rfl ?_ | (apply ev_get rfl; assumption; rfl))); try dsimp only
      cases hq : P r with
      | none =>
        rw [hq] at hp
        have hp : F 69 r = -1 := hp
        refine ev_if (fun c1 => ?_) (fun c1 => ?_)
        · (repeat (first | refine ax_st rfl ?_ | (apply ev_get rfl; assumption; rfl))); try dsimp only
          exact ax_rt rfl
        · (repeat (first | refine ax_st rfl ?_ | (apply ev_get rfl; assumption; rfl))); try dsimp only
          refine ev_ald rfl h69 ?_ ?_; exact in_nI (by omega) (by decide)
          rw [nI_clamp (by omega), hp]
          (repeat (first | refine ax_st rfl ?_ | (apply ev_get rfl; assumption; rfl))); try dsimp only
          refine ev_t ?_ ?_
          · obtain ⟨n, hn, rfl⟩ := nI_of c1
            rw [Int32.le_iff_toInt_le, nI_toInt hn, show (-1 : Int32).toInt = -1 from rfl]
            omega
          · (repeat (first | refine ax_st rfl ?_ | (apply ev_get rfl; assumption; rfl))); try dsimp only
            exact ax_rt rfl
      | some l =>
        rw [hq] at hp
        obtain ⟨p1, p2, p3, p4⟩ := hp
        dsimp only
        refine ev_if (fun c1 => ?_) (fun c1 => ?_)
        · rw [if_pos c1]
          (repeat (first | refine ax_st rfl ?_ | (apply ev_get rfl; assumption; rfl))); try dsimp only
          exact ax_rt rfl
        · rw [if_neg c1]
          (repeat (first | refine ax_st rfl ?_ | (apply ev_get rfl; assumption; rfl))); try dsimp only
          refine ev_ald rfl h69 ?_ ?_; exact in_nI (by omega) (by decide)
          rw [nI_clamp (by omega), p1]
          (repeat (first | refine ax_st rfl ?_ | (apply ev_get rfl; assumption; rfl))); try dsimp only
          refine ev_if (fun c2 => ?_) (fun c2 => ?_)
          · rw [if_pos c2]
            (repeat (first | refine ax_st rfl ?_ | (apply ev_get rfl; assumption; rfl))); try dsimp only
            exact ax_rt rfl
          · rw [if_neg c2]
            obtain ⟨n, hn, rfl⟩ := nI_of c1
            have c2 : ¬ (rn l false).length ≤ n := fun q => c2 ((nI_leI (by omega) hn).mpr q)
            (repeat (first | refine ax_st rfl ?_ | (apply ev_get rfl; assumption; rfl))); try dsimp only
            rw [show (60 : Int32) * nI r = nI (60 * r) from pk_mul 60 r, nI_add]
            refine ev_ald rfl h68 ?_ ?_; exact in_nI (by omega) (by decide)
            rw [nI_clamp (by omega), p4 n (by omega), tg_nI _ hn]
            (repeat (first | refine ax_st rfl ?_ | (apply ev_get rfl; assumption; rfl))); try dsimp only
            exact ax_rt rfl
    · rw [if_neg hN, isN_f hN]
      (repeat (first | refine ax_st rfl ?_ | (apply ev_get rfl; assumption; rfl))); try dsimp only
      exact ax_rt rfl
theorem m_on {x y : Int32} (R : RM h tp mc P run pc rws mv) : mt (d + 1) 109 [.inr (some 59), .inl x, .inl y] h (some (.inl (qOn run rws x y))) h := by
  obtain ⟨pcs, ms, th, F, m, A, -, -, -, -, hW⟩ := R
  unfold mo at m
  have h72 := A.a72
  unfold qOn
  cases run with
  | false =>
    rw [if_neg (fun z => absurd z.1 (by decide))]
    (repeat (first | refine ax_st rfl ?_ | (apply ev_get rfl; assumption; rfl))); try dsimp only
    exact ax_rt rfl
  | true =>
    (repeat (first | refine ax_st rfl ?_ | (apply ev_get rfl; assumption; rfl))); try dsimp only
    refine ev_callS rfl ⟨rfl, rfl, Nat.le_of_ble_eq_true rfl, Nat.le_of_ble_eq_true rfl⟩ (m_isNumber x) ?_
    cases hx : isN x with
    | false =>
      rw [if_neg (fun z => absurd z.2.1 (by decide))]
      (repeat (first | refine ax_st rfl ?_ | (apply ev_get rfl; assumption; rfl))); try dsimp only
      exact ax_rt rfl
    | true =>
      (repeat (first | refine ax_st rfl ?_ | (apply ev_get rfl; assumption; rfl))); try dsimp only
      refine ev_callS rfl ⟨rfl, rfl, Nat.le_of_ble_eq_true rfl, Nat.le_of_ble_eq_true rfl⟩ (m_isNumber y) ?_
      cases hy : isN y with
      | false =>
        rw [if_neg (fun z => absurd z.2.2 (by decide))]
        (repeat (first | refine ax_st rfl ?_ | (apply ev_get rfl; assumption; rfl))); try dsimp only
        exact ax_rt rfl
      | true =>
        rw [if_pos ⟨rfl, rfl, rfl⟩]
        obtain ⟨r, hr, rfl⟩ := isN_iff.mp hx
        obtain ⟨s, hs, rfl⟩ := isN_iff.mp hy
        rw [nI_clamp (by omega), nI_clamp (by omega)]
        (repeat (first | refine ax_st rfl ?_ | (apply ev_get rfl; assumption; rfl))); try dsimp only
        rw [show (4 : Int32) * nI r = nI (4 * r) from pk_mul 4 r, nI_add]
        refine ev_ald rfl h72 ?_ ?_; exact in_nI (by omega) (by decide)
        rw [nI_clamp (by omega), (hW (4 * r + s) (by omega)).1]
        (repeat (first | refine ax_st rfl ?_ | (apply ev_get rfl; assumption; rfl))); try dsimp only
        exact ax_rt rfl
theorem m_lab {x y k : Int32} (R : RM h tp mc P run pc rws mv) : mt (d + 2) 110 [.inr (some 59), .inl x, .inl y, .inl k] h (some (.inl (qLab run rws x y k))) h := by
  have R0 := R
  obtain ⟨pcs, ms, th, F, m, A, -, -, -, -, hW⟩ := R
  unfold mo at m
  have h71 := A.a71
  unfold qLab
  (repeat (first | refine ax_st rfl ?_ | (apply ev_get rfl; assumption; rfl))); try dsimp only
  refine ev_if (fun c1 => ?_) (fun c1 => ?_)
  · have : (if run = true ∧ isN x = true ∧ isN y = true then rg (rws (4 * x.toNatClampNeg + y.toNatClampNeg)) k else -1) = (-1 : Int32) := by
      split
      · unfold rg; rw [if_pos c1]
      · rfl
    rw [this]
    (repeat (first | refine ax_st rfl ?_ | (apply ev_get rfl; assumption; rfl))); try dsimp only
    exact ax_rt rfl
  · obtain ⟨n, hn, rfl⟩ := nI_of c1
    (repeat (first | refine ax_st rfl ?_ | (apply ev_get rfl; assumption; rfl))); try dsimp only
    refine ev_callV rfl m ⟨rfl, rfl, Nat.le_of_ble_eq_true rfl, Nat.le_of_ble_eq_true rfl⟩ (m_on R0) ?_
    unfold qOn
    by_cases hq : run = true ∧ isN x = true ∧ isN y = true
    · rw [if_pos hq, if_pos hq]
      obtain ⟨-, hx, hy⟩ := hq
      obtain ⟨r, hr, rfl⟩ := isN_iff.mp hx
      obtain ⟨s, hs, rfl⟩ := isN_iff.mp hy
      rw [nI_clamp (by omega), nI_clamp (by omega)]
      obtain ⟨w1, w2, w3⟩ := hW (4 * r + s) (by omega)
      unfold rg
      rw [if_neg c1, nI_clamp hn]
      refine ax_st rfl ?_
      dsimp only
      refine ev_if (fun c2 => ?_) (fun c2 => ?_)
      · have c2 := (nI_leI (by omega) hn).mp c2
        rw [show (rws (4 * r + s)).getD n (-1) = -1 by simp [List.getD, List.getElem?_eq_none c2]]
        (repeat (first | refine ax_st rfl ?_ | (apply ev_get rfl; assumption; rfl))); try dsimp only
        exact ax_rt rfl
      · have c2 : ¬ (rws (4 * r + s)).length ≤ n := fun q => c2 ((nI_leI (by omega) hn).mpr q)
        (repeat (first | refine ax_st rfl ?_ | (apply ev_get rfl; assumption; rfl))); try dsimp only
        rw [show (4 : Int32) * nI r = nI (4 * r) from pk_mul 4 r, nI_add, show (3 : Int32) * nI (4 * r + s) = nI (3 * (4 * r + s)) from pk_mul 3 (4 * r + s), nI_add]
        refine ev_ald rfl h71 ?_ ?_; exact in_nI (by omega) (by decide)
        rw [nI_clamp (by omega), w3 n (by omega)]
        rw [show (rws (4 * r + s)).getD n (-1) = (rws (4 * r + s)).getD n 0 by simp [List.getD, List.getElem?_eq_getElem (show n < (rws (4 * r + s)).length by omega)]]
        (repeat (first | refine ax_st rfl ?_ | (apply ev_get rfl; assumption; rfl))); try dsimp only
        exact ax_rt rfl
    · rw [if_neg hq, if_neg hq]
      refine ax_st rfl ?_
      dsimp only
      refine ev_t ?_ ?_
      · rw [Int32.le_iff_toInt_le, nI_toInt hn, show (-1 : Int32).toInt = -1 from rfl]
        omega
      · (repeat (first | refine ax_st rfl ?_ | (apply ev_get rfl; assumption; rfl))); try dsimp only
        exact ax_rt rfl
/-- a role in a run, as the reference keeps it -/
theorem m_role (R : RM h tp mc P run pc rws mv) (I : ∀ r, r < 4 → ∃ l, P r = some l) : ∃ (pcs ms : Int32) (th : Bool) (F : Nat → Nat → Int32), mo h (nI tp.length) pcs th ms run mv ∧ MA h F ∧ (∀ r, r < 4 → mS F r (ptx P r)) ∧ (∀ r, r < 4 → F 70 r = nI (pc r)) ∧ ∀ k, k < 16 → MW1 F k (rws k) := by
  obtain ⟨pcs, ms, th, F, m, A, -, hmc, hP, hpc, hW⟩ := R
  refine ⟨pcs, ms, th, F, m, A, fun r hr => ?_, hpc, hW⟩
  obtain ⟨l, hl⟩ := I r hr
  have hp := hP r hr
  cases th with
  | false =>
    rw [if_neg (by decide), hl] at hp
    cases hp
  | true =>
    rw [if_pos rfl, hl] at hp
    unfold ptx
    rw [hl]
    exact hp
end MRR
/-- act, where the role stands at an end or at a message -/
def okAt (T : List Nat) (p : Nat) : Prop := T.getD p 0 = 101 ∨ isR (T.getD p 0) = true
theorem m_actN {x : Int32} (m : mo h n0 pcs th ms ru mv) (hq : ru = false ∨ isN x = false) : mt (d + 1) 103 [.inr (some 59), .inl x] h (some (.inl (-1))) h := by
  unfold mo at m
  cases ru with
  | false =>
    (repeat (first | refine ax_st rfl ?_ | (apply ev_get rfl; assumption; rfl))); try dsimp only
    exact ax_rt rfl
  | true =>
    (repeat (first | refine ax_st rfl ?_ | (apply ev_get rfl; assumption; rfl))); try dsimp only
    refine ev_callS rfl ⟨rfl, rfl, Nat.le_of_ble_eq_true rfl, Nat.le_of_ble_eq_true rfl⟩ (m_isNumber x) ?_
    rw [hq.resolve_left (by decide)]
    (repeat (first | refine ax_st rfl ?_ | (apply ev_get rfl; assumption; rfl))); try dsimp only
    exact ax_rt rfl
theorem m_act {r p : Nat} {T : List Nat} (m : mo h n0 pcs th ms true mv) (A : MA h F) (S : mS F r T) (hr : r < 4) (hp : p < 2 ^ 29) (hF : F 70 r = nI p) (ok : okAt T p) : mt (d + 1) 103 [.inr (some 59), .inl (nI r)] h (some (.inl (nI (pac T p)))) h := by
  have m0 := m
  unfold mo at m
  have h70 := A.a70
  have l1 := lt_of_all S.2.2.1 p
  have l2 := lt_of_all S.2.2.1 (p + 1)
  (repeat (first | refine ax_st rfl ?_ | (apply ev_get rfl; assumption; rfl))); try dsimp only
  refine ev_callS rfl ⟨rfl, rfl, Nat.le_of_ble_eq_true rfl, Nat.le_of_ble_eq_true rfl⟩ (m_isNumber (nI r)) ?_
  rw [isN_iff.mpr ⟨r, hr, rfl⟩]
  (repeat (first | refine ax_st rfl ?_ | (apply ev_get rfl; assumption; rfl))); try dsimp only
  refine ev_ald rfl h70 ?_ ?_; exact in_nI (by omega) (by decide)
  rw [nI_clamp (by omega), hF]
  (repeat (first | refine ax_st rfl ?_ | (apply ev_get rfl; assumption; rfl))); try dsimp only
  rw [nI_1 p]
  refine ev_callV rfl m ⟨rfl, rfl, Nat.le_of_ble_eq_true rfl, Nat.le_of_ble_eq_true rfl⟩ (m_sign m0 A S hr (by omega)) ?_
  (repeat (first | refine ax_st rfl ?_ | (apply ev_get rfl; assumption; rfl))); try dsimp only
  refine ev_ald rfl h70 ?_ ?_; exact in_nI (by omega) (by decide)
  rw [nI_clamp (by omega), hF]
  refine ev_callV rfl m ⟨rfl, rfl, Nat.le_of_ble_eq_true rfl, Nat.le_of_ble_eq_true rfl⟩ (m_sign m0 A S hr (by omega)) ?_
  (repeat (first | refine ax_st rfl ?_ | (apply ev_get rfl; assumption; rfl))); try dsimp only
  unfold pac
  rcases ok with ok | ok
  · rw [ok]
    (repeat (first | refine ax_st rfl ?_ | (apply ev_get rfl; assumption; rfl))); try dsimp only
    exact ax_rt rfl
  · have hb := isR_b ok
    rw [if_pos ok]
    refine ev_t (fun q => absurd ((nI_eq (b := 101) (by omega) (by decide)).mp q) (by omega)) ?_
    (repeat (first | refine ax_st rfl ?_ | (apply ev_get rfl; assumption; rfl))); try dsimp only
    refine ev_if (fun c2 => ?_) (fun c2 => ?_)
    · rw [if_neg (fun q => c2 (by rw [q]; rfl))]
      (repeat (first | refine ax_st rfl ?_ | (apply ev_get rfl; assumption; rfl))); try dsimp only
      exact ax_rt rfl
    · rw [if_pos ((nI_eq (b := 33) (by omega) (by decide)).mp (Decidable.not_not.mp c2))]
      (repeat (first | refine ax_st rfl ?_ | (apply ev_get rfl; assumption; rfl))); try dsimp only
      exact ax_rt rfl
theorem m1lt : ¬ (1 : Int32) ≤ -1 := by decide
theorem m_partner {r p : Nat} {T : List Nat} (m : mo h n0 pcs th ms true mv) (A : MA h F) (S : mS F r T) (hr : r < 4) (hp : p < 2 ^ 29) (hF : F 70 r = nI p) (ok : okAt T p) : mt (d + 2) 104 [.inr (some 59), .inl (nI r)] h (some (.inl (pot T p))) h := by
  have m0 := m
  unfold mo at m
  have h70 := A.a70
  have l1 := lt_of_all S.2.2.1 p
  have hple : pac T p ≤ 2 := by unfold pac; repeat' split
                                all_goals omega
  (repeat (first | refine ax_st rfl ?_ | (apply ev_get rfl; assumption; rfl))); try dsimp only
  refine ev_callV rfl m ⟨rfl, rfl, Nat.le_of_ble_eq_true rfl, Nat.le_of_ble_eq_true rfl⟩ (m_act m0 A S hr hp hF ok) ?_
  refine ax_st rfl ?_
  refine ax_st rfl ?_
  dsimp only
  by_cases h0 : pac T p = 0
  · refine ev_f (fun q => absurd ((nI_leI (a := 1) (by decide) (by omega)).mp q) (by omega)) ?_
    have hr : ¬ isR (T.getD p 0) = true := by
      intro q
      unfold pac at h0
      rw [if_pos q] at h0
      split at h0 <;> omega
    unfold pot
    rw [if_neg hr]
    (repeat (first | refine ax_st rfl ?_ | (apply ev_get rfl; assumption; rfl))); try dsimp only
    exact ax_rt rfl
  · obtain ⟨hR, hp4, hpo⟩ := pac_R h0
    have hb := isR_b hR
    refine ev_t ((nI_leI (a := 1) (by decide) (by omega)).mpr (by omega)) ?_
    (repeat (first | refine ax_st rfl ?_ | (apply ev_get rfl; assumption; rfl))); try dsimp only
    refine ev_ald rfl h70 ?_ ?_; exact in_nI (by omega) (by decide)
    rw [nI_clamp (by omega), hF]
    refine ev_callV rfl m ⟨rfl, rfl, Nat.le_of_ble_eq_true rfl, Nat.le_of_ble_eq_true rfl⟩ (m_sign m0 A S hr (by omega)) ?_
    (repeat (first | refine ax_st rfl ?_ | (apply ev_get rfl; assumption; rfl))); try dsimp only
    rw [show nI (T.getD p 0) - 65 = nI (T.getD p 0 - 65) from pk_sub (a := T.getD p 0) (b := 65) (by omega), hpo]
    exact ax_rt rfl
theorem m_partnerN {x : Int32} (m : mo h n0 pcs th ms ru mv) (hq : ru = false ∨ isN x = false) : mt (d + 2) 104 [.inr (some 59), .inl x] h (some (.inl (-1))) h := by
  have m0 := m
  unfold mo at m
  (repeat (first | refine ax_st rfl ?_ | (apply ev_get rfl; assumption; rfl))); try dsimp only
  refine ev_callV rfl m ⟨rfl, rfl, Nat.le_of_ble_eq_true rfl, Nat.le_of_ble_eq_true rfl⟩ (m_actN m0 hq) ?_
  (repeat (first | refine ax_st rfl ?_ | (apply ev_get rfl; assumption; rfl))); try dsimp only
  exact ax_rt rfl
theorem mb_loop {r : Nat} {T : List Nat} {x : Int32} (m : mo h n0 pcs th ms ru mv) (A : MA h F) (S : mS F r T) (hr : r < 4) : ∀ (n k : Nat) (q : Int32) (w : Option ax_V), T.length - k = n → k < 2 ^ 29 →
    Ev (d + 1) 105 16 [some (.inr (some 59)), some (.inl (nI r)), some (.inl x), some (.inl q), some (.inl (nI k)), w] [] h (some (.inl (bls T x n k q))) h := by
  have m0 := m
  unfold mo at m
  have h69 := A.a69
  have S0 := S
  obtain ⟨s1, s2, s3, s4⟩ := S
  intro n
  induction n with
  | zero =>
    intro k q w hn hk
    (repeat (first | refine ax_st rfl ?_ | (apply ev_get rfl; assumption; rfl))); try dsimp only
    refine ev_ald rfl h69 ?_ ?_; exact in_nI (by omega) (by decide)
    rw [nI_clamp (by omega), s1]
    (repeat (first | refine ax_st rfl ?_ | (apply ev_get rfl; assumption; rfl))); try dsimp only
    refine ev_t ((nI_leI (by omega) (by omega)).mpr (by omega)) ?_
    (repeat (first | refine ax_st rfl ?_ | (apply ev_get rfl; assumption; rfl))); try dsimp only
    exact ax_rt rfl
  | succ n ih =>
    intro k q w hn hk
    have hc1 := lt_of_all s3 k
    have hc2 := lt_of_all s3 (k + 1)
    (repeat (first | refine ax_st rfl ?_ | (apply ev_get rfl; assumption; rfl))); try dsimp only
    refine ev_ald rfl h69 ?_ ?_; exact in_nI (by omega) (by decide)
    rw [nI_clamp (by omega), s1]
    (repeat (first | refine ax_st rfl ?_ | (apply ev_get rfl; assumption; rfl))); try dsimp only
    refine ev_f (fun z => absurd ((nI_leI (by omega) (by omega)).mp z) (by omega)) ?_
    (repeat (first | refine ax_st rfl ?_ | (apply ev_get rfl; assumption; rfl))); try dsimp only
    refine ev_callV rfl m ⟨rfl, rfl, Nat.le_of_ble_eq_true rfl, Nat.le_of_ble_eq_true rfl⟩ (m_sign m0 A S0 hr (by omega)) ?_
    (repeat (first | refine ax_st rfl ?_ | (apply ev_get rfl; assumption; rfl))); try dsimp only
    have e1 := fun q' => ih (k + 1) q' (some (.inl (nI (T.getD k 0)))) (by omega) (by omega)
    simp only [← nI_1 k] at e1
    have n123 : ¬ T.getD k 0 = 123 → ¬ nI (T.getD k 0) = 123 := fun u z => u ((nI_eq (b := 123) (by omega) (by decide)).mp z)
    have n44 : ¬ T.getD k 0 = 44 → ¬ nI (T.getD k 0) = 44 := fun u z => u ((nI_eq (b := 44) (by omega) (by decide)).mp z)
    have n125 : ¬ T.getD k 0 = 125 → ¬ nI (T.getD k 0) = 125 := fun u z => u ((nI_eq (b := 125) (by omega) (by decide)).mp z)
    have fin : ∀ u, bdp (T.getD k 0) q = u → Ev (d + 1) 105 43 [some (.inr (some 59)), some (.inl (nI r)), some (.inl x), some (.inl u), some (.inl (nI k)), some (.inl (nI (T.getD k 0)))] [] h (some (.inl (bls T x (n + 1) k q))) h := by
      intro u hu
      have ee := e1 u
      (repeat (first | refine ax_st rfl ?_ | (apply ev_get rfl; assumption; rfl))); try dsimp only
      refine ev_if (fun c0 => ?_) (fun c0 => ?_)
      · (repeat (first | refine ax_st rfl ?_ | (apply ev_get rfl; assumption; rfl))); try dsimp only
        refine ev_if (fun c1 => ?_) (fun c1 => ?_)
        · rw [bls_n hu c0 (fun z => c1 z.1)]
          repeat (first | (exact ee) | refine ax_st rfl ?_ | (apply ev_get rfl; assumption; rfl))
        · have c1 := Decidable.not_not.mp c1
          (repeat (first | refine ax_st rfl ?_ | (apply ev_get rfl; assumption; rfl))); try dsimp only
          have tail : (T.getD k 0 = 123 ∨ T.getD k 0 = 44) → Ev (d + 1) 105 56 [some (.inr (some 59)), some (.inl (nI r)), some (.inl x), some (.inl u), some (.inl (nI k)), some (.inl (nI (T.getD k 0)))] [] h (some (.inl (bls T x (n + 1) k q))) h := by
            intro hor
            (repeat (first | refine ax_st rfl ?_ | (apply ev_get rfl; assumption; rfl))); try dsimp only
            rw [nI_1 k]
            refine ev_callV rfl m ⟨rfl, rfl, Nat.le_of_ble_eq_true rfl, Nat.le_of_ble_eq_true rfl⟩ (m_sign m0 A S0 hr (by omega)) ?_
            (repeat (first | refine ax_st rfl ?_ | (apply ev_get rfl; assumption; rfl))); try dsimp only
            refine ev_if (fun c2 => ?_) (fun c2 => ?_)
            · rw [bls_n hu c0 (fun z => c2 z.2.2)]
              repeat (first | (exact ee) | refine ax_st rfl ?_ | (apply ev_get rfl; assumption; rfl))
            · rw [bls_h (hu.trans c1) hor (Decidable.not_not.mp c2)]
              (repeat (first | refine ax_st rfl ?_ | (apply ev_get rfl; assumption; rfl))); try dsimp only
              rw [show nI k + 3 = nI (k + 3) from nI_add k 3]
              exact ax_rt rfl
          by_cases h1 : T.getD k 0 = 123
          · refine ev_t (by rw [h1]; rfl) ?_
            exact tail (Or.inl h1)
          · refine ev_f (n123 h1) ?_
            (repeat (first | refine ax_st rfl ?_ | (apply ev_get rfl; assumption; rfl))); try dsimp only
            by_cases h2 : T.getD k 0 = 44
            · refine ev_f (fun z => z (by rw [h2]; rfl)) ?_
              exact tail (Or.inr h2)
            · refine ev_t (n44 h2) ?_
              rw [bls_n hu c0 (fun z => z.2.1.elim h1 h2)]
              repeat (first | (exact ee) | refine ax_st rfl ?_ | (apply ev_get rfl; assumption; rfl))
      · rw [bls_z hu (Decidable.not_not.mp c0)]
        (repeat (first | refine ax_st rfl ?_ | (apply ev_get rfl; assumption; rfl))); try dsimp only
        exact ax_rt rfl
    by_cases h1 : T.getD k 0 = 123
    · have f1 := fin (q + 1) (by rw [h1]; rfl)
      refine ev_f (fun z => z (by rw [h1]; rfl)) ?_
      repeat (first | (exact f1) | refine ax_st rfl ?_ | (apply ev_get rfl; assumption; rfl))
    · refine ev_t (n123 h1) ?_
      (repeat (first | refine ax_st rfl ?_ | (apply ev_get rfl; assumption; rfl))); try dsimp only
      by_cases h2 : T.getD k 0 = 125
      · have f1 := fin (q + (-1)) (by rw [h2]; rfl)
        refine ev_f (fun z => z (by rw [h2]; rfl)) ?_
        rw [← Int32.sub_eq_add_neg] at f1
        repeat (first | (exact f1) | refine ax_st rfl ?_ | (apply ev_get rfl; assumption; rfl))
      · have f1 := fin q (by unfold bdp; rw [if_neg h1, if_neg h2])
        refine ev_t (n125 h2) ?_
        repeat (first | (exact f1) | refine ax_st rfl ?_ | (apply ev_get rfl; assumption; rfl))
/-- branchOf: with the label's bounds left to offers -/
def pbr (T : List Nat) (p : Nat) (x : Int32) : Int32 := if pac T p = 0 then -1 else bls T x (T.length - (p + 2)) (p + 2) 0
theorem pbr_pbl {T : List Nat} {p : Nat} {x : Int32} (hx : isB x = true) : pbr T p x = pbl T p x := by
  unfold pbr pbl
  by_cases h : pac T p = 0
  · rw [if_pos h, if_neg (fun z => z.2 h)]
  · rw [if_neg h, if_pos ⟨hx, h⟩]
theorem m_branch {r p : Nat} {T : List Nat} (x : Int32) (m : mo h n0 pcs th ms true mv) (A : MA h F) (S : mS F r T) (hr : r < 4) (hp : p < 2 ^ 28) (hF : F 70 r = nI p) (ok : okAt T p) : mt (d + 2) 105 [.inr (some 59), .inl (nI r), .inl x] h (some (.inl (pbr T p x))) h := by
  have m0 := m
  unfold mo at m
  have h70 := A.a70
  have hple : pac T p ≤ 2 := by unfold pac; repeat' split
                                all_goals omega
  unfold pbr
  (repeat (first | refine ax_st rfl ?_ | (apply ev_get rfl; assumption; rfl))); try dsimp only
  refine ev_callV rfl m ⟨rfl, rfl, Nat.le_of_ble_eq_true rfl, Nat.le_of_ble_eq_true rfl⟩ (m_act m0 A S hr (by omega) hF ok) ?_
  refine ax_st rfl ?_
  refine ax_st rfl ?_
  dsimp only
  by_cases h0 : pac T p = 0
  · rw [if_pos h0]
    refine ev_f (fun q => absurd ((nI_leI (a := 1) (by decide) (by omega)).mp q) (by omega)) ?_
    (repeat (first | refine ax_st rfl ?_ | (apply ev_get rfl; assumption; rfl))); try dsimp only
    exact ax_rt rfl
  · rw [if_neg h0]
    refine ev_t ((nI_leI (a := 1) (by decide) (by omega)).mpr (by omega)) ?_
    have e1 := mb_loop (d := d + 1) (x := x) m0 A S hr (T.length - (p + 2)) (p + 2) 0 none rfl (by omega)
    rw [← nI_add p 2] at e1
    (repeat (first | refine ax_st rfl ?_ | (apply ev_get rfl; assumption; rfl))); try dsimp only
    refine ev_ald rfl h70 ?_ ?_; exact in_nI (by omega) (by decide)
    rw [nI_clamp (by omega), hF]
    repeat (first | (exact e1) | refine ax_st rfl ?_ | (apply ev_get rfl; assumption; rfl))
theorem m_offers {r p : Nat} {T : List Nat} (x : Int32) (m : mo h n0 pcs th ms true mv) (A : MA h F) (S : mS F r T) (hr : r < 4) (hp : p < 2 ^ 28) (hF : F 70 r = nI p) (ok : okAt T p) : mt (d + 3) 106 [.inr (some 59), .inl (nI r), .inl x] h (some (.inl (bi (decide (pbl T p x ≠ -1))))) h := by
  have m0 := m
  unfold mo at m
  (repeat (first | refine ax_st rfl ?_ | (apply ev_get rfl; assumption; rfl))); try dsimp only
  refine ev_if (fun c1 => ?_) (fun c1 => ?_)
  · rw [decide_eq_false (fun z => z (by unfold pbl; rw [if_neg (fun w => (of_decide_eq_true w.1).1 c1)]))]
    (repeat (first | refine ax_st rfl ?_ | (apply ev_get rfl; assumption; rfl))); try dsimp only
    exact ax_rt rfl
  · obtain ⟨n, hn, rfl⟩ := nI_of c1
    (repeat (first | refine ax_st rfl ?_ | (apply ev_get rfl; assumption; rfl))); try dsimp only
    refine ev_if (fun c2 => ?_) (fun c2 => ?_)
    · have c2 := (nI_ltI (a := 5) (by decide) hn).mp c2
      rw [decide_eq_false (fun z => z (by unfold pbl; rw [if_neg (fun w => (of_decide_eq_true w.1).2 ((nI_leI (a := 6) (by decide) hn).mpr (by omega)))]))]
      (repeat (first | refine ax_st rfl ?_ | (apply ev_get rfl; assumption; rfl))); try dsimp only
      exact ax_rt rfl
    · have c2 : ¬ 5 < n := fun q => c2 ((nI_ltI (a := 5) (by decide) hn).mpr q)
      have hB : isB (nI n) = true := decide_eq_true ⟨c1, fun q => absurd ((nI_leI (a := 6) (by decide) hn).mp q) (by omega)⟩
      (repeat (first | refine ax_st rfl ?_ | (apply ev_get rfl; assumption; rfl))); try dsimp only
      refine ev_callV rfl m ⟨rfl, rfl, Nat.le_of_ble_eq_true rfl, Nat.le_of_ble_eq_true rfl⟩ (m_branch (nI n) m0 A S hr hp hF ok) ?_
      rw [pbr_pbl hB]
      refine ax_st rfl ?_
      dsimp only
      have sl := S.2.1
      rcases pbl_nI T p (nI n) with h3 | ⟨q, h3, hq3⟩
      · rw [h3, show decide ((-1 : Int32) ≠ -1) = false from rfl]
        (repeat (first | refine ax_st rfl ?_ | (apply ev_get rfl; assumption; rfl))); try dsimp only
        exact ax_rt rfl
      · rw [h3, decide_eq_true (nI_m1 (by omega))]
        refine ev_f (nI_pos (by omega)) ?_
        (repeat (first | refine ax_st rfl ?_ | (apply ev_get rfl; assumption; rfl))); try dsimp only
        exact ax_rt rfl
theorem m_offersN {x l : Int32} (m : mo h n0 pcs th ms ru mv) (hq : ru = false ∨ isN x = false) : mt (d + 3) 106 [.inr (some 59), .inl x, .inl l] h (some (.inl 0)) h := by
  have m0 := m
  unfold mo at m
  have e1 : mt (d + 2) 105 [.inr (some 59), .inl x, .inl l] h (some (.inl (-1))) h := by
    (repeat (first | refine ax_st rfl ?_ | (apply ev_get rfl; assumption; rfl))); try dsimp only
    refine ev_callV rfl m ⟨rfl, rfl, Nat.le_of_ble_eq_true rfl, Nat.le_of_ble_eq_true rfl⟩ (m_actN m0 hq) ?_
    (repeat (first | refine ax_st rfl ?_ | (apply ev_get rfl; assumption; rfl))); try dsimp only
    exact ax_rt rfl
  (repeat (first | refine ax_st rfl ?_ | (apply ev_get rfl; assumption; rfl))); try dsimp only
  refine ev_if (fun c1 => ?_) (fun c1 => ?_)
  · (repeat (first | refine ax_st rfl ?_ | (apply ev_get rfl; assumption; rfl))); try dsimp only
    exact ax_rt rfl
  · (repeat (first | refine ax_st rfl ?_ | (apply ev_get rfl; assumption; rfl))); try dsimp only
    refine ev_if (fun c2 => ?_) (fun c2 => ?_)
    · (repeat (first | refine ax_st rfl ?_ | (apply ev_get rfl; assumption; rfl))); try dsimp only
      exact ax_rt rfl
    · (repeat (first | refine ax_st rfl ?_ | (apply ev_get rfl; assumption; rfl))); try dsimp only
      refine ev_callV rfl m ⟨rfl, rfl, Nat.le_of_ble_eq_true rfl, Nat.le_of_ble_eq_true rfl⟩ (e1) ?_
      (repeat (first | refine ax_st rfl ?_ | (apply ev_get rfl; assumption; rfl))); try dsimp only
      exact ax_rt rfl
end MD2
