/-! The reference: begin. -/
section MD6
variable {d : Nat} {h : ax_H} {tp : List Nat} {mc mv : Int32} {P : Nat → Option Tr} {run : Bool} {pc : Nat → Nat} {rws : Nat → List Int32} {n0 pcs ms : Int32} {th ru : Bool} {F : Nat → Nat → Int32}
theorem mb1 {res : Option ax_V} {h' : ax_H} (m : mo h n0 pcs th ms ru mv) (A : MA h F) (hP : ∀ r, r < 4 → if th = true then MP1 F r (P r) else P r = none) : ∀ n k (b : Bool), k + n = 4 → (b = true → th = true) → Ev (d + 3) 102 21 [some (.inr (some 59)), some (.inl (bi (b && allB (fSome P) n k))), some (.inl (nI 4))] [] h res h' → Ev (d + 3) 102 5 [some (.inr (some 59)), some (.inl (bi b)), some (.inl (nI k))] [] h res h' := by
  unfold mo at m
  have h69 := A.a69
  intro n
  induction n with
  | zero =>
    intro k b hk hb e
    have : k = 4 := by omega
    subst this
    rw [show (b && allB (fSome P) 0 4) = b from Bool.and_true b] at e
    repeat (first | (exact e) | refine ax_st rfl ?_ | (apply ev_get rfl; assumption; rfl))
  | succ n ih =>
    intro k b hk hb e
    have e1 := fun b z => ih (k + 1) b (by omega) z
    simp only [← nI_1 k] at e1
    (repeat (first | refine ax_st rfl ?_ | (apply ev_get rfl; assumption; rfl))); try dsimp only
    refine ev_f (fun q => absurd ((nI_leI (a := 4) (by decide) (by omega)).mp q) (by omega)) ?_
    cases b with
    | false =>
      rw [Bool.false_and] at e
      have e2 := e1 false (fun z => by cases z) (by rw [Bool.false_and]; exact e)
      repeat (first | (exact e2) | refine ax_st rfl ?_ | (apply ev_get rfl; assumption; rfl))
    | true =>
      have ht := hb rfl
      have hp := hP k (by omega)
      rw [if_pos ht] at hp
      rw [Bool.true_and] at e
      unfold allB at e
      (repeat (first | refine ax_st rfl ?_ | (apply ev_get rfl; assumption; rfl))); try dsimp only
      refine ev_ald rfl h69 ?_ ?_; exact in_nI (by omega) (by decide)
      rw [nI_clamp (by omega)]
      cases hq : P k with
      | none =>
        rw [hq] at hp
        rw [show F 69 k = -1 from hp]
        rw [show fSome P k = false from by unfold fSome; rw [hq]; rfl, Bool.false_and] at e
        have e2 := e1 false (fun z => by cases z) (by rw [Bool.false_and]; exact e)
        repeat (first | (exact e2) | refine ax_st rfl ?_ | (apply ev_get rfl; assumption; rfl))
      | some l =>
        rw [hq] at hp
        have p2 := hp.2.1
        rw [hp.1]
        rw [show fSome P k = true from by unfold fSome; rw [hq]; rfl, Bool.true_and] at e
        have e2 := e1 true (fun _ => ht) (by rw [Bool.true_and]; exact e)
        refine ax_st rfl ?_
        dsimp only
        refine ev_f (nI_pos (by omega)) ?_
        repeat (first | (exact e2) | refine ax_st rfl ?_ | (apply ev_get rfl; assumption; rfl))
def MBG (d i : Nat) (x : Int32) (h : ax_H) (Φ : ax_H → Prop) : Prop := ∃ h', Ev (d + 3) 102 i [some (.inr (some 59)), some (.inl 1), some (.inl x)] [] h (some (.inl 1)) h' ∧ Φ h' ∧ fr h h' (fun q => 59 ≤ q)
theorem mb2 (Φ : ax_H → Prop) {T : Nat → List Nat} : ∀ n r (h : ax_H) (F : Nat → Nat → Int32), r + n = 4 → mo h n0 pcs th ms ru mv → MA h F → (∀ r, r < 4 → mS F r (T r)) → (∀ (h1 : ax_H) (F1 : Nat → Nat → Int32), mo h1 n0 pcs th ms ru mv → MA h1 F1 → (∀ q, q ≠ 70 → F1 q = F q) → (∀ s, r ≤ s → s < 4 → F1 70 s = nI (stl (T s) 100 0)) → (∀ s, s < r → F1 70 s = F 70 s) → MBG d 42 (nI 4) h1 Φ) → MBG d 33 (nI r) h Φ := by
  intro n
  induction n with
  | zero =>
    intro r h F hr m A S K
    have : r = 4 := by omega
    subst this
    obtain ⟨h', q1, q2, q3⟩ := K h F m A (fun _ _ => rfl) (fun s h1 h2 => absurd h1 (by omega)) (fun s _ => rfl)
    refine ⟨h', ?_, q2, q3⟩
    repeat (first | (exact q1) | refine ax_st rfl ?_ | (apply ev_get rfl; assumption; rfl))
  | succ n ih =>
    intro r h F hr m A S K
    obtain ⟨h1, e1, m1, A1, f1⟩ := m_settle (d := d) (p := 0) m A (S r (by omega)) (by omega) (by decide)
    unfold mo at m
    obtain ⟨h', q1, q2, q3⟩ := ih (r + 1) h1 _ (by omega) m1 A1 (fun s hs => (S s hs).c (va_up_ne _ _ (by decide)) (va_up_ne _ _ (by decide))) (fun h2 F2 b0 b1 b2 b3 b4 => K h2 F2 b0 b1 (fun q hq => by rw [b2 q hq, va_up_ne _ _ hq]) (fun s u v => by
        by_cases hs : s = r
        · rw [hs, b4 r (by omega), va_up_self]
          unfold upd
          rw [if_pos rfl]
        · exact b3 s (by omega) v) (fun s u => by
        rw [b4 s (by omega), va_up_self]
        unfold upd
        rw [if_neg (by omega)]))
    refine ⟨h', ?_, q2, (f1.wk (fun q z => by omega)).tr q3⟩
    rw [← nI_1 r] at q1
    (repeat (first | refine ax_st rfl ?_ | (apply ev_get rfl; assumption; rfl))); try dsimp only
    refine ev_f (fun q => absurd ((nI_leI (a := 4) (by decide) (by omega)).mp q) (by omega)) ?_
    (repeat (first | refine ax_st rfl ?_ | (apply ev_get rfl; assumption; rfl))); try dsimp only
    refine ev_callU rfl m ⟨rfl, rfl, Nat.le_of_ble_eq_true rfl, Nat.le_of_ble_eq_true rfl⟩ (e1) ?_
    repeat (first | (exact q1) | refine ax_st rfl ?_ | (apply ev_get rfl; assumption; rfl))
theorem mb3 (Φ : ax_H → Prop) : ∀ n r (h : ax_H) (F : Nat → Nat → Int32), r + n = 16 → mo h n0 pcs th ms ru mv → MA h F → (∀ (h1 : ax_H) (F1 : Nat → Nat → Int32), mo h1 n0 pcs th ms ru mv → MA h1 F1 → (∀ q, q ≠ 72 → F1 q = F q) → (∀ s, r ≤ s → s < 16 → F1 72 s = 0) → (∀ s, s < r → F1 72 s = F 72 s) → MBG d 54 (nI 16) h1 Φ) → MBG d 44 (nI r) h Φ := by
  intro n
  induction n with
  | zero =>
    intro r h F hr m A K
    have : r = 16 := by omega
    subst this
    obtain ⟨h', q1, q2, q3⟩ := K h F m A (fun _ _ => rfl) (fun s h1 h2 => absurd h1 (by omega)) (fun s _ => rfl)
    refine ⟨h', ?_, q2, q3⟩
    repeat (first | (exact q1) | refine ax_st rfl ?_ | (apply ev_get rfl; assumption; rfl))
  | succ n ih =>
    intro r h F hr m A K
    have h72 := A.a72
    have A1 := A.s72 (upd (F 72) r 0)
    have m1 := m.s 72 (by decide) (.inl (0, 16, .inl (upd (F 72) r 0)))
    unfold mo at m
    obtain ⟨h', q1, q2, q3⟩ := ih (r + 1) _ _ (by omega) m1 A1 (fun h2 F2 b0 b1 b2 b3 b4 => K h2 F2 b0 b1 (fun q hq => by rw [b2 q hq, va_up_ne _ _ hq]) (fun s u v => by
        by_cases hs : s = r
        · rw [hs, b4 r (by omega), va_up_self]
          unfold upd
          rw [if_pos rfl]
        · exact b3 s (by omega) v) (fun s u => by
        rw [b4 s (by omega), va_up_self]
        unfold upd
        rw [if_neg (by omega)]))
    refine ⟨h', ?_, q2, fr.tr (A := fun q => 59 ≤ q) (fr.st (by decide)) q3⟩
    rw [← nI_1 r] at q1
    (repeat (first | refine ax_st rfl ?_ | (apply ev_get rfl; assumption; rfl))); try dsimp only
    refine ev_f (fun q => absurd ((nI_leI (a := 16) (by decide) (by omega)).mp q) (by omega)) ?_
    (repeat (first | refine ax_st rfl ?_ | (apply ev_get rfl; assumption; rfl))); try dsimp only
    refine ev_ast rfl h72 ?_ ?_; exact in_nI (by omega) (by decide)
    rw [if_neg (by decide), nI_clamp (by omega)]
    repeat (first | (exact q1) | refine ax_st rfl ?_ | (apply ev_get rfl; assumption; rfl))
theorem m_begin (R : RM h tp mc P run pc rws mv) : ∃ h', mt (d + 3) 102 [.inr (some 59)] h (some (.inl (bi (allB (fSome P) 4 0)))) h' ∧ RM h' tp mc P (if allB (fSome P) 4 0 = true then true else run) (if allB (fSome P) 4 0 = true then (fun r => stl (ptx P r) 100 0) else pc) (if allB (fSome P) 4 0 = true then (fun _ => []) else rws) (if allB (fSome P) 4 0 = true then 0 else mv) ∧ fr h h' (fun q => 59 ≤ q) := by
  have R0 := R
  obtain ⟨pcs, ms, th, F, m, A, t, hmc, hP, hpc, hW⟩ := R
  have m0 := m
  unfold mo at m
  have pre : ∀ {res : Option ax_V} {h' : ax_H}, Ev (d + 3) 102 21 [some (.inr (some 59)), some (.inl (bi (allB (fSome P) 4 0))), some (.inl (nI 4))] [] h res h' → mt (d + 3) 102 [.inr (some 59)] h res h' := by
    intro res h' e
    have e1 := mb1 (d := d) (P := P) (res := res) (h' := h') m0 A hP 4 0 th rfl (fun z => z) (by
      cases th with
      | true => rw [Bool.true_and]; exact e
      | false =>
        have p0 := hP 0 (by decide)
        rw [if_neg (by decide)] at p0
        have : allB (fSome P) 4 0 = false := by
          unfold allB
          rw [show fSome P 0 = false from by unfold fSome; rw [p0]; rfl, Bool.false_and]
        rw [this] at e
        rw [Bool.false_and]
        exact e)
    repeat (first | (exact e1) | refine ax_st rfl ?_ | (apply ev_get rfl; assumption; rfl))
  cases hA : allB (fSome P) 4 0 with
  | false =>
    refine ⟨h, pre ?_, R0, fr.rf⟩
    rw [hA]
    (repeat (first | refine ax_st rfl ?_ | (apply ev_get rfl; assumption; rfl))); try dsimp only
    exact ax_rt rfl
  | true =>
    have I : ∀ r, r < 4 → ∃ l, P r = some l := fun r hr => Option.isSome_iff_exists.mp (allB_t 4 0 hA r (Nat.zero_le _) (by omega))
    rw [if_pos rfl, if_pos rfl, if_pos rfl, if_pos rfl]
    have hth : th = true := by
      cases th with
      | true => rfl
      | false =>
        obtain ⟨l, hl⟩ := I 0 (by decide)
        have := hP 0 (by decide)
        rw [if_neg (by decide), hl] at this
        cases this
    subst hth
    have m1 := m0.o (nI tp.length) pcs true ms true mv
    have A1 := A.o (moC (nI tp.length) pcs true ms true mv)
    have m2 := m1.o (nI tp.length) pcs true ms true 0
    have A2 := A1.o (moC (nI tp.length) pcs true ms true 0)
    have S : ∀ r, r < 4 → mS F r (ptx P r) := fun r hr => by
      obtain ⟨l, hl⟩ := I r hr
      have hp := hP r hr
      rw [if_pos rfl, hl] at hp
      unfold ptx
      rw [hl]
      exact hp
    obtain ⟨h', q1, q2, q3⟩ := mb2 (d := d) (T := ptx P) (fun h' => RM h' tp mc P true (fun r => stl (ptx P r) 100 0) (fun _ => []) 0) 4 0 _ F rfl m2 A2 S (fun h3 F3 m3 A3 b1 b2 b3 => by
      have k3 : MBG d 44 (nI 0) h3 (fun h' => RM h' tp mc P true (fun r => stl (ptx P r) 100 0) (fun _ => []) 0) := mb3 _ 16 0 h3 F3 rfl m3 A3 (fun h4 F4 m4 A4 c1 c2 c3 => by
        refine ⟨h4, ?_, ⟨pcs, ms, true, F4, m4, A4, t.c (by rw [c1 _ (by decide), b1 _ (by decide)]), hmc, fun r hr => ?_, fun r hr => ?_, fun k hk => ⟨c2 k (Nat.zero_le _) hk, by simp, fun i hi => absurd hi (by simp)⟩⟩, fr.rf⟩
        · (repeat (first | refine ax_st rfl ?_ | (apply ev_get rfl; assumption; rfl))); try dsimp only
          exact ax_rt rfl
        · rw [if_pos rfl]
          have hp := hP r hr
          rw [if_pos rfl] at hp
          exact hp.c (by rw [c1 _ (by decide), b1 _ (by decide)]) (by rw [c1 _ (by decide), b1 _ (by decide)])
        · rw [c1 _ (by decide)]
          exact b2 r (Nat.zero_le _) hr)
      obtain ⟨h', q1, q2, q3⟩ := k3
      refine ⟨h', ?_, q2, q3⟩
      repeat (first | (exact q1) | refine ax_st rfl ?_ | (apply ev_get rfl; assumption; rfl))
      )
    refine ⟨h', pre ?_, q2, fr.tr (A := fun q => 59 ≤ q) (fr.tr (A := fun q => 59 ≤ q) (fr.st (by decide)) (fr.st (by decide))) q3⟩
    rw [hA]
    unfold mo at m1
    (repeat (first | refine ax_st rfl ?_ | (apply ev_get rfl; assumption; rfl))); try dsimp only
    refine ev_put rfl m ?_ ?_ ?_; exact Nat.le_of_ble_eq_true rfl; rfl
    (repeat (first | refine ax_st rfl ?_ | (apply ev_get rfl; assumption; rfl))); try dsimp only
    refine ev_put rfl m1 ?_ ?_ ?_; exact Nat.le_of_ble_eq_true rfl; rfl
    repeat (first | (exact q1) | refine ax_st rfl ?_ | (apply ev_get rfl; assumption; rfl))
end MD6
