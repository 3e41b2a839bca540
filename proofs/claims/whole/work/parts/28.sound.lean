/-! RoleParts.Soundness (at 5, 6, 7), over the typed text (at 2, 3). -/
def sn (h : ax_H) (n : Nat) (lo : Int32) (f g : Nat → Int32) : Prop := ob h 5 4 [.inr (some 6), .inr (some 7), .inl (nI n), .inl lo] ∧ ar h 6 0 60 f ∧ ar h 7 0 60 g
def sA (q : Nat) : Prop := q = 5 ∨ q = 6 ∨ q = 7
theorem sn.o1 {h : ax_H} {n : Nat} {lo : Int32} {f g : Nat → Int32} (a : sn h n lo f g) (n' : Nat) (lo' : Int32) : sn (ax_set h 5 (.inr (4, [.inr (some 6), .inr (some 7), .inl (nI n'), .inl lo']))) n' lo' f g := ⟨a.1.st _ _, a.2.1.ne _ (by decide), a.2.2.ne _ (by decide)⟩
theorem sn.o2 {h : ax_H} {n : Nat} {lo : Int32} {f g : Nat → Int32} (a : sn h n lo f g) (f' : Nat → Int32) : sn (ax_set h 6 (.inl (0, 60, .inl f'))) n lo f' g := ⟨a.1.ne _ (by decide), a.2.1.st _, a.2.2.ne _ (by decide)⟩
theorem sn.o3 {h : ax_H} {n : Nat} {lo : Int32} {f g : Nat → Int32} (a : sn h n lo f g) (g' : Nat → Int32) : sn (ax_set h 7 (.inl (0, 60, .inl g'))) n lo f g' := ⟨a.1.ne _ (by decide), a.2.1.ne _ (by decide), a.2.2.st _⟩
theorem s_in {d n : Nat} {h : ax_H} {lo : Int32} {f g : Nat → Int32} (a : sn h n lo f g) (hn : n < 60) : mt d 36 [.inr (some 5)] h (some (.inl 1)) h := by
  obtain ⟨ho, -⟩ := a
  (repeat (first | refine ax_st rfl ?_ | (apply ev_get rfl; assumption; rfl))); try dsimp only
  refine ev_f (nI_pos (by omega)) ?_
  (repeat (first | refine ax_st rfl ?_ | (apply ev_get rfl; assumption; rfl))); try dsimp only
  refine ev_f (fun r => absurd ((nI_leI (a := 60) (by decide) (by omega)).mp r) (by omega)) ?_
  (repeat (first | refine ax_st rfl ?_ | (apply ev_get rfl; assumption; rfl))); try dsimp only
  exact ax_rt rfl
theorem s_loop {d n m v : Nat} {h : ax_H} {f g : Nat → Int32} (a : sn h n (nI m) f g) (hm : m < 8) (hv : isV v = true) : ∃ h', mt d 32 [.inr (some 5), .inl (nI v)] h (some (.inl (bi (!m.testBit (v - 88))))) h' ∧ fr h h' sA ∧ (m.testBit (v - 88) = false → sn h' n (nI (m ||| 2 ^ (v - 88))) f g) ∧ ∃ lo', sn h' n lo' f g := by
  have hb := isV_b hv
  have ho := a.1
  have e1 := bit_sh (v - 88) (by omega)
  by_cases ht : m.testBit (v - 88) = true
  · refine ⟨h, ?_, fr.rf, fun q => absurd (q.symm.trans ht) (by decide), _, a⟩
    rw [ht]
    (repeat (first | refine ax_st rfl ?_ | (apply ev_get rfl; assumption; rfl))); try dsimp only
    rw [V_sub hv, e1]
    refine ev_f (fun q => absurd (((bit_and m (by omega) (v - 88) (by omega)).mp q).symm.trans ht) (by decide)) ?_
    (repeat (first | refine ax_st rfl ?_ | (apply ev_get rfl; assumption; rfl))); try dsimp only
    exact ax_rt rfl
  · have ht : m.testBit (v - 88) = false := by simpa using ht
    refine ⟨_, ?_, fr.st (Or.inl rfl), fun _ => a.o1 n (nI (m ||| 2 ^ (v - 88))), _, a.o1 n (nI (m ||| 2 ^ (v - 88)))⟩
    rw [ht]
    (repeat (first | refine ax_st rfl ?_ | (apply ev_get rfl; assumption; rfl))); try dsimp only
    rw [V_sub hv, e1]
    refine ev_t ((bit_and m (by omega) (v - 88) (by omega)).mpr ht) ?_
    (repeat (first | refine ax_st rfl ?_ | (apply ev_get rfl; assumption; rfl))); try dsimp only
    refine ev_put rfl ho ?_ ?_ ?_; exact Nat.le_of_ble_eq_true rfl; rfl
    rw [bit_or m (by omega) (v - 88) (by omega)]
    (repeat (first | refine ax_st rfl ?_ | (apply ev_get rfl; assumption; rfl))); try dsimp only
    exact ax_rt rfl
theorem s_msg {d n : Nat} {h : ax_H} {lo : Int32} {f g : Nat → Int32} (a : sn h n lo f g) (hn : n + 1 < 60) : ∃ h', mt (d + 1) 33 [.inr (some 5)] h (some (.inl 1)) h' ∧ fr h h' sA ∧ sn h' (n + 1) lo (upd f (n + 1) lo) (upd g (n + 1) 0) := by
  have ho := a.1
  have a1 := a.o1 (n + 1) lo
  have a2 := a1.o2 (upd f (n + 1) lo)
  have a3 := a2.o3 (upd g (n + 1) 0)
  refine ⟨_, ?_, fr.tr (A := sA) (fr.tr (A := sA) (fr.st (Or.inl rfl)) (fr.st (Or.inr (Or.inl rfl)))) (fr.st (Or.inr (Or.inr rfl))), a3⟩
  (repeat (first | refine ax_st rfl ?_ | (apply ev_get rfl; assumption; rfl))); try dsimp only
  refine ev_put rfl ho ?_ ?_ ?_; exact Nat.le_of_ble_eq_true rfl; rfl
  rw [nI_1 n]
  have h1 := a1.1
  have h2 := a1.2.1
  have h3 := a2.1
  have h4 := a2.2.2
  (repeat (first | refine ax_st rfl ?_ | (apply ev_get rfl; assumption; rfl))); try dsimp only
  refine ev_callV rfl h1 ⟨rfl, rfl, Nat.le_of_ble_eq_true rfl, Nat.le_of_ble_eq_true rfl⟩ (s_in a1 hn) ?_
  (repeat (first | refine ax_st rfl ?_ | (apply ev_get rfl; assumption; rfl))); try dsimp only
  refine ev_ast rfl h2 ?_ ?_; exact in_nI (by omega) (by decide)
  rw [if_neg (by decide), nI_clamp (by omega)]
  (repeat (first | refine ax_st rfl ?_ | (apply ev_get rfl; assumption; rfl))); try dsimp only
  refine ev_ast rfl h4 ?_ ?_; exact in_nI (by omega) (by decide)
  rw [if_neg (by decide), nI_clamp (by omega)]
  (repeat (first | refine ax_st rfl ?_ | (apply ev_get rfl; assumption; rfl))); try dsimp only
  exact ax_rt rfl
theorem s_br {d n m p : Nat} {h : ax_H} {lo : Int32} {f g : Nat → Int32} (a : sn h n lo f g) (hn : n < 60) (hm : m < 64) (hg : g n = nI m) (hp : isL p = true) : ∃ h', mt (d + 1) 34 [.inr (some 5), .inl (nI p)] h (some (.inl (bi (!m.testBit (p - 112))))) h' ∧ fr h h' sA ∧ (m.testBit (p - 112) = false → sn h' n (f n) f (upd g n (nI (m ||| 2 ^ (p - 112))))) ∧ ∃ lo' g', sn h' n lo' f g' := by
  have hb := isL_b hp
  have ho := a.1
  have hb6 := a.2.1
  have hb7 := a.2.2
  have e1 := bit_sh (p - 112) (by omega)
  by_cases ht : m.testBit (p - 112) = true
  · refine ⟨h, ?_, fr.rf, fun q => absurd (q.symm.trans ht) (by decide), _, _, a⟩
    rw [ht]
    (repeat (first | refine ax_st rfl ?_ | (apply ev_get rfl; assumption; rfl))); try dsimp only
    rw [L_sub hp, e1]
    refine ev_callV rfl ho ⟨rfl, rfl, Nat.le_of_ble_eq_true rfl, Nat.le_of_ble_eq_true rfl⟩ (s_in a hn) ?_
    (repeat (first | refine ax_st rfl ?_ | (apply ev_get rfl; assumption; rfl))); try dsimp only
    refine ev_ald rfl hb7 ?_ ?_; exact in_nI (by omega) (by decide)
    rw [nI_clamp (by omega), hg]
    (repeat (first | refine ax_st rfl ?_ | (apply ev_get rfl; assumption; rfl))); try dsimp only
    refine ev_f (fun q => absurd (((bit_and m hm (p - 112) (by omega)).mp q).symm.trans ht) (by decide)) ?_
    (repeat (first | refine ax_st rfl ?_ | (apply ev_get rfl; assumption; rfl))); try dsimp only
    exact ax_rt rfl
  · have ht : m.testBit (p - 112) = false := by simpa using ht
    have a1 := a.o3 (upd g n (nI (m ||| 2 ^ (p - 112))))
    have a2 := a1.o1 n (f n)
    refine ⟨_, ?_, fr.tr (A := sA) (fr.st (Or.inr (Or.inr rfl))) (fr.st (Or.inl rfl)), fun _ => a2, _, _, a2⟩
    rw [ht]
    have h1 := a1.1
    have h2 := a1.2.1
    (repeat (first | refine ax_st rfl ?_ | (apply ev_get rfl; assumption; rfl))); try dsimp only
    rw [L_sub hp, e1]
    refine ev_callV rfl ho ⟨rfl, rfl, Nat.le_of_ble_eq_true rfl, Nat.le_of_ble_eq_true rfl⟩ (s_in a hn) ?_
    (repeat (first | refine ax_st rfl ?_ | (apply ev_get rfl; assumption; rfl))); try dsimp only
    refine ev_ald rfl hb7 ?_ ?_; exact in_nI (by omega) (by decide)
    rw [nI_clamp (by omega), hg]
    (repeat (first | refine ax_st rfl ?_ | (apply ev_get rfl; assumption; rfl))); try dsimp only
    refine ev_t ((bit_and m hm (p - 112) (by omega)).mpr ht) ?_
    (repeat (first | refine ax_st rfl ?_ | (apply ev_get rfl; assumption; rfl))); try dsimp only
    refine ev_ald rfl hb7 ?_ ?_; exact in_nI (by omega) (by decide)
    rw [nI_clamp (by omega), hg]
    (repeat (first | refine ax_st rfl ?_ | (apply ev_get rfl; assumption; rfl))); try dsimp only
    rw [bit_or m hm (p - 112) (by omega)]
    refine ev_ast rfl hb7 ?_ ?_; exact in_nI (by omega) (by decide)
    rw [if_neg (by decide), nI_clamp (by omega)]
    (repeat (first | refine ax_st rfl ?_ | (apply ev_get rfl; assumption; rfl))); try dsimp only
    refine ev_ald rfl h2 ?_ ?_; exact in_nI (by omega) (by decide)
    rw [nI_clamp (by omega)]
    refine ev_put rfl h1 ?_ ?_ ?_; exact Nat.le_of_ble_eq_true rfl; rfl
    (repeat (first | refine ax_st rfl ?_ | (apply ev_get rfl; assumption; rfl))); try dsimp only
    exact ax_rt rfl
theorem s_ar {d n m v : Nat} {h : ax_H} {lo : Int32} {f g : Nat → Int32} (a : sn h n lo f g) (hn : n < 60) (hm : m < 8) (hf : f n = nI m) (hv : isV v = true) : mt (d + 1) 35 [.inr (some 5), .inl (nI v)] h (some (.inl (bi (m.testBit (v - 88))))) h := by
  have hb := isV_b hv
  have ho := a.1
  have hb6 := a.2.1
  have e1 := bit_sh (v - 88) (by omega)
  (repeat (first | refine ax_st rfl ?_ | (apply ev_get rfl; assumption; rfl))); try dsimp only
  rw [V_sub hv, e1]
  refine ev_callV rfl ho ⟨rfl, rfl, Nat.le_of_ble_eq_true rfl, Nat.le_of_ble_eq_true rfl⟩ (s_in a hn) ?_
  (repeat (first | refine ax_st rfl ?_ | (apply ev_get rfl; assumption; rfl))); try dsimp only
  refine ev_ald rfl hb6 ?_ ?_; exact in_nI (by omega) (by decide)
  rw [nI_clamp (by omega), hf]
  (repeat (first | refine ax_st rfl ?_ | (apply ev_get rfl; assumption; rfl))); try dsimp only
  refine ev_if (fun c1 => ?_) (fun c1 => ?_)
  · rw [(bit_and m (by omega) (v - 88) (by omega)).mp c1]
    (repeat (first | refine ax_st rfl ?_ | (apply ev_get rfl; assumption; rfl))); try dsimp only
    exact ax_rt rfl
  · rw [show m.testBit (v - 88) = true from by
      cases hq : m.testBit (v - 88) with
      | true => rfl
      | false => exact absurd ((bit_and m (by omega) (v - 88) (by omega)).mpr hq) c1]
    (repeat (first | refine ax_st rfl ?_ | (apply ev_get rfl; assumption; rfl))); try dsimp only
    exact ax_rt rfl
/-- the character before -/
theorem tg_m1 (T : List Nat) {k : Nat} (hk : k < 2 ^ 30) : tg T (nI k - 1) = if k = 0 then 0 else T.getD (k - 1) 0 := by
  by_cases h : k = 0
  · subst h
    rfl
  · rw [if_neg h, show nI k - 1 = nI (k - 1) from pk_sub (a := k) (b := 1) (by omega), tg_nI T (by omega)]
section SAT
variable {d n k : Nat} {h : ax_H} {lo : Int32} {f g : Nat → Int32} {T : List Nat}
theorem sa_m {m : Nat} (a : sn h n (nI m) f g) (t : tx h 2 3 T) (hk : k < 60) (hm : m < 8) (hc : T.getD k 0 = 109) (hv : isV (T.getD (k + 1) 0) = true) : ∃ h', mt (d + 2) 31 [.inr (some 5), .inr (some 2), .inl (nI k)] h (some (.inl (bi (!m.testBit (T.getD (k + 1) 0 - 88))))) h' ∧ fr h h' sA ∧ (m.testBit (T.getD (k + 1) 0 - 88) = false → sn h' n (nI (m ||| 2 ^ (T.getD (k + 1) 0 - 88))) f g) ∧ ∃ lo', sn h' n lo' f g := by
  obtain ⟨h', e1, e2⟩ := s_loop (d := d + 1) a hm hv
  refine ⟨h', ?_, e2⟩
  have ho := a.1
  have hto := t.ob
  (repeat (first | refine ax_st rfl ?_ | (apply ev_get rfl; assumption; rfl))); try dsimp only
  refine ev_callV rfl hto ⟨rfl, rfl, Nat.le_of_ble_eq_true rfl, Nat.le_of_ble_eq_true rfl⟩ (tx_get t (nI k)) ?_
  rw [tg_nI T (by omega), hc]
  (repeat (first | refine ax_st rfl ?_ | (apply ev_get rfl; assumption; rfl))); try dsimp only
  rw [nI_1 k]
  refine ev_callV rfl hto ⟨rfl, rfl, Nat.le_of_ble_eq_true rfl, Nat.le_of_ble_eq_true rfl⟩ (tx_get t (nI (k + 1))) ?_
  rw [tg_nI T (by omega)]
  refine ev_callV rfl ho ⟨rfl, rfl, Nat.le_of_ble_eq_true rfl, Nat.le_of_ble_eq_true rfl⟩ (e1) ?_
  refine ax_rt ?_
  show (if ax_fit 1 (.inl (bi _)) = true then _ else _) = _
  rw [if_pos (bi_fit _)]
theorem sa_c {m : Nat} (a : sn h n lo f g) (t : tx h 2 3 T) (hk : k < 60) (hn : n < 60) (hm : m < 64) (hg : g n = nI m) (hc : T.getD k 0 = 44) (hv : isL (T.getD (k + 1) 0) = true) : ∃ h', mt (d + 2) 31 [.inr (some 5), .inr (some 2), .inl (nI k)] h (some (.inl (bi (!m.testBit (T.getD (k + 1) 0 - 112))))) h' ∧ fr h h' sA ∧ (m.testBit (T.getD (k + 1) 0 - 112) = false → sn h' n (f n) f (upd g n (nI (m ||| 2 ^ (T.getD (k + 1) 0 - 112))))) ∧ ∃ lo' g', sn h' n lo' f g' := by
  obtain ⟨h', e1, e2⟩ := s_br (d := d) a hn hm hg hv
  refine ⟨h', ?_, e2⟩
  have ho := a.1
  have hto := t.ob
  (repeat (first | refine ax_st rfl ?_ | (apply ev_get rfl; assumption; rfl))); try dsimp only
  refine ev_callV rfl hto ⟨rfl, rfl, Nat.le_of_ble_eq_true rfl, Nat.le_of_ble_eq_true rfl⟩ (tx_get t (nI k)) ?_
  rw [tg_nI T (by omega), hc]
  (repeat (first | refine ax_st rfl ?_ | (apply ev_get rfl; assumption; rfl))); try dsimp only
  rw [nI_1 k]
  refine ev_callV rfl hto ⟨rfl, rfl, Nat.le_of_ble_eq_true rfl, Nat.le_of_ble_eq_true rfl⟩ (tx_get t (nI (k + 1))) ?_
  rw [tg_nI T (by omega)]
  refine ev_callV rfl ho ⟨rfl, rfl, Nat.le_of_ble_eq_true rfl, Nat.le_of_ble_eq_true rfl⟩ (e1) ?_
  refine ax_rt ?_
  show (if ax_fit 1 (.inl (bi _)) = true then _ else _) = _
  rw [if_pos (bi_fit _)]
theorem sa_o (a : sn h n lo f g) (t : tx h 2 3 T) (hk : k < 60) (hk2 : 2 ≤ k) (hn : n + 1 < 60) (hc : T.getD k 0 = 123) (hv : isL (T.getD (k + 1) 0) = true) : ∃ h', mt (d + 3) 31 [.inr (some 5), .inr (some 2), .inl (nI k)] h (some (.inl (bi (decide (T.getD (k - 2) 0 ≠ T.getD (k - 1) 0))))) h' ∧ fr h h' sA ∧ (T.getD (k - 2) 0 ≠ T.getD (k - 1) 0 → sn h' (n + 1) lo (upd f (n + 1) lo) (upd (upd g (n + 1) 0) (n + 1) (nI (2 ^ (T.getD (k + 1) 0 - 112))))) ∧ ∃ n' lo' f' g', sn h' n' lo' f' g' := by
  have ho := a.1
  have hto := t.ob
  have l1 := t.lt (k - 1)
  have l2 := t.lt (k - 2)
  by_cases hne : T.getD (k - 2) 0 = T.getD (k - 1) 0
  · refine ⟨h, ?_, fr.rf, fun q => absurd hne q, _, _, _, _, a⟩
    rw [decide_eq_false (fun q => q hne)]
    (repeat (first | refine ax_st rfl ?_ | (apply ev_get rfl; assumption; rfl))); try dsimp only
    refine ev_callV rfl hto ⟨rfl, rfl, Nat.le_of_ble_eq_true rfl, Nat.le_of_ble_eq_true rfl⟩ (tx_get t (nI k)) ?_
    rw [tg_nI T (by omega), hc]
    (repeat (first | refine ax_st rfl ?_ | (apply ev_get rfl; assumption; rfl))); try dsimp only
    rw [show nI k - 2 = nI (k - 2) from pk_sub (a := k) (b := 2) (by omega)]
    refine ev_callV rfl hto ⟨rfl, rfl, Nat.le_of_ble_eq_true rfl, Nat.le_of_ble_eq_true rfl⟩ (tx_get t (nI (k - 2))) ?_
    rw [tg_nI T (by omega)]
    (repeat (first | refine ax_st rfl ?_ | (apply ev_get rfl; assumption; rfl))); try dsimp only
    rw [show nI k - 1 = nI (k - 1) from pk_sub (a := k) (b := 1) (by omega)]
    refine ev_callV rfl hto ⟨rfl, rfl, Nat.le_of_ble_eq_true rfl, Nat.le_of_ble_eq_true rfl⟩ (tx_get t (nI (k - 1))) ?_
    rw [tg_nI T (by omega)]
    (repeat (first | refine ax_st rfl ?_ | (apply ev_get rfl; assumption; rfl))); try dsimp only
    refine ev_t (by rw [hne]) ?_
    (repeat (first | refine ax_st rfl ?_ | (apply ev_get rfl; assumption; rfl))); try dsimp only
    exact ax_rt rfl
  · obtain ⟨h1, e1, e2, e3⟩ := s_msg (d := d + 1) a hn
    have t1 := t.fr e2 (by unfold sA; decide) (by unfold sA; decide)
    have hto1 := t1.ob
    have ho1 := e3.1
    obtain ⟨h2, e4, e5, e6, -⟩ := s_br (d := d + 1) (m := 0) e3 hn (by decide) (by unfold upd; rw [if_pos rfl]; rfl) hv
    have hz : Nat.testBit 0 (T.getD (k + 1) 0 - 112) = false := Nat.zero_testBit _
    have e7 := e6 hz
    rw [show upd f (n + 1) lo (n + 1) = lo from by unfold upd; rw [if_pos rfl], Nat.zero_or] at e7
    rw [hz] at e4
    refine ⟨h2, ?_, e2.tr e5, fun _ => e7, _, _, _, _, e7⟩
    rw [decide_eq_true hne]
    (repeat (first | refine ax_st rfl ?_ | (apply ev_get rfl; assumption; rfl))); try dsimp only
    refine ev_callV rfl hto ⟨rfl, rfl, Nat.le_of_ble_eq_true rfl, Nat.le_of_ble_eq_true rfl⟩ (tx_get t (nI k)) ?_
    rw [tg_nI T (by omega), hc]
    (repeat (first | refine ax_st rfl ?_ | (apply ev_get rfl; assumption; rfl))); try dsimp only
    rw [show nI k - 2 = nI (k - 2) from pk_sub (a := k) (b := 2) (by omega)]
    refine ev_callV rfl hto ⟨rfl, rfl, Nat.le_of_ble_eq_true rfl, Nat.le_of_ble_eq_true rfl⟩ (tx_get t (nI (k - 2))) ?_
    rw [tg_nI T (by omega)]
    (repeat (first | refine ax_st rfl ?_ | (apply ev_get rfl; assumption; rfl))); try dsimp only
    rw [show nI k - 1 = nI (k - 1) from pk_sub (a := k) (b := 1) (by omega)]
    refine ev_callV rfl hto ⟨rfl, rfl, Nat.le_of_ble_eq_true rfl, Nat.le_of_ble_eq_true rfl⟩ (tx_get t (nI (k - 1))) ?_
    rw [tg_nI T (by omega)]
    (repeat (first | refine ax_st rfl ?_ | (apply ev_get rfl; assumption; rfl))); try dsimp only
    refine ev_f (fun q => hne ((nI_eq (by omega) (by omega)).mp q)) ?_
    (repeat (first | refine ax_st rfl ?_ | (apply ev_get rfl; assumption; rfl))); try dsimp only
    refine ev_callV rfl ho ⟨rfl, rfl, Nat.le_of_ble_eq_true rfl, Nat.le_of_ble_eq_true rfl⟩ (e1) ?_
    (repeat (first | refine ax_st rfl ?_ | (apply ev_get rfl; assumption; rfl))); try dsimp only
    rw [nI_1 k]
    refine ev_callV rfl hto1 ⟨rfl, rfl, Nat.le_of_ble_eq_true rfl, Nat.le_of_ble_eq_true rfl⟩ (tx_get t1 (nI (k + 1))) ?_
    rw [tg_nI T (by omega)]
    refine ev_callV rfl ho1 ⟨rfl, rfl, Nat.le_of_ble_eq_true rfl, Nat.le_of_ble_eq_true rfl⟩ (e4) ?_
    (repeat (first | refine ax_st rfl ?_ | (apply ev_get rfl; assumption; rfl))); try dsimp only
    exact ax_rt rfl
theorem sa_e (a : sn h (n + 1) lo f g) (t : tx h 2 3 T) (hk : k < 60) (hn : n < 60) (hc : T.getD k 0 = 125) : ∃ h', mt (d + 2) 31 [.inr (some 5), .inr (some 2), .inl (nI k)] h (some (.inl 1)) h' ∧ fr h h' sA ∧ sn h' n lo f g := by
  have ho := a.1
  have hto := t.ob
  have a1 := a.o1 n lo
  have ho1 := a1.1
  refine ⟨_, ?_, fr.st (Or.inl rfl), a1⟩
  (repeat (first | refine ax_st rfl ?_ | (apply ev_get rfl; assumption; rfl))); try dsimp only
  refine ev_callV rfl hto ⟨rfl, rfl, Nat.le_of_ble_eq_true rfl, Nat.le_of_ble_eq_true rfl⟩ (tx_get t (nI k)) ?_
  rw [tg_nI T (by omega), hc]
  (repeat (first | refine ax_st rfl ?_ | (apply ev_get rfl; assumption; rfl))); try dsimp only
  refine ev_put rfl ho ?_ ?_ ?_; exact Nat.le_of_ble_eq_true rfl; rfl
  rw [nI_pred n]
  (repeat (first | refine ax_st rfl ?_ | (apply ev_get rfl; assumption; rfl))); try dsimp only
  refine ev_callV rfl ho1 ⟨rfl, rfl, Nat.le_of_ble_eq_true rfl, Nat.le_of_ble_eq_true rfl⟩ (s_in a1 hn) ?_
  exact ax_rt rfl
theorem sel_no {c : Nat} (hc : c < 65536) (h1 : c ≠ 44) (h2 : c ≠ 109) (h3 : c ≠ 123) (h4 : c ≠ 125) : ax_sel (nI c) [(44, 40), (109, 6), (123, 14), (125, 48)] 57 = 57 := by
  have := nI_toInt (n := c) (by omega)
  unfold ax_sel
  rw [this, if_neg (by omega)]
  unfold ax_sel
  rw [this, if_neg (by omega)]
  unfold ax_sel
  rw [this, if_neg (by omega)]
  unfold ax_sel
  rw [this, if_neg (by omega)]
  rfl
theorem sa_x (a : sn h n lo f g) (t : tx h 2 3 T) (hk : k < 60) (h1 : T.getD k 0 ≠ 44) (h2 : T.getD k 0 ≠ 109) (h3 : T.getD k 0 ≠ 123) (h4 : T.getD k 0 ≠ 125) (hv : isV (T.getD k 0) = false ∨ (0 < k ∧ T.getD (k - 1) 0 = 109)) : mt (d + 2) 31 [.inr (some 5), .inr (some 2), .inl (nI k)] h (some (.inl 1)) h := by
  have ho := a.1
  have hto := t.ob
  have l1 := t.lt k
  (repeat (first | refine ax_st rfl ?_ | (apply ev_get rfl; assumption; rfl))); try dsimp only
  refine ev_callV rfl hto ⟨rfl, rfl, Nat.le_of_ble_eq_true rfl, Nat.le_of_ble_eq_true rfl⟩ (tx_get t (nI k)) ?_
  rw [tg_nI T (by omega)]
  (repeat (first | refine ax_st rfl ?_ | (apply ev_get rfl; assumption; rfl))); try dsimp only
  rw [sel_no l1 h1 h2 h3 h4]
  (repeat (first | refine ax_st rfl ?_ | (apply ev_get rfl; assumption; rfl))); try dsimp only
  refine ev_callS rfl ⟨rfl, rfl, Nat.le_of_ble_eq_true rfl, Nat.le_of_ble_eq_true rfl⟩ (p_isVariable l1) ?_
  refine ax_st rfl ?_
  dsimp only
  rcases hv with hv | ⟨hk0, hv⟩
  · rw [hv]
    (repeat (first | refine ax_st rfl ?_ | (apply ev_get rfl; assumption; rfl))); try dsimp only
    exact ax_rt rfl
  · by_cases hq : isV (T.getD k 0) = true
    · rw [hq]
      (repeat (first | refine ax_st rfl ?_ | (apply ev_get rfl; assumption; rfl))); try dsimp only
      refine ev_callV rfl hto ⟨rfl, rfl, Nat.le_of_ble_eq_true rfl, Nat.le_of_ble_eq_true rfl⟩ (tx_get t (nI k - 1)) ?_
      rw [tg_m1 T (by omega), if_neg (by omega), hv]
      (repeat (first | refine ax_st rfl ?_ | (apply ev_get rfl; assumption; rfl))); try dsimp only
      exact ax_rt rfl
    · rw [show isV (T.getD k 0) = false by simpa using hq]
      (repeat (first | refine ax_st rfl ?_ | (apply ev_get rfl; assumption; rfl))); try dsimp only
      exact ax_rt rfl
theorem sa_v {m : Nat} (a : sn h n lo f g) (t : tx h 2 3 T) (hk : k < 60) (hn : n < 60) (hm : m < 8) (hf : f n = nI m) (hv : isV (T.getD k 0) = true) (hp : k = 0 ∨ T.getD (k - 1) 0 ≠ 109) : mt (d + 2) 31 [.inr (some 5), .inr (some 2), .inl (nI k)] h (some (.inl (bi (m.testBit (T.getD k 0 - 88))))) h := by
  have ho := a.1
  have hto := t.ob
  have l1 := t.lt k
  have l2 := t.lt (k - 1)
  have hb := isV_b hv
  (repeat (first | refine ax_st rfl ?_ | (apply ev_get rfl; assumption; rfl))); try dsimp only
  refine ev_callV rfl hto ⟨rfl, rfl, Nat.le_of_ble_eq_true rfl, Nat.le_of_ble_eq_true rfl⟩ (tx_get t (nI k)) ?_
  rw [tg_nI T (by omega)]
  (repeat (first | refine ax_st rfl ?_ | (apply ev_get rfl; assumption; rfl))); try dsimp only
  rw [sel_no l1 (by omega) (by omega) (by omega) (by omega)]
  (repeat (first | refine ax_st rfl ?_ | (apply ev_get rfl; assumption; rfl))); try dsimp only
  refine ev_callS rfl ⟨rfl, rfl, Nat.le_of_ble_eq_true rfl, Nat.le_of_ble_eq_true rfl⟩ (p_isVariable l1) ?_
  refine ax_st rfl ?_
  dsimp only
  rw [hv]
  (repeat (first | refine ax_st rfl ?_ | (apply ev_get rfl; assumption; rfl))); try dsimp only
  refine ev_callV rfl hto ⟨rfl, rfl, Nat.le_of_ble_eq_true rfl, Nat.le_of_ble_eq_true rfl⟩ (tx_get t (nI k - 1)) ?_
  rw [tg_m1 T (by omega)]
  have hne : ¬ nI (if k = 0 then 0 else T.getD (k - 1) 0) = 109 := by
    by_cases h0 : k = 0
    · rw [if_pos h0]; decide
    · rw [if_neg h0]
      intro q
      exact (hp.resolve_left h0) ((nI_eq (b := 109) (by omega) (by decide)).mp q)
  (repeat (first | refine ax_st rfl ?_ | (apply ev_get rfl; assumption; rfl))); try dsimp only
  refine ev_f hne ?_
  (repeat (first | refine ax_st rfl ?_ | (apply ev_get rfl; assumption; rfl))); try dsimp only
  refine ev_callV rfl ho ⟨rfl, rfl, Nat.le_of_ble_eq_true rfl, Nat.le_of_ble_eq_true rfl⟩ (s_ar a hn hm hf hv) ?_
  refine ax_st rfl ?_
  dsimp only
  cases hq : m.testBit (T.getD k 0 - 88) with
  | true =>
    (repeat (first | refine ax_st rfl ?_ | (apply ev_get rfl; assumption; rfl))); try dsimp only
    exact ax_rt rfl
  | false =>
    (repeat (first | refine ax_st rfl ?_ | (apply ev_get rfl; assumption; rfl))); try dsimp only
    exact ax_rt rfl
end SAT
