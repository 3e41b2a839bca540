/-! The reference: reading, character by character. -/
def RH (d : Nat) (h : ax_H) (st inn le br lo : Int32) (p : Nat) (Φ : Int32 → ax_H → Prop) : Prop := ∀ w7 w8, ∃ res h', Ev (d + 2) 83 15 [some (.inr (some 59)), some (.inl st), some (.inl inn), some (.inl le), some (.inl br), some (.inl lo), some (.inl (nI p)), w7, w8] [] h (some (.inl res)) h' ∧ Φ res h' ∧ fr h h' (fun q => 59 ≤ q)
def RT (d : Nat) (i : Nat) (h : ax_H) (st inn le br lo : Int32) (p : Nat) (c : Nat) (nx : Int32) (Φ : Int32 → ax_H → Prop) : Prop := ∃ res h', Ev (d + 2) 83 i [some (.inr (some 59)), some (.inl st), some (.inl inn), some (.inl le), some (.inl br), some (.inl lo), some (.inl (nI p)), some (.inl (nI c)), some (.inl nx)] [] h (some (.inl res)) h' ∧ Φ res h' ∧ fr h h' (fun q => 59 ≤ q)
def RX (h : ax_H) (tp : List Nat) (n : Nat) (th : Bool) (ms : Int32) (ru : Bool) (mv : Int32) (F : Nat → Nat → Int32) : Prop := mo h (nI tp.length) (nI n) th ms ru mv ∧ MA h F ∧ MT F tp
section RD2
variable {d : Nat} {h : ax_H} {ms mv : Int32} {th ru : Bool} {F : Nat → Nat → Int32} {tp : List Nat} {n p c : Nat} {st inn le br lo : Int32} {Φ : Int32 → ax_H → Prop}
theorem rh_head (X : RX h tp n th ms ru mv F) (hp : p < tp.length) (hc : tp.getD p 0 = c) (K : RT d 26 h st inn le br lo p c (-1) Φ) : RH d h st inn le br lo p Φ := by
  obtain ⟨m, A, t1, t2, t3⟩ := X
  obtain ⟨res, h', e, f⟩ := K
  refine fun w7 w8 => ⟨res, h', ?_, f⟩
  unfold mo at m
  have h60 := A.a60
  (repeat (first | refine ax_st rfl ?_ | (apply ev_get rfl; assumption; rfl))); try dsimp only
  refine ev_f (fun z => absurd ((nI_leI (by omega) (by omega)).mp z) (by omega)) ?_
  (repeat (first | refine ax_st rfl ?_ | (apply ev_get rfl; assumption; rfl))); try dsimp only
  refine ev_ald rfl h60 ?_ ?_; exact in_nI (by omega) (by decide)
  rw [nI_clamp (by omega), t3 p hp, hc]
  repeat (first | (exact e) | refine ax_st rfl ?_ | (apply ev_get rfl; assumption; rfl))
theorem rh_end (X : RX h tp n th ms ru mv F) (hp : p = tp.length) (K : Φ (if st = 7 then -1 else nI tp.length) h) : RH d h st inn le br lo p Φ := by
  obtain ⟨m, A, t1, t2, t3⟩ := X
  refine fun w7 w8 => ⟨_, h, ?_, K, fr.rf⟩
  subst hp
  unfold mo at m
  (repeat (first | refine ax_st rfl ?_ | (apply ev_get rfl; assumption; rfl))); try dsimp only
  refine ev_t ((nI_leI (by omega) (by omega)).mpr (Nat.le_refl _)) ?_
  (repeat (first | refine ax_st rfl ?_ | (apply ev_get rfl; assumption; rfl))); try dsimp only
  refine ev_if (fun c1 => ?_) (fun c1 => ?_)
  · rw [if_neg c1]
    (repeat (first | refine ax_st rfl ?_ | (apply ev_get rfl; assumption; rfl))); try dsimp only
    exact ax_rt rfl
  · rw [if_pos (Decidable.not_not.mp c1)]
    (repeat (first | refine ax_st rfl ?_ | (apply ev_get rfl; assumption; rfl))); try dsimp only
    exact ax_rt rfl
theorem rt_x (K : Φ (nI p) h) : RT d 148 h st inn le br lo p c (-1) Φ := by
  refine ⟨_, h, ?_, K, fr.rf⟩
  (repeat (first | refine ax_st rfl ?_ | (apply ev_get rfl; assumption; rfl))); try dsimp only
  exact ax_rt rfl
theorem rt_n {s : Int32} (h1 : 0 ≤ s) (h2 : s ≠ 6) (K : RH d h s inn le br lo (p + 1) Φ) : RT d 148 h st inn le br lo p c s Φ := by
  obtain ⟨res, h', e, f⟩ := K (some (.inl (nI c))) (some (.inl s))
  rw [← nI_1 p] at e
  refine ⟨res, h', ?_, f⟩
  (repeat (first | refine ax_st rfl ?_ | (apply ev_get rfl; assumption; rfl))); try dsimp only
  refine ev_t h1 ?_
  (repeat (first | refine ax_st rfl ?_ | (apply ev_get rfl; assumption; rfl))); try dsimp only
  refine ev_t h2 ?_
  repeat (first | (exact e) | refine ax_st rfl ?_ | (apply ev_get rfl; assumption; rfl))
theorem rt_6 {ks : List (Nat × Bool)} (hn : n ≤ 60) (ck : ch F n ks inn) (K : RH d h (if ks = [] then 7 else 6) inn le br lo (p + 1) Φ) : RT d 148 h st inn le br lo p c 6 Φ := by
  obtain ⟨res, h', e, f⟩ := K (some (.inl (nI c))) (some (.inl 6))
  rw [← nI_1 p] at e
  refine ⟨res, h', ?_, f⟩
  cases ks with
  | nil =>
    rw [if_pos rfl] at e
    rw [show inn = -1 from ck] at e ⊢
    repeat (first | (exact e) | refine ax_st rfl ?_ | (apply ev_get rfl; assumption; rfl))
  | cons k ks =>
    obtain ⟨k, b⟩ := k
    rw [if_neg (by simp)] at e
    have ck1 := ck.1
    have ck2 := ck.2.1
    (repeat (first | refine ax_st rfl ?_ | (apply ev_get rfl; assumption; rfl))); try dsimp only
    refine ev_t (by rw [ck1]; exact (nI_leI (a := 0) (by decide) (by omega)).mpr (Nat.zero_le _)) ?_
    repeat (first | (exact e) | refine ax_st rfl ?_ | (apply ev_get rfl; assumption; rfl))
theorem RX.lt (X : RX h tp n th ms ru mv F) : tp.getD p 0 < 65536 := by
  obtain ⟨m, A, t1, t2, t3⟩ := X
  exact lt_of_all t2 p
theorem RX.len (X : RX h tp n th ms ru mv F) : tp.length ≤ 60 := X.2.2.1
/-- START -/
theorem rs_0a (X : RX h tp n th ms ru mv F) (hn : n ≤ p) (hp : p < tp.length) (hc : tp.getD p 0 = c) (hk : c = 101 ∨ isV c = true) {ks : List (Nat × Bool)} (ck : ch F n ks inn) (K : ∀ h1, RX h1 tp (n + 1) th ms ru mv (pu F n (if c = 101 then 0 else 1) (nI c) 0 inn br) → RH d h1 (if dl ks = [] then 7 else 6) (hd (dl ks)) (nI c) br 0 (p + 1) Φ) : RH d h 0 inn le br lo p Φ := by
  have hl := X.len
  have hcb : c < 65536 := by rw [← hc]; exact X.lt
  obtain ⟨m, A, T⟩ := id X
  obtain ⟨h1, e1, m1, A1, f1⟩ := m_piece (d := d + 1) (show n < 60 by omega) (if c = 101 then 0 else 1) (nI c) 0 inn br m A
  have ck1 := ch_kp (kp_pu (k := if c = 101 then 0 else 1) (a := nI c) (b := 0) (i := inn) (l := br)) (Nat.le_succ n) ks inn ck
  have ck2 := ch_dl ks _ ck1
  have X1 : RX h1 tp (n + 1) th ms ru mv (pu F n (if c = 101 then 0 else 1) (nI c) 0 inn br) := ⟨m1, A1, T.c (pu_ne (by decide))⟩
  obtain ⟨res, h', e, f⟩ := rt_6 (d := d) (st := 0) (p := p) (c := c) (by omega) ck2 (K h1 X1)
  refine rh_head X hp hc ⟨res, h', ?_, f.1, f1.tr f.2⟩
  have c109 : c ≠ 109 := by
    rcases hk with z | z
    · omega
    · have := isV_b z; omega
  have ha : aSt c = 6 := by unfold aSt; rw [if_pos hk]
  have m' := m
  have m1' := m1
  unfold mo at m' m1'
  (repeat (first | refine ax_st rfl ?_ | (apply ev_get rfl; assumption; rfl))); try dsimp only
  refine ev_callS rfl ⟨rfl, rfl, Nat.le_of_ble_eq_true rfl, Nat.le_of_ble_eq_true rfl⟩ (m_afterStart hcb) ?_
  rw [ha]
  (repeat (first | refine ax_st rfl ?_ | (apply ev_get rfl; assumption; rfl))); try dsimp only
  refine ev_t (fun z => c109 ((nI_eq (b := 109) (by omega) (by decide)).mp z)) ?_
  (repeat (first | refine ax_st rfl ?_ | (apply ev_get rfl; assumption; rfl))); try dsimp only
  by_cases h1 : c = 101
  · rw [if_pos h1] at e1
    refine ev_f (fun z => z (by rw [h1]; rfl)) ?_
    (repeat (first | refine ax_st rfl ?_ | (apply ev_get rfl; assumption; rfl))); try dsimp only
    refine ev_callV rfl m' ⟨rfl, rfl, Nat.le_of_ble_eq_true rfl, Nat.le_of_ble_eq_true rfl⟩ (e1) ?_
    (repeat (first | refine ax_st rfl ?_ | (apply ev_get rfl; assumption; rfl))); try dsimp only
    refine ev_callV rfl m1' ⟨rfl, rfl, Nat.le_of_ble_eq_true rfl, Nat.le_of_ble_eq_true rfl⟩ (m_ended (n := n + 1) (by omega) m1 A1 ck1) ?_
    repeat (first | (exact e) | refine ax_st rfl ?_ | (apply ev_get rfl; assumption; rfl))
  · rw [if_neg h1] at e1
    refine ev_t (fun z => h1 ((nI_eq (b := 101) (by omega) (by decide)).mp z)) ?_
    (repeat (first | refine ax_st rfl ?_ | (apply ev_get rfl; assumption; rfl))); try dsimp only
    refine ev_callV rfl m' ⟨rfl, rfl, Nat.le_of_ble_eq_true rfl, Nat.le_of_ble_eq_true rfl⟩ (e1) ?_
    (repeat (first | refine ax_st rfl ?_ | (apply ev_get rfl; assumption; rfl))); try dsimp only
    refine ev_callV rfl m1' ⟨rfl, rfl, Nat.le_of_ble_eq_true rfl, Nat.le_of_ble_eq_true rfl⟩ (m_ended (n := n + 1) (by omega) m1 A1 ck1) ?_
    repeat (first | (exact e) | refine ax_st rfl ?_ | (apply ev_get rfl; assumption; rfl))
theorem rs_0m (X : RX h tp n th ms ru mv F) (hp : p < tp.length) (hc : tp.getD p 0 = 109) (K : RH d h 1 inn 109 br 1 (p + 1) Φ) : RH d h 0 inn le br lo p Φ := by
  obtain ⟨res, h', e, f⟩ := rt_n (d := d) (st := 0) (p := p) (c := 109) (by decide) (by decide) K
  refine rh_head X hp hc ⟨res, h', ?_, f⟩
  obtain ⟨m, A, T⟩ := id X
  (repeat (first | refine ax_st rfl ?_ | (apply ev_get rfl; assumption; rfl))); try dsimp only
  refine ev_callS rfl ⟨rfl, rfl, Nat.le_of_ble_eq_true rfl, Nat.le_of_ble_eq_true rfl⟩ (m_afterStart (c := 109) (by decide)) ?_
  rw [show aSt 109 = 1 from rfl]
  repeat (first | (exact e) | refine ax_st rfl ?_ | (apply ev_get rfl; assumption; rfl))
theorem rs_0r (X : RX h tp n th ms ru mv F) (hp : p < tp.length) (hc : tp.getD p 0 = c) (hk : isR c = true) (K : RH d h 3 inn (nI c) br 0 (p + 1) Φ) : RH d h 0 inn le br lo p Φ := by
  obtain ⟨res, h', e, f⟩ := rt_n (d := d) (st := 0) (p := p) (c := c) (by decide) (by decide) K
  refine rh_head X hp hc ⟨res, h', ?_, f⟩
  have hb := isR_b hk
  have ha : aSt c = 3 := by
    unfold aSt
    rw [if_neg (fun z => z.elim (fun z => by omega) (fun z => by have := isV_b z; omega)), if_neg (by omega), if_pos hk]
  (repeat (first | refine ax_st rfl ?_ | (apply ev_get rfl; assumption; rfl))); try dsimp only
  refine ev_callS rfl ⟨rfl, rfl, Nat.le_of_ble_eq_true rfl, Nat.le_of_ble_eq_true rfl⟩ (m_afterStart (c := c) (by omega)) ?_
  rw [ha]
  (repeat (first | refine ax_st rfl ?_ | (apply ev_get rfl; assumption; rfl))); try dsimp only
  refine ev_t (fun z => absurd ((nI_eq (b := 109) (by omega) (by decide)).mp z) (by omega)) ?_
  repeat (first | (exact e) | refine ax_st rfl ?_ | (apply ev_get rfl; assumption; rfl))
theorem rs_0x (X : RX h tp n th ms ru mv F) (hp : p < tp.length) (hc : tp.getD p 0 = c) (ha : aSt c = -1) (K : Φ (nI p) h) : RH d h 0 inn le br lo p Φ := by
  have hcb : c < 65536 := by rw [← hc]; exact X.lt
  obtain ⟨res, h', e, f⟩ := rt_x (d := d) (st := 0) (inn := inn) (le := nI c) (br := br) (lo := 0) (c := c) K
  refine rh_head X hp hc ⟨res, h', ?_, f⟩
  have c109 : c ≠ 109 := by
    intro z
    rw [z] at ha
    exact absurd ha (by decide)
  (repeat (first | refine ax_st rfl ?_ | (apply ev_get rfl; assumption; rfl))); try dsimp only
  refine ev_callS rfl ⟨rfl, rfl, Nat.le_of_ble_eq_true rfl, Nat.le_of_ble_eq_true rfl⟩ (m_afterStart hcb) ?_
  rw [ha]
  (repeat (first | refine ax_st rfl ?_ | (apply ev_get rfl; assumption; rfl))); try dsimp only
  refine ev_t (fun z => c109 ((nI_eq (b := 109) (by omega) (by decide)).mp z)) ?_
  repeat (first | (exact e) | refine ax_st rfl ?_ | (apply ev_get rfl; assumption; rfl))
/-- VARIABLE -/
theorem rs_1 (X : RX h tp n th ms ru mv F) (hn : n ≤ p) (hp : p < tp.length) (hc : tp.getD p 0 = c) (hk : isV c = true) (K : ∀ h1, RX h1 tp (n + 1) th ms ru mv (pu F n 2 (nI c) 0 inn br) → RH d h1 2 (nI n) le br lo (p + 1) Φ) : RH d h 1 inn le br lo p Φ := by
  have hl := X.len
  have hcb : c < 65536 := by rw [← hc]; exact X.lt
  obtain ⟨m, A, T⟩ := id X
  obtain ⟨h1, e1, m1, A1, f1⟩ := m_piece (d := d + 1) (show n < 60 by omega) 2 (nI c) 0 inn br m A
  have X1 : RX h1 tp (n + 1) th ms ru mv (pu F n 2 (nI c) 0 inn br) := ⟨m1, A1, T.c (pu_ne (by decide))⟩
  obtain ⟨res, h', e, f⟩ := rt_n (d := d) (st := 1) (p := p) (c := c) (by decide) (by decide) (K h1 X1)
  refine rh_head X hp hc ⟨res, h', ?_, f.1, f1.tr f.2⟩
  unfold mo at m
  (repeat (first | refine ax_st rfl ?_ | (apply ev_get rfl; assumption; rfl))); try dsimp only
  refine ev_callS rfl ⟨rfl, rfl, Nat.le_of_ble_eq_true rfl, Nat.le_of_ble_eq_true rfl⟩ (m_isVariable hcb) ?_
  rw [hk]
  (repeat (first | refine ax_st rfl ?_ | (apply ev_get rfl; assumption; rfl))); try dsimp only
  refine ev_callV rfl m ⟨rfl, rfl, Nat.le_of_ble_eq_true rfl, Nat.le_of_ble_eq_true rfl⟩ (e1) ?_
  repeat (first | (exact e) | refine ax_st rfl ?_ | (apply ev_get rfl; assumption; rfl))
theorem rs_3 (X : RX h tp n th ms ru mv F) (hn : n ≤ p) (hp : p < tp.length) (hc : tp.getD p 0 = c) (hk : isR c = true) (K : ∀ h1, RX h1 tp (n + 1) th ms ru mv (pu F n 3 le (nI c) inn br) → RH d h1 4 (nI n) le br lo (p + 1) Φ) : RH d h 3 inn le br lo p Φ := by
  have hl := X.len
  have hcb : c < 65536 := by rw [← hc]; exact X.lt
  obtain ⟨m, A, T⟩ := id X
  obtain ⟨h1, e1, m1, A1, f1⟩ := m_piece (d := d + 1) (show n < 60 by omega) 3 le (nI c) inn br m A
  have X1 : RX h1 tp (n + 1) th ms ru mv (pu F n 3 le (nI c) inn br) := ⟨m1, A1, T.c (pu_ne (by decide))⟩
  obtain ⟨res, h', e, f⟩ := rt_n (d := d) (st := 3) (p := p) (c := c) (by decide) (by decide) (K h1 X1)
  refine rh_head X hp hc ⟨res, h', ?_, f.1, f1.tr f.2⟩
  unfold mo at m
  (repeat (first | refine ax_st rfl ?_ | (apply ev_get rfl; assumption; rfl))); try dsimp only
  refine ev_callS rfl ⟨rfl, rfl, Nat.le_of_ble_eq_true rfl, Nat.le_of_ble_eq_true rfl⟩ (m_isRole hcb) ?_
  rw [hk]
  (repeat (first | refine ax_st rfl ?_ | (apply ev_get rfl; assumption; rfl))); try dsimp only
  refine ev_callV rfl m ⟨rfl, rfl, Nat.le_of_ble_eq_true rfl, Nat.le_of_ble_eq_true rfl⟩ (e1) ?_
  repeat (first | (exact e) | refine ax_st rfl ?_ | (apply ev_get rfl; assumption; rfl))
theorem rs_2 (X : RX h tp n th ms ru mv F) (hp : p < tp.length) (hc : tp.getD p 0 = 46) (K : RH d h 0 inn le br lo (p + 1) Φ) : RH d h 2 inn le br lo p Φ := by
  obtain ⟨res, h', e, f⟩ := rt_n (d := d) (st := 2) (p := p) (c := 46) (by decide) (by decide) K
  refine rh_head X hp hc ⟨res, h', ?_, f⟩
  repeat (first | (exact e) | refine ax_st rfl ?_ | (apply ev_get rfl; assumption; rfl))
theorem rs_4 (X : RX h tp n th ms ru mv F) (hp : p < tp.length) (hc : tp.getD p 0 = 123) (K : RH d h 5 inn le br lo (p + 1) Φ) : RH d h 4 inn le br lo p Φ := by
  obtain ⟨res, h', e, f⟩ := rt_n (d := d) (st := 4) (p := p) (c := 123) (by decide) (by decide) K
  refine rh_head X hp hc ⟨res, h', ?_, f⟩
  repeat (first | (exact e) | refine ax_st rfl ?_ | (apply ev_get rfl; assumption; rfl))
theorem rs_5 (X : RX h tp n th ms ru mv F) (hp : p < tp.length) (hc : tp.getD p 0 = c) (hk : isL c = true) (K : RH d h 2 inn le (nI c) lo (p + 1) Φ) : RH d h 5 inn le br lo p Φ := by
  have hcb : c < 65536 := by rw [← hc]; exact X.lt
  obtain ⟨res, h', e, f⟩ := rt_n (d := d) (st := 5) (p := p) (c := c) (by decide) (by decide) K
  refine rh_head X hp hc ⟨res, h', ?_, f⟩
  (repeat (first | refine ax_st rfl ?_ | (apply ev_get rfl; assumption; rfl))); try dsimp only
  refine ev_callS rfl ⟨rfl, rfl, Nat.le_of_ble_eq_true rfl, Nat.le_of_ble_eq_true rfl⟩ (m_isLabel hcb) ?_
  rw [hk]
  repeat (first | (exact e) | refine ax_st rfl ?_ | (apply ev_get rfl; assumption; rfl))
theorem rs_6c (X : RX h tp n th ms ru mv F) (hp : p < tp.length) (hc : tp.getD p 0 = 44) (K : RH d h 5 inn le br lo (p + 1) Φ) : RH d h 6 inn le br lo p Φ := by
  obtain ⟨res, h', e, f⟩ := rt_n (d := d) (st := 6) (p := p) (c := 44) (by decide) (by decide) K
  refine rh_head X hp hc ⟨res, h', ?_, f⟩
  repeat (first | (exact e) | refine ax_st rfl ?_ | (apply ev_get rfl; assumption; rfl))
theorem rs_6e (X : RX h tp n th ms ru mv F) (hn : n ≤ p) (hp : p < tp.length) (hc : tp.getD p 0 = 125) {k : Nat} {b : Bool} {ks : List (Nat × Bool)} (ck : ch F n ((k, b) :: ks) inn) (K : RH d h (if dl ks = [] then 7 else 6) (hd (dl ks)) le br lo (p + 1) Φ) : RH d h 6 inn le br lo p Φ := by
  have hl := X.len
  obtain ⟨m, A, T⟩ := id X
  obtain ⟨c1, c2, c3, c4⟩ := ck
  have ck2 := ch_dl ks _ c4
  obtain ⟨res, h', e, f⟩ := rt_6 (d := d) (st := 6) (p := p) (c := 125) (by omega) ck2 K
  refine rh_head X hp hc ⟨res, h', ?_, f⟩
  have m' := m
  unfold mo at m'
  have h64 := A.a64
  subst c1
  (repeat (first | refine ax_st rfl ?_ | (apply ev_get rfl; assumption; rfl))); try dsimp only
  refine ev_ald rfl h64 ?_ ?_; exact in_nI (by omega) (by decide)
  rw [nI_clamp (by omega)]
  refine ev_callV rfl m' ⟨rfl, rfl, Nat.le_of_ble_eq_true rfl, Nat.le_of_ble_eq_true rfl⟩ (m_ended (n := n) (by omega) m A c4) ?_
  repeat (first | (exact e) | refine ax_st rfl ?_ | (apply ev_get rfl; assumption; rfl))
/-- no step -/
theorem rs_1x (X : RX h tp n th ms ru mv F) (hp : p < tp.length) (hc : tp.getD p 0 = c) (hk : isV c = false) (K : Φ (nI p) h) : RH d h 1 inn le br lo p Φ := by
  have hcb : c < 65536 := by rw [← hc]; exact X.lt
  obtain ⟨res, h', e, f⟩ := rt_x (d := d) (st := 1) (inn := inn) (le := le) (br := br) (lo := lo) (c := c) K
  refine rh_head X hp hc ⟨res, h', ?_, f⟩
  (repeat (first | refine ax_st rfl ?_ | (apply ev_get rfl; assumption; rfl))); try dsimp only
  refine ev_callS rfl ⟨rfl, rfl, Nat.le_of_ble_eq_true rfl, Nat.le_of_ble_eq_true rfl⟩ (m_isVariable hcb) ?_
  rw [hk]
  repeat (first | (exact e) | refine ax_st rfl ?_ | (apply ev_get rfl; assumption; rfl))
theorem rs_3x (X : RX h tp n th ms ru mv F) (hp : p < tp.length) (hc : tp.getD p 0 = c) (hk : isR c = false) (K : Φ (nI p) h) : RH d h 3 inn le br lo p Φ := by
  have hcb : c < 65536 := by rw [← hc]; exact X.lt
  obtain ⟨res, h', e, f⟩ := rt_x (d := d) (st := 3) (inn := inn) (le := le) (br := br) (lo := lo) (c := c) K
  refine rh_head X hp hc ⟨res, h', ?_, f⟩
  (repeat (first | refine ax_st rfl ?_ | (apply ev_get rfl; assumption; rfl))); try dsimp only
  refine ev_callS rfl ⟨rfl, rfl, Nat.le_of_ble_eq_true rfl, Nat.le_of_ble_eq_true rfl⟩ (m_isRole hcb) ?_
  rw [hk]
  repeat (first | (exact e) | refine ax_st rfl ?_ | (apply ev_get rfl; assumption; rfl))
theorem rs_2x (X : RX h tp n th ms ru mv F) (hp : p < tp.length) (hc : tp.getD p 0 = c) (hk : c ≠ 46) (K : Φ (nI p) h) : RH d h 2 inn le br lo p Φ := by
  have hcb : c < 65536 := by rw [← hc]; exact X.lt
  obtain ⟨res, h', e, f⟩ := rt_x (d := d) (st := 2) (inn := inn) (le := le) (br := br) (lo := lo) (c := c) K
  refine rh_head X hp hc ⟨res, h', ?_, f⟩
  (repeat (first | refine ax_st rfl ?_ | (apply ev_get rfl; assumption; rfl))); try dsimp only
  refine ev_t (fun z => hk ((nI_eq (b := 46) (by omega) (by decide)).mp z)) ?_
  repeat (first | (exact e) | refine ax_st rfl ?_ | (apply ev_get rfl; assumption; rfl))
theorem rs_4x (X : RX h tp n th ms ru mv F) (hp : p < tp.length) (hc : tp.getD p 0 = c) (hk : c ≠ 123) (K : Φ (nI p) h) : RH d h 4 inn le br lo p Φ := by
  have hcb : c < 65536 := by rw [← hc]; exact X.lt
  obtain ⟨res, h', e, f⟩ := rt_x (d := d) (st := 4) (inn := inn) (le := le) (br := br) (lo := lo) (c := c) K
  refine rh_head X hp hc ⟨res, h', ?_, f⟩
  (repeat (first | refine ax_st rfl ?_ | (apply ev_get rfl; assumption; rfl))); try dsimp only
  refine ev_t (fun z => hk ((nI_eq (b := 123) (by omega) (by decide)).mp z)) ?_
  repeat (first | (exact e) | refine ax_st rfl ?_ | (apply ev_get rfl; assumption; rfl))
theorem rs_5x (X : RX h tp n th ms ru mv F) (hp : p < tp.length) (hc : tp.getD p 0 = c) (hk : isL c = false) (K : Φ (nI p) h) : RH d h 5 inn le br lo p Φ := by
  have hcb : c < 65536 := by rw [← hc]; exact X.lt
  obtain ⟨res, h', e, f⟩ := rt_x (d := d) (st := 5) (inn := inn) (le := le) (br := br) (lo := lo) (c := c) K
  refine rh_head X hp hc ⟨res, h', ?_, f⟩
  (repeat (first | refine ax_st rfl ?_ | (apply ev_get rfl; assumption; rfl))); try dsimp only
  refine ev_callS rfl ⟨rfl, rfl, Nat.le_of_ble_eq_true rfl, Nat.le_of_ble_eq_true rfl⟩ (m_isLabel hcb) ?_
  rw [hk]
  repeat (first | (exact e) | refine ax_st rfl ?_ | (apply ev_get rfl; assumption; rfl))
theorem rs_6x (X : RX h tp n th ms ru mv F) (hp : p < tp.length) (hc : tp.getD p 0 = c) (hk : c ≠ 44) (hk2 : c ≠ 125) (K : Φ (nI p) h) : RH d h 6 inn le br lo p Φ := by
  have hcb : c < 65536 := by rw [← hc]; exact X.lt
  obtain ⟨res, h', e, f⟩ := rt_x (d := d) (st := 6) (inn := inn) (le := le) (br := br) (lo := lo) (c := c) K
  refine rh_head X hp hc ⟨res, h', ?_, f⟩
  (repeat (first | refine ax_st rfl ?_ | (apply ev_get rfl; assumption; rfl))); try dsimp only
  refine ev_t (fun z => hk ((nI_eq (b := 44) (by omega) (by decide)).mp z)) ?_
  (repeat (first | refine ax_st rfl ?_ | (apply ev_get rfl; assumption; rfl))); try dsimp only
  refine ev_t (fun z => hk2 ((nI_eq (b := 125) (by omega) (by decide)).mp z)) ?_
  repeat (first | (exact e) | refine ax_st rfl ?_ | (apply ev_get rfl; assumption; rfl))
theorem rs_7x (X : RX h tp n th ms ru mv F) (hp : p < tp.length) (K : Φ (nI p) h) : RH d h 7 inn le br lo p Φ := by
  obtain ⟨res, h', e, f⟩ := rt_x (d := d) (st := 7) (inn := inn) (le := le) (br := br) (lo := lo) (c := tp.getD p 0) K
  refine rh_head X hp rfl ⟨res, h', ?_, f⟩
  repeat (first | (exact e) | refine ax_st rfl ?_ | (apply ev_get rfl; assumption; rfl))
end RD2
