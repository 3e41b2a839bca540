/-! RoleParts.Grammar: the automaton that finds the fault. -/
/-- what is expected behind c, and how many messages are open then; 7: nothing -/
def gst (e n c : Nat) : Nat × Nat :=
  if e = 0 then (if c = 101 ∨ isV c = true then 6 else if c = 109 then 1 else if isR c = true then 2 else 7, n)
  else if e = 1 then (if isV c = true then 5 else 7, n)
  else if e = 2 then (if isR c = true then 3 else 7, n)
  else if e = 3 then (if c = 123 then (4, n + 1) else (7, n))
  else if e = 4 then (if isL c = true then 5 else 7, n)
  else if e = 5 then (if c = 46 then 0 else 7, n)
  else (if n = 0 then (7, n) else if c = 44 then (4, n) else if c = 125 then (6, n - 1) else (7, n))
/-- the fault, or -1 -/
def gfl : List Nat → Nat → Nat → Nat → Int32
  | [], e, n, k => if e = 6 ∧ n = 0 then -1 else nI k
  | c :: t, e, n, k => if (gst e n c).1 = 7 then nI k else gfl t (gst e n c).1 (gst e n c).2 (k + 1)
theorem gst_le (e n c : Nat) : (gst e n c).1 ≤ 7 := by
  unfold gst
  repeat' split
  all_goals (try omega)
  all_goals (dsimp only; repeat' split)
  all_goals omega
theorem gst_n (e n c : Nat) : (gst e n c).2 ≤ n + 1 := by
  unfold gst
  repeat' split
  all_goals dsimp only
  all_goals omega
theorem gr_inP {d g x : Nat} {h : ax_H} (hx : x < 65536) (v : List ax_V) (_ho : ob h g 0 v) : mt (d + 1) 3 [.inr (some g), .inl (nI x)] h (some (.inl (nI (gst 0 0 x).1))) h := by
  unfold gst
  rw [if_pos rfl]
  dsimp only
  (repeat (first | refine ax_st rfl ?_ | (apply ev_get rfl; assumption; rfl))); try dsimp only
  refine ev_if (fun c1 => ?_) (fun c1 => ?_)
  · have c1 := (nI_eq (b := 101) (by omega) (by decide)).mp c1
    rw [if_pos (Or.inl c1)]
    (repeat (first | refine ax_st rfl ?_ | (apply ev_get rfl; assumption; rfl))); try dsimp only
    exact ax_rt rfl
  · have c1 : ¬ x = 101 := fun q => c1 (by rw [q]; rfl)
    (repeat (first | refine ax_st rfl ?_ | (apply ev_get rfl; assumption; rfl))); try dsimp only
    refine ev_callS rfl ⟨rfl, rfl, Nat.le_of_ble_eq_true rfl, Nat.le_of_ble_eq_true rfl⟩ (p_isVariable hx) ?_
    refine ax_st rfl ?_
    dsimp only
    refine ev_if (fun c2 => ?_) (fun c2 => ?_)
    · have c2 := (bi_0 _).mp c2
      rw [if_neg (by rw [c2]; simp [c1])]
      (repeat (first | refine ax_st rfl ?_ | (apply ev_get rfl; assumption; rfl))); try dsimp only
      refine ev_if (fun c3 => ?_) (fun c3 => ?_)
      · have c3 : ¬ x = 109 := fun q => c3 (by rw [q]; rfl)
        rw [if_neg c3]
        (repeat (first | refine ax_st rfl ?_ | (apply ev_get rfl; assumption; rfl))); try dsimp only
        refine ev_callS rfl ⟨rfl, rfl, Nat.le_of_ble_eq_true rfl, Nat.le_of_ble_eq_true rfl⟩ (p_isRole hx) ?_
        refine ax_st rfl ?_
        dsimp only
        refine ev_if (fun c4 => ?_) (fun c4 => ?_)
        · have c4 := (bi_0 _).mp c4
          rw [if_neg (by rw [c4]; decide)]
          (repeat (first | refine ax_st rfl ?_ | (apply ev_get rfl; assumption; rfl))); try dsimp only
          exact ax_rt rfl
        · have c4 : isR x = true := by
            cases hq : isR x with
            | true => rfl
            | false => exact absurd ((bi_0 _).mpr hq) c4
          rw [if_pos c4]
          (repeat (first | refine ax_st rfl ?_ | (apply ev_get rfl; assumption; rfl))); try dsimp only
          exact ax_rt rfl
      · have c3 := (nI_eq (b := 109) (by omega) (by decide)).mp (Decidable.not_not.mp c3)
        rw [if_pos c3]
        (repeat (first | refine ax_st rfl ?_ | (apply ev_get rfl; assumption; rfl))); try dsimp only
        exact ax_rt rfl
    · have c2 : isV x = true := by
        cases hq : isV x with
        | true => rfl
        | false => exact absurd ((bi_0 _).mpr hq) c2
      rw [if_pos (Or.inr c2)]
      (repeat (first | refine ax_st rfl ?_ | (apply ev_get rfl; assumption; rfl))); try dsimp only
      exact ax_rt rfl
/-- the state of a Grammar -/
def gm (h : ax_H) (g e n : Nat) : Prop := ob h g 0 [.inl (nI e), .inl (nI n)]
theorem bi_t {b : Bool} (h : ¬ bi b = 0) : b = true := by
  cases b with
  | true => rfl
  | false => exact absurd rfl h
theorem gr_next {d g e n x : Nat} {h : ax_H} (hx : x < 65536) (he : e ≤ 6) (hn : n < 2 ^ 30) (ho : gm h g e n) : ∃ h', mt (d + 2) 2 [.inr (some g), .inl (nI x)] h (some (.inl (nI (gst e n x).1))) h' ∧ gm h' g e (gst e n x).2 ∧ fr h h' (fun q => q = g) := by
  unfold gm at ho
  rcases (by omega : e = 0 ∨ e = 1 ∨ e = 2 ∨ e = 3 ∨ e = 4 ∨ e = 5 ∨ e = 6) with rfl | rfl | rfl | rfl | rfl | rfl | rfl
  · refine ⟨h, ?_, ho, fr.rf⟩
    have e1 := gr_inP (d := d) hx _ ho
    rw [show (gst 0 n x).1 = (gst 0 0 x).1 from rfl]
    (repeat (first | refine ax_st rfl ?_ | (apply ev_get rfl; assumption; rfl))); try dsimp only
    refine ev_callV rfl ho ⟨rfl, rfl, Nat.le_of_ble_eq_true rfl, Nat.le_of_ble_eq_true rfl⟩ (e1) ?_
    exact ax_rt rfl
  · refine ⟨h, ?_, ho, fr.rf⟩
    rw [show (gst 1 n x).1 = if isV x = true then 5 else 7 from rfl]
    (repeat (first | refine ax_st rfl ?_ | (apply ev_get rfl; assumption; rfl))); try dsimp only
    refine ev_callS rfl ⟨rfl, rfl, Nat.le_of_ble_eq_true rfl, Nat.le_of_ble_eq_true rfl⟩ (p_isVariable hx) ?_
    refine ax_st rfl ?_
    dsimp only
    refine ev_if (fun c4 => ?_) (fun c4 => ?_)
    · rw [if_neg (by rw [(bi_0 _).mp c4]; decide)]
      (repeat (first | refine ax_st rfl ?_ | (apply ev_get rfl; assumption; rfl))); try dsimp only
      exact ax_rt rfl
    · rw [if_pos (bi_t c4)]
      (repeat (first | refine ax_st rfl ?_ | (apply ev_get rfl; assumption; rfl))); try dsimp only
      exact ax_rt rfl
  · refine ⟨h, ?_, ho, fr.rf⟩
    rw [show (gst 2 n x).1 = if isR x = true then 3 else 7 from rfl]
    (repeat (first | refine ax_st rfl ?_ | (apply ev_get rfl; assumption; rfl))); try dsimp only
    refine ev_callS rfl ⟨rfl, rfl, Nat.le_of_ble_eq_true rfl, Nat.le_of_ble_eq_true rfl⟩ (p_isRole hx) ?_
    refine ax_st rfl ?_
    dsimp only
    refine ev_if (fun c4 => ?_) (fun c4 => ?_)
    · rw [if_neg (by rw [(bi_0 _).mp c4]; decide)]
      (repeat (first | refine ax_st rfl ?_ | (apply ev_get rfl; assumption; rfl))); try dsimp only
      exact ax_rt rfl
    · rw [if_pos (bi_t c4)]
      (repeat (first | refine ax_st rfl ?_ | (apply ev_get rfl; assumption; rfl))); try dsimp only
      exact ax_rt rfl
  · by_cases hc : x = 123
    · subst hc
      refine ⟨ax_set h g (.inr (0, [.inl (nI 3), .inl (nI (n + 1))])), ?_, ho.st _ _, fr.st rfl⟩
      have e1 : mt (d + 1) 4 [.inr (some g), .inl (nI 123)] h (some (.inl 4)) (ax_set h g (.inr (0, [.inl (nI 3), .inl (nI (n + 1))]))) := by
        (repeat (first | refine ax_st rfl ?_ | (apply ev_get rfl; assumption; rfl))); try dsimp only
        refine ev_put rfl ho ?_ ?_ ?_; exact Nat.le_of_ble_eq_true rfl; rfl
        rw [← nI_1 n]
        (repeat (first | refine ax_st rfl ?_ | (apply ev_get rfl; assumption; rfl))); try dsimp only
        exact ax_rt rfl
      (repeat (first | refine ax_st rfl ?_ | (apply ev_get rfl; assumption; rfl))); try dsimp only
      refine ev_callV rfl ho ⟨rfl, rfl, Nat.le_of_ble_eq_true rfl, Nat.le_of_ble_eq_true rfl⟩ (e1) ?_
      exact ax_rt rfl
    · refine ⟨h, ?_, ?_, fr.rf⟩
      · have e1 : mt (d + 1) 4 [.inr (some g), .inl (nI x)] h (some (.inl 7)) h := by
          (repeat (first | refine ax_st rfl ?_ | (apply ev_get rfl; assumption; rfl))); try dsimp only
          refine ev_f (fun q => hc ((nI_eq (b := 123) (by omega) (by decide)).mp q)) ?_
          (repeat (first | refine ax_st rfl ?_ | (apply ev_get rfl; assumption; rfl))); try dsimp only
          exact ax_rt rfl
        rw [show (gst 3 n x) = if x = 123 then (4, n + 1) else (7, n) from rfl, if_neg hc]
        (repeat (first | refine ax_st rfl ?_ | (apply ev_get rfl; assumption; rfl))); try dsimp only
        refine ev_callV rfl ho ⟨rfl, rfl, Nat.le_of_ble_eq_true rfl, Nat.le_of_ble_eq_true rfl⟩ (e1) ?_
        exact ax_rt rfl
      · rw [show (gst 3 n x) = if x = 123 then (4, n + 1) else (7, n) from rfl, if_neg hc]
        exact ho
  · refine ⟨h, ?_, ho, fr.rf⟩
    rw [show (gst 4 n x).1 = if isL x = true then 5 else 7 from rfl]
    (repeat (first | refine ax_st rfl ?_ | (apply ev_get rfl; assumption; rfl))); try dsimp only
    refine ev_callS rfl ⟨rfl, rfl, Nat.le_of_ble_eq_true rfl, Nat.le_of_ble_eq_true rfl⟩ (p_isLabel hx) ?_
    refine ax_st rfl ?_
    dsimp only
    refine ev_if (fun c4 => ?_) (fun c4 => ?_)
    · rw [if_neg (by rw [(bi_0 _).mp c4]; decide)]
      (repeat (first | refine ax_st rfl ?_ | (apply ev_get rfl; assumption; rfl))); try dsimp only
      exact ax_rt rfl
    · rw [if_pos (bi_t c4)]
      (repeat (first | refine ax_st rfl ?_ | (apply ev_get rfl; assumption; rfl))); try dsimp only
      exact ax_rt rfl
  · refine ⟨h, ?_, ho, fr.rf⟩
    rw [show (gst 5 n x).1 = if x = 46 then 0 else 7 from rfl]
    (repeat (first | refine ax_st rfl ?_ | (apply ev_get rfl; assumption; rfl))); try dsimp only
    refine ev_if (fun c4 => ?_) (fun c4 => ?_)
    · rw [if_neg (fun q => c4 (by rw [q]; rfl))]
      (repeat (first | refine ax_st rfl ?_ | (apply ev_get rfl; assumption; rfl))); try dsimp only
      exact ax_rt rfl
    · rw [if_pos ((nI_eq (b := 46) (by omega) (by decide)).mp (Decidable.not_not.mp c4))]
      (repeat (first | refine ax_st rfl ?_ | (apply ev_get rfl; assumption; rfl))); try dsimp only
      exact ax_rt rfl
  · have hq : gst 6 n x = if n = 0 then (7, n) else if x = 44 then (4, n) else if x = 125 then (6, n - 1) else (7, n) := rfl
    rw [hq]
    by_cases h0 : n = 0
    · rw [if_pos h0]
      refine ⟨h, ?_, ho, fr.rf⟩
      subst h0
      have e1 : mt (d + 1) 5 [.inr (some g), .inl (nI x)] h (some (.inl 7)) h := by
        (repeat (first | refine ax_st rfl ?_ | (apply ev_get rfl; assumption; rfl))); try dsimp only
        exact ax_rt rfl
      (repeat (first | refine ax_st rfl ?_ | (apply ev_get rfl; assumption; rfl))); try dsimp only
      refine ev_callV rfl ho ⟨rfl, rfl, Nat.le_of_ble_eq_true rfl, Nat.le_of_ble_eq_true rfl⟩ (e1) ?_
      exact ax_rt rfl
    · rw [if_neg h0]
      have hn0 : ¬ nI n = 0 := nI_ne0 (by omega) (by omega)
      by_cases h1 : x = 44
      · rw [if_pos h1]
        subst h1
        refine ⟨h, ?_, ho, fr.rf⟩
        have e1 : mt (d + 1) 5 [.inr (some g), .inl (nI 44)] h (some (.inl 4)) h := by
          (repeat (first | refine ax_st rfl ?_ | (apply ev_get rfl; assumption; rfl))); try dsimp only
          refine ev_t hn0 ?_
          (repeat (first | refine ax_st rfl ?_ | (apply ev_get rfl; assumption; rfl))); try dsimp only
          exact ax_rt rfl
        (repeat (first | refine ax_st rfl ?_ | (apply ev_get rfl; assumption; rfl))); try dsimp only
        refine ev_callV rfl ho ⟨rfl, rfl, Nat.le_of_ble_eq_true rfl, Nat.le_of_ble_eq_true rfl⟩ (e1) ?_
        exact ax_rt rfl
      · rw [if_neg h1]
        by_cases h2 : x = 125
        · rw [if_pos h2]
          subst h2
          refine ⟨ax_set h g (.inr (0, [.inl (nI 6), .inl (nI (n - 1))])), ?_, ho.st _ _, fr.st rfl⟩
          have e1 : mt (d + 1) 5 [.inr (some g), .inl (nI 125)] h (some (.inl 6)) (ax_set h g (.inr (0, [.inl (nI 6), .inl (nI (n - 1))]))) := by
            (repeat (first | refine ax_st rfl ?_ | (apply ev_get rfl; assumption; rfl))); try dsimp only
            refine ev_t hn0 ?_
            (repeat (first | refine ax_st rfl ?_ | (apply ev_get rfl; assumption; rfl))); try dsimp only
            refine ev_put rfl ho ?_ ?_ ?_; exact Nat.le_of_ble_eq_true rfl; rfl
            rw [show nI n - 1 = nI (n - 1) from pk_sub (a := n) (b := 1) (by omega)]
            (repeat (first | refine ax_st rfl ?_ | (apply ev_get rfl; assumption; rfl))); try dsimp only
            exact ax_rt rfl
          (repeat (first | refine ax_st rfl ?_ | (apply ev_get rfl; assumption; rfl))); try dsimp only
          refine ev_callV rfl ho ⟨rfl, rfl, Nat.le_of_ble_eq_true rfl, Nat.le_of_ble_eq_true rfl⟩ (e1) ?_
          exact ax_rt rfl
        · rw [if_neg h2]
          refine ⟨h, ?_, ho, fr.rf⟩
          have e1 : mt (d + 1) 5 [.inr (some g), .inl (nI x)] h (some (.inl 7)) h := by
            (repeat (first | refine ax_st rfl ?_ | (apply ev_get rfl; assumption; rfl))); try dsimp only
            refine ev_t hn0 ?_
            (repeat (first | refine ax_st rfl ?_ | (apply ev_get rfl; assumption; rfl))); try dsimp only
            refine ev_t (fun q => h1 ((nI_eq (b := 44) (by omega) (by decide)).mp q)) ?_
            (repeat (first | refine ax_st rfl ?_ | (apply ev_get rfl; assumption; rfl))); try dsimp only
            refine ev_f (fun q => h2 ((nI_eq (b := 125) (by omega) (by decide)).mp q)) ?_
            (repeat (first | refine ax_st rfl ?_ | (apply ev_get rfl; assumption; rfl))); try dsimp only
            exact ax_rt rfl
          (repeat (first | refine ax_st rfl ?_ | (apply ev_get rfl; assumption; rfl))); try dsimp only
          refine ev_callV rfl ho ⟨rfl, rfl, Nat.le_of_ble_eq_true rfl, Nat.le_of_ble_eq_true rfl⟩ (e1) ?_
          exact ax_rt rfl
theorem gr_loop {d g o c : Nat} {t : List Nat} (hgo : g ≠ o ∧ g ≠ c) : ∀ (m k e n : Nat) (h : ax_H), k + m = t.length → n ≤ k → e ≤ 6 → tx h o c t → gm h g e n →
    ∃ (h' : ax_H) (e' n' : Nat), Ev (d + 3) 1 8 [some (.inr (some g)), some (.inr (some o)), some (.inl (nI k))] [] h (some (.inl (gfl (t.drop k) e n k))) h' ∧ gm h' g e' n' ∧ fr h h' (fun q => q = g) := by
  intro m
  induction m with
  | zero =>
    intro k e n h hk hn he ht hg
    have ho := ht.ob
    have hl := ht.len
    have hg' := hg
    unfold gm at hg'
    refine ⟨h, e, n, ?_, hg, fr.rf⟩
    rw [List.drop_eq_nil_of_le (by omega)]
    unfold gfl
    (repeat (first | refine ax_st rfl ?_ | (apply ev_get rfl; assumption; rfl))); try dsimp only
    refine ev_callV rfl ho ⟨rfl, rfl, Nat.le_of_ble_eq_true rfl, Nat.le_of_ble_eq_true rfl⟩ (tx_size ht) ?_
    refine ax_st rfl ?_
    dsimp only
    refine ev_t ((nI_leI (by omega) (by omega)).mpr (by omega)) ?_
    (repeat (first | refine ax_st rfl ?_ | (apply ev_get rfl; assumption; rfl))); try dsimp only
    refine ev_if (fun c1 => ?_) (fun c1 => ?_)
    · rw [if_neg (fun q => c1 (by rw [q.1]; rfl))]
      (repeat (first | refine ax_st rfl ?_ | (apply ev_get rfl; assumption; rfl))); try dsimp only
      refine ev_callV rfl ho ⟨rfl, rfl, Nat.le_of_ble_eq_true rfl, Nat.le_of_ble_eq_true rfl⟩ (tx_size ht) ?_
      rw [show t.length = k by omega]
      exact ax_rt rfl
    · have c1 := (nI_eq (b := 6) (by omega) (by decide)).mp (Decidable.not_not.mp c1)
      (repeat (first | refine ax_st rfl ?_ | (apply ev_get rfl; assumption; rfl))); try dsimp only
      refine ev_if (fun c2 => ?_) (fun c2 => ?_)
      · rw [if_neg (fun q => c2 (by rw [q.2]; rfl))]
        (repeat (first | refine ax_st rfl ?_ | (apply ev_get rfl; assumption; rfl))); try dsimp only
        refine ev_callV rfl ho ⟨rfl, rfl, Nat.le_of_ble_eq_true rfl, Nat.le_of_ble_eq_true rfl⟩ (tx_size ht) ?_
        rw [show t.length = k by omega]
        exact ax_rt rfl
      · have c2 := (nI_eq (b := 0) (by omega) (by decide)).mp (Decidable.not_not.mp c2)
        rw [if_pos ⟨c1, c2⟩]
        (repeat (first | refine ax_st rfl ?_ | (apply ev_get rfl; assumption; rfl))); try dsimp only
        exact ax_rt rfl
  | succ m ih =>
    intro k e n h hk hn he ht hg
    have ho := ht.ob
    have hl := ht.len
    have hg' := hg
    unfold gm at hg'
    have hk' : k < t.length := by omega
    have hxs : ∀ y ∈ t, y < 65536 := by obtain ⟨_, _, _, _, _, q, _⟩ := ht; exact q
    have hd : t.drop k = t.getD k 0 :: t.drop (k + 1) := by
      rw [List.drop_eq_getElem_cons hk']
      simp [List.getD, hk']
    have hy : t.getD k 0 < 65536 := hxs _ (by rw [List.getD_eq_getElem?_getD, List.getElem?_eq_getElem hk']; exact List.getElem_mem hk')
    obtain ⟨h1, a1, a2, a3⟩ := gr_next (d := d) (n := n) hy he (by omega) hg
    have hg1 := a2
    unfold gm at hg1
    have hst := hg1.st 0 [.inl (nI (gst e n (t.getD k 0)).1), .inl (nI (gst e n (t.getD k 0)).2)]
    have hfr : fr h (ax_set h1 g (.inr (0, [.inl (nI (gst e n (t.getD k 0)).1), .inl (nI (gst e n (t.getD k 0)).2)]))) (fun q => q = g) := a3.tr (fr.st rfl)
    have hle := gst_le e n (t.getD k 0)
    have hln := gst_n e n (t.getD k 0)
    rw [hd]
    by_cases h7 : (gst e n (t.getD k 0)).1 = 7
    · refine ⟨_, 7, (gst e n (t.getD k 0)).2, ?_, ?_, hfr⟩
      · unfold gfl
        rw [if_pos h7]
        (repeat (first | refine ax_st rfl ?_ | (apply ev_get rfl; assumption; rfl))); try dsimp only
        refine ev_callV rfl ho ⟨rfl, rfl, Nat.le_of_ble_eq_true rfl, Nat.le_of_ble_eq_true rfl⟩ (tx_size ht) ?_
        refine ax_st rfl ?_
        dsimp only
        refine ev_f (fun q => absurd ((nI_leI (by omega) (by omega)).mp q) (by omega)) ?_
        (repeat (first | refine ax_st rfl ?_ | (apply ev_get rfl; assumption; rfl))); try dsimp only
        refine ev_callV rfl ho ⟨rfl, rfl, Nat.le_of_ble_eq_true rfl, Nat.le_of_ble_eq_true rfl⟩ (tx_get ht (nI k)) ?_
        rw [tg_nI t (by omega)]
        (repeat (first | refine ax_st rfl ?_ | (apply ev_get rfl; assumption; rfl))); try dsimp only
        refine ev_callV rfl hg' ⟨rfl, rfl, Nat.le_of_ble_eq_true rfl, Nat.le_of_ble_eq_true rfl⟩ (a1) ?_
        refine ev_put rfl hg1 ?_ ?_ ?_; exact Nat.le_of_ble_eq_true rfl; rfl
        (repeat (first | refine ax_st rfl ?_ | (apply ev_get rfl; assumption; rfl))); try dsimp only
        refine ev_f (fun q => q (by rw [h7]; rfl)) ?_
        (repeat (first | refine ax_st rfl ?_ | (apply ev_get rfl; assumption; rfl))); try dsimp only
        exact ax_rt rfl
      · rw [h7] at hst ⊢
        exact hst
    · obtain ⟨h2, e', n', b1, b2, b3⟩ := ih (k + 1) (gst e n (t.getD k 0)).1 (gst e n (t.getD k 0)).2 _ (by omega) (by omega) (by omega) (ht.fr hfr (fun q => hgo.1 q.symm) (fun q => hgo.2 q.symm)) hst
      refine ⟨h2, e', n', ?_, b2, hfr.tr b3⟩
      unfold gfl
      rw [if_neg h7]
      rw [← nI_1 k] at b1
      (repeat (first | refine ax_st rfl ?_ | (apply ev_get rfl; assumption; rfl))); try dsimp only
      refine ev_callV rfl ho ⟨rfl, rfl, Nat.le_of_ble_eq_true rfl, Nat.le_of_ble_eq_true rfl⟩ (tx_size ht) ?_
      refine ax_st rfl ?_
      dsimp only
      refine ev_f (fun q => absurd ((nI_leI (by omega) (by omega)).mp q) (by omega)) ?_
      (repeat (first | refine ax_st rfl ?_ | (apply ev_get rfl; assumption; rfl))); try dsimp only
      refine ev_callV rfl ho ⟨rfl, rfl, Nat.le_of_ble_eq_true rfl, Nat.le_of_ble_eq_true rfl⟩ (tx_get ht (nI k)) ?_
      rw [tg_nI t (by omega)]
      (repeat (first | refine ax_st rfl ?_ | (apply ev_get rfl; assumption; rfl))); try dsimp only
      refine ev_callV rfl hg' ⟨rfl, rfl, Nat.le_of_ble_eq_true rfl, Nat.le_of_ble_eq_true rfl⟩ (a1) ?_
      refine ev_put rfl hg1 ?_ ?_ ?_; exact Nat.le_of_ble_eq_true rfl; rfl
      (repeat (first | refine ax_st rfl ?_ | (apply ev_get rfl; assumption; rfl))); try dsimp only
      refine ev_t (fun q => h7 ((nI_eq (b := 7) (by omega) (by decide)).mp q)) ?_
      repeat (first | (exact b1) | refine ax_st rfl ?_ | (apply ev_get rfl; assumption; rfl))
theorem gr_fault {d g o c : Nat} {t : List Nat} {h : ax_H} {u v : Int32} (hgo : g ≠ o ∧ g ≠ c) (ht : tx h o c t) (hg : ob h g 0 [.inl u, .inl v]) : ∃ (h' : ax_H) (e' n' : Nat), mt (d + 3) 1 [.inr (some g), .inr (some o)] h (some (.inl (gfl t 0 0 0))) h' ∧ gm h' g e' n' ∧ fr h h' (fun q => q = g) := by
  have hg2 := hg.st 0 [.inl 0, .inl v]
  have hg3 := hg2.st 0 [.inl 0, .inl 0]
  have hfr : fr h (ax_set (ax_set h g (.inr (0, [.inl 0, .inl v]))) g (.inr (0, [.inl 0, .inl 0]))) (fun q => q = g) := fr.tr (A := fun q => q = g) (fr.st rfl) (fr.st rfl)
  obtain ⟨h', e', n', b1, b2, b3⟩ := gr_loop (d := d) (t := t) hgo t.length 0 0 0 _ (by omega) (by omega) (by omega) (ht.fr hfr (fun q => hgo.1 q.symm) (fun q => hgo.2 q.symm)) hg3
  refine ⟨h', e', n', ?_, b2, hfr.tr b3⟩
  rw [List.drop_zero] at b1
  (repeat (first | refine ax_st rfl ?_ | (apply ev_get rfl; assumption; rfl))); try dsimp only
  refine ev_put rfl hg ?_ ?_ ?_; exact Nat.le_of_ble_eq_true rfl; rfl
  (repeat (first | refine ax_st rfl ?_ | (apply ev_get rfl; assumption; rfl))); try dsimp only
  refine ev_put rfl hg2 ?_ ?_ ?_; exact Nat.le_of_ble_eq_true rfl; rfl
  repeat (first | (exact b1) | refine ax_st rfl ?_ | (apply ev_get rfl; assumption; rfl))
