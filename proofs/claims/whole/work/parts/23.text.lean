/-! RoleParts.Text: a row of at most 60 characters. -/
def tx (h : ax_H) (o c : Nat) (t : List Nat) : Prop := ∃ f : Nat → Int32, ob h o 5 [.inr (some c), .inl (nI t.length)] ∧ ar h c 1 60 f ∧ t.length ≤ 60 ∧ (∀ k, k < t.length → f k = nI (t.getD k 0)) ∧ (∀ x ∈ t, x < 65536) ∧ ∀ j, cf (f j)
theorem tx.fr {h h' : ax_H} {A : Nat → Prop} {o c : Nat} {t : List Nat} (a : tx h o c t) (f : fr h h' A) (h1 : ¬ A o) (h2 : ¬ A c) : tx h' o c t := by
  obtain ⟨g, x1, x2, x3⟩ := a
  exact ⟨g, x1.fr f h1, x2.fr f h2, x3⟩
theorem tx.ob {h : ax_H} {o c : Nat} {t : List Nat} (a : tx h o c t) : ob h o 5 [.inr (some c), .inl (nI t.length)] := by
  obtain ⟨g, x1, -⟩ := a
  exact x1
theorem tx.len {h : ax_H} {o c : Nat} {t : List Nat} (a : tx h o c t) : t.length ≤ 60 := by
  obtain ⟨g, -, -, x3, -⟩ := a
  exact x3
/-- what get answers -/
def tg (t : List Nat) (k : Int32) : Nat := if k < 0 then 0 else t.getD k.toNatClampNeg 0
theorem tg_nI (t : List Nat) {k : Nat} (hk : k < 2 ^ 31) : tg t (nI k) = t.getD k 0 := by
  unfold tg
  rw [if_neg (nI_pos hk), nI_clamp hk]
theorem tx_size {d o c : Nat} {h : ax_H} {t : List Nat} (a : tx h o c t) : mt d 38 [.inr (some o)] h (some (.inl (nI t.length))) h := by
  have ho := a.ob
  (repeat (first | refine ax_st rfl ?_ | (apply ev_get rfl; assumption; rfl))); try dsimp only
  exact ax_rt rfl
theorem tx_get {d o c : Nat} {h : ax_H} {t : List Nat} (a : tx h o c t) (k : Int32) : mt d 39 [.inr (some o), .inl k] h (some (.inl (nI (tg t k)))) h := by
  obtain ⟨f, ho, hc, hl, hf, hx, hcf⟩ := a
  (repeat (first | refine ax_st rfl ?_ | (apply ev_get rfl; assumption; rfl))); try dsimp only
  refine ev_if (fun c1 => ?_) (fun c1 => ?_)
  · unfold tg
    rw [if_pos c1]
    (repeat (first | refine ax_st rfl ?_ | (apply ev_get rfl; assumption; rfl))); try dsimp only
    exact ax_rt rfl
  · (repeat (first | refine ax_st rfl ?_ | (apply ev_get rfl; assumption; rfl))); try dsimp only
    refine ev_if (fun c2 => ?_) (fun c2 => ?_)
    · have hk : t.getD k.toNatClampNeg 0 = 0 := by
        obtain ⟨n, hn, rfl⟩ := nI_of c1
        rw [nI_clamp hn]
        have := (nI_leI (by omega) hn).mp c2
        simp [List.getD, List.getElem?_eq_none this]
      unfold tg
      rw [if_neg c1, hk]
      (repeat (first | refine ax_st rfl ?_ | (apply ev_get rfl; assumption; rfl))); try dsimp only
      exact ax_rt rfl
    · (repeat (first | refine ax_st rfl ?_ | (apply ev_get rfl; assumption; rfl))); try dsimp only
      obtain ⟨n, hn, rfl⟩ := nI_of c1
      have hlt : n < t.length := by
        have h9 : ¬ t.length ≤ n := fun q => c2 ((nI_leI (by omega) hn).mpr q)
        omega
      refine ev_ald rfl hc ?_ ?_; exact in_nI (by omega) (by decide)
      (repeat (first | refine ax_st rfl ?_ | (apply ev_get rfl; assumption; rfl))); try dsimp only
      rw [nI_clamp hn, hf n hlt, tg_nI t hn]
      refine ax_rt ?_
      show (if ax_fit 2 (.inl (nI (t.getD n 0))) = true then _ else _) = _
      rw [if_pos (cf_fit (by rw [← hf n hlt]; exact hcf _))]
theorem tx_shorten {d o c : Nat} {h : ax_H} {t : List Nat} (a : tx h o c t) {k : Nat} (hk : k ≤ t.length) : ∃ h', mt d 42 [.inr (some o), .inl (nI k)] h none h' ∧ tx h' o c (t.take k) ∧ fr h h' (fun q => q = o) := by
  obtain ⟨f, ho, hc, hl, hf, hx, hcf⟩ := a
  have hkb : k < 2 ^ 31 := by omega
  by_cases hlt : k < t.length
  · refine ⟨ax_set h o (.inr (5, [.inr (some c), .inl (nI k)])), ?_, ⟨f, ?_, hc.ne _ (Ne.symm (ob_ar ho hc)), by rw [List.length_take]; omega, ?_, ?_, hcf⟩, fr.st rfl⟩
    · (repeat (first | refine ax_st rfl ?_ | (apply ev_get rfl; assumption; rfl))); try dsimp only
      refine ev_f (nI_pos hkb) ?_
      (repeat (first | refine ax_st rfl ?_ | (apply ev_get rfl; assumption; rfl))); try dsimp only
      refine ev_f (fun q => absurd ((nI_leI (by omega) hkb).mp q) (by omega)) ?_
      (repeat (first | refine ax_st rfl ?_ | (apply ev_get rfl; assumption; rfl))); try dsimp only
      refine ev_put rfl ho ?_ ?_ ?_; exact Nat.le_of_ble_eq_true rfl; rfl
      exact ax_rt rfl
    · rw [List.length_take, Nat.min_eq_left hk]
      exact ho.st _ _
    · intro j hj
      rw [List.length_take] at hj
      rw [hf j (by omega)]
      congr 1
      simp only [List.getD, List.getElem?_take]
      rw [if_pos (by omega)]
    · intro x hx'
      exact hx x (List.mem_of_mem_take hx')
  · have hke : k = t.length := by omega
    refine ⟨h, ?_, ⟨f, by rw [hke, List.take_length]; exact ho, hc, by rw [hke, List.take_length]; exact hl, by rw [hke, List.take_length]; exact hf, by rw [hke, List.take_length]; exact hx, hcf⟩, fr.rf⟩
    (repeat (first | refine ax_st rfl ?_ | (apply ev_get rfl; assumption; rfl))); try dsimp only
    refine ev_f (nI_pos hkb) ?_
    (repeat (first | refine ax_st rfl ?_ | (apply ev_get rfl; assumption; rfl))); try dsimp only
    refine ev_tb (decide_eq_true ?_) ?_
    · rw [hke]; exact Int32.le_refl _
    · exact ax_rt rfl
/-- the loop of insert, at k -/
theorem ins_loop {d o c a len : Nat} {x : Int32} (hx : cf x) (hlen : len < 60) : ∀ (n k : Nat) (h : ax_H) (g : Nat → Int32), k = a + n → k ≤ len → ob h o 5 [.inr (some c), .inl (nI len)] → ar h c 1 60 g → (∀ j, cf (g j)) →
    ∃ (h' : ax_H) (g' : Nat → Int32), Ev d 41 15 [some (.inr (some o)), some (.inl (nI a)), some (.inl x), some (.inl (nI k))] [] h (some (.inl 1)) h' ∧ ob h' o 5 [.inr (some c), .inl (nI (len + 1))] ∧ ar h' c 1 60 g' ∧ (∀ j, cf (g' j)) ∧ (∀ j, g' j = if j = a then x else if a < j ∧ j ≤ k then g (j - 1) else g j) ∧ fr h h' (fun q => q = o ∨ q = c) := by
  intro n
  induction n with
  | zero =>
    intro k h g hk hkl ho hc hcf
    have hka : k = a := by omega
    subst hka
    have hne := ob_ar ho hc
    refine ⟨ax_set (ax_set h c (.inl (1, 60, .inl (upd g k x)))) o (.inr (5, [.inr (some c), .inl (nI (len + 1))])), upd g k x, ?_, (ho.ne _ hne).st _ _, ((hc.st _).ne _ (Ne.symm hne)), ?_, ?_, (fr.st (Or.inr rfl)).tr (fr.st (Or.inl rfl))⟩
    · (repeat (first | refine ax_st rfl ?_ | (apply ev_get rfl; assumption; rfl))); try dsimp only
      refine ev_t (Int32.le_refl _) ?_
      (repeat (first | refine ax_st rfl ?_ | (apply ev_get rfl; assumption; rfl))); try dsimp only
      refine ev_ast rfl hc ?_ ?_; exact in_nI (by omega) (by decide)
      rw [if_pos rfl, cf_nar hx, nI_clamp (by omega)]
      have ho2 := ho.ne (.inl (1, 60, .inl (upd g k x))) hne
      (repeat (first | refine ax_st rfl ?_ | (apply ev_get rfl; assumption; rfl))); try dsimp only
      refine ev_put rfl ho2 ?_ ?_ ?_; exact Nat.le_of_ble_eq_true rfl; rfl
      rw [← nI_1]
      (repeat (first | refine ax_st rfl ?_ | (apply ev_get rfl; assumption; rfl))); try dsimp only
      exact ax_rt rfl
    · intro j
      unfold upd
      split
      · exact hx
      · exact hcf j
    · intro j
      unfold upd
      by_cases hj : j = k
      · rw [if_pos hj, if_pos hj]
      · rw [if_neg hj, if_neg hj, if_neg (by omega)]
  | succ n ih =>
    intro k h g hk hkl ho hc hcf
    have hne := ob_ar ho hc
    obtain ⟨h', g', e1, e2, e3, e4, e5, e6⟩ := ih (k - 1) (ax_set h c (.inl (1, 60, .inl (upd g k (g (k - 1)))))) (upd g k (g (k - 1))) (by omega) (by omega) (ho.ne _ hne) (hc.st _) (fun j => by
      unfold upd
      split
      · exact hcf _
      · exact hcf j)
    refine ⟨h', g', ?_, e2, e3, e4, ?_, (fr.st (Or.inr rfl)).tr e6⟩
    · (repeat (first | refine ax_st rfl ?_ | (apply ev_get rfl; assumption; rfl))); try dsimp only
      refine ev_f (fun q => absurd ((nI_leI (by omega) (by omega)).mp q) (by omega)) ?_
      refine ax_st rfl ?_
      refine ev_get rfl ho rfl ?_
      (repeat (first | refine ax_st rfl ?_ | (apply ev_get rfl; assumption; rfl))); try dsimp only
      have em : nI k - 1 = nI (k - 1) := pk_sub (a := k) (b := 1) (by omega)
      rw [em]
      refine ev_ald rfl hc ?_ ?_; exact in_nI (by omega) (by decide)
      refine ev_ast rfl hc ?_ ?_; exact in_nI (by omega) (by decide)
      rw [if_pos rfl, nI_clamp (by omega), nI_clamp (by omega), cf_nar (hcf _)]
      rw [← sb_m1 (p := k) (by omega)] at e1
      repeat (first | (exact e1) | refine ax_st rfl ?_ | (apply ev_get rfl; assumption; rfl))
    · intro j
      rw [e5]
      unfold upd
      by_cases h1 : j = a
      · rw [if_pos h1, if_pos h1]
      · rw [if_neg h1, if_neg h1]
        by_cases h2 : a < j ∧ j ≤ k - 1
        · rw [if_pos h2, if_neg (by omega), if_pos ⟨h2.1, by omega⟩]
        · rw [if_neg h2]
          by_cases h3 : j = k
          · subst h3
            rw [if_pos rfl, if_pos (by omega)]
          · rw [if_neg h3, if_neg (by omega)]
theorem tx_insert {d o c : Nat} {h : ax_H} {t : List Nat} (a : tx h o c t) {k x : Nat} (hk : k ≤ t.length) (hx : x < 65536) (hl60 : t.length < 60) : ∃ h', mt d 41 [.inr (some o), .inl (nI k), .inl (nI x)] h (some (.inl 1)) h' ∧ tx h' o c (t.take k ++ x :: t.drop k) ∧ fr h h' (fun q => q = o ∨ q = c) := by
  obtain ⟨f, ho, hc, hl, hf, hxx, hcf⟩ := a
  obtain ⟨h', g', e1, e2, e3, e4, e5, e6⟩ := ins_loop (d := d) (o := o) (c := c) (a := k) (len := t.length) (cf_nI hx) hl60 (t.length - k) t.length h f (by omega) (Nat.le_refl _) ho hc hcf
  have hlen : (t.take k ++ x :: t.drop k).length = t.length + 1 := by
    rw [List.length_append, List.length_cons, List.length_take, List.length_drop]; omega
  refine ⟨h', ?_, ⟨g', by rw [hlen]; exact e2, e3, by rw [hlen]; omega, ?_, ?_, e4⟩, e6⟩
  · (repeat (first | refine ax_st rfl ?_ | (apply ev_get rfl; assumption; rfl))); try dsimp only
    refine ev_f (fun q => absurd ((nI_leI (a := 60) (by decide) (by omega)).mp q) (by omega)) ?_
    (repeat (first | refine ax_st rfl ?_ | (apply ev_get rfl; assumption; rfl))); try dsimp only
    refine ev_f (nI_pos (by omega)) ?_
    (repeat (first | refine ax_st rfl ?_ | (apply ev_get rfl; assumption; rfl))); try dsimp only
    refine ev_t ((nI_leI (by omega) (by omega)).mpr hk) ?_
    repeat (first | (exact e1) | refine ax_st rfl ?_ | (apply ev_get rfl; assumption; rfl))
  · intro j hj
    rw [hlen] at hj
    rw [e5 j]
    simp only [List.getD, List.getElem?_append, List.length_take, Nat.min_eq_left hk]
    by_cases h1 : j = k
    · subst h1
      rw [if_pos rfl, if_neg (by omega)]
      simp
    · rw [if_neg h1]
      by_cases h2 : k < j
      · rw [if_pos (by omega), if_neg (by omega), hf (j - 1) (by omega)]
        rw [show j - k = (j - k - 1) + 1 by omega, List.getElem?_cons_succ, List.getElem?_drop]
        rw [show k + (j - k - 1) = j - 1 by omega]
        rfl
      · rw [if_neg (by omega), if_pos (by omega), hf j (by omega), List.getElem?_take, if_pos (by omega)]
        rfl
  · intro y hy
    rcases List.mem_append.mp hy with q | q
    · exact hxx y (List.mem_of_mem_take q)
    · rcases List.mem_cons.mp q with rfl | q
      · exact hx
      · exact hxx y (List.mem_of_mem_drop q)
theorem tx_insertF {d o c : Nat} {h : ax_H} {t : List Nat} (a : tx h o c t) (k x : Int32) (hl60 : t.length = 60) : mt d 41 [.inr (some o), .inl k, .inl x] h (some (.inl 0)) h := by
  obtain ⟨f, ho, -⟩ := a
  rw [hl60] at ho
  (repeat (first | refine ax_st rfl ?_ | (apply ev_get rfl; assumption; rfl))); try dsimp only
  exact ax_rt rfl
theorem tx_append {d o c : Nat} {h : ax_H} {t : List Nat} (a : tx h o c t) {x : Nat} (hx : x < 65536) (hl60 : t.length < 60) : ∃ h', mt (d + 1) 40 [.inr (some o), .inl (nI x)] h (some (.inl 1)) h' ∧ tx h' o c (t ++ [x]) ∧ fr h h' (fun q => q = o ∨ q = c) := by
  obtain ⟨h', e1, e2, e3⟩ := tx_insert (d := d) a (Nat.le_refl _) hx hl60
  rw [List.take_length, List.drop_length] at e2
  refine ⟨h', ?_, e2, e3⟩
  have ho := a.ob
  (repeat (first | refine ax_st rfl ?_ | (apply ev_get rfl; assumption; rfl))); try dsimp only
  refine ev_callV rfl ho ⟨rfl, rfl, Nat.le_of_ble_eq_true rfl, Nat.le_of_ble_eq_true rfl⟩ (e1) ?_
  exact ax_rt rfl
theorem tx_appendF {d o c : Nat} {h : ax_H} {t : List Nat} (a : tx h o c t) (x : Int32) (hl60 : t.length = 60) : mt (d + 1) 40 [.inr (some o), .inl x] h (some (.inl 0)) h := by
  have e1 := tx_insertF (d := d) a (nI t.length) x hl60
  have ho := a.ob
  (repeat (first | refine ax_st rfl ?_ | (apply ev_get rfl; assumption; rfl))); try dsimp only
  refine ev_callV rfl ho ⟨rfl, rfl, Nat.le_of_ble_eq_true rfl, Nat.le_of_ble_eq_true rfl⟩ (e1) ?_
  exact ax_rt rfl
/-- how many times x stands in t from k on; whether it does -/
theorem cnt_loop {d o c x : Nat} {h : ax_H} {t : List Nat} (a : tx h o c t) (hx : x < 65536) : ∀ (n k m : Nat), k + n = t.length → m + n < 2 ^ 31 →
    Ev (d + 1) 43 4 [some (.inr (some o)), some (.inl (nI x)), some (.inl (nI m)), some (.inl (nI k))] [] h (some (.inl (nI (m + (t.drop k).count x)))) h := by
  have ho := a.ob
  have hl := a.len
  have hxs : ∀ y ∈ t, y < 65536 := by obtain ⟨_, _, _, _, _, q, _⟩ := a; exact q
  intro n
  induction n with
  | zero =>
    intro k m hk hm
    rw [List.drop_eq_nil_of_le (by omega)]
    (repeat (first | refine ax_st rfl ?_ | (apply ev_get rfl; assumption; rfl))); try dsimp only
    refine ev_t ((nI_leI (by omega) (by omega)).mpr (by omega)) ?_
    (repeat (first | refine ax_st rfl ?_ | (apply ev_get rfl; assumption; rfl))); try dsimp only
    exact ax_rt rfl
  | succ n ih =>
    intro k m hk hm
    have hk' : k < t.length := by omega
    (repeat (first | refine ax_st rfl ?_ | (apply ev_get rfl; assumption; rfl))); try dsimp only
    refine ev_f (fun q => absurd ((nI_leI (by omega) (by omega)).mp q) (by omega)) ?_
    (repeat (first | refine ax_st rfl ?_ | (apply ev_get rfl; assumption; rfl))); try dsimp only
    refine ev_callV rfl ho ⟨rfl, rfl, Nat.le_of_ble_eq_true rfl, Nat.le_of_ble_eq_true rfl⟩ (tx_get a (nI k)) ?_
    rw [tg_nI t (by omega)]
    (repeat (first | refine ax_st rfl ?_ | (apply ev_get rfl; assumption; rfl))); try dsimp only
    have hd : t.drop k = t.getD k 0 :: t.drop (k + 1) := by
      rw [List.drop_eq_getElem_cons hk']
      simp [List.getD, hk']
    have hy : t.getD k 0 < 65536 := by
      have := hxs (t.getD k 0) (by rw [List.getD_eq_getElem?_getD, List.getElem?_eq_getElem hk']; exact List.getElem_mem hk')
      exact this
    rw [hd, List.count_cons]
    refine ev_if (fun c1 => ?_) (fun c1 => ?_)
    · have hne : t.getD k 0 ≠ x := fun q => c1 (by rw [q])
      have e1 := ih (k + 1) m (by omega) (by omega)
      rw [← nI_1 k] at e1
      simp only [beq_iff_eq, hne, if_false, Nat.add_zero]
      repeat (first | (exact e1) | refine ax_st rfl ?_ | (apply ev_get rfl; assumption; rfl))
    · have heq : t.getD k 0 = x := (nI_eq (by omega) (by omega)).mp (Decidable.not_not.mp c1)
      have e1 := ih (k + 1) (m + 1) (by omega) (by omega)
      rw [← nI_1 k, ← nI_1 m, show m + 1 + (t.drop (k + 1)).count x = m + ((t.drop (k + 1)).count x + 1) by omega] at e1
      simp only [heq, beq_self_eq_true, if_true]
      repeat (first | (exact e1) | refine ax_st rfl ?_ | (apply ev_get rfl; assumption; rfl))
theorem tx_count {d o c x : Nat} {h : ax_H} {t : List Nat} (a : tx h o c t) (hx : x < 65536) : mt (d + 1) 43 [.inr (some o), .inl (nI x)] h (some (.inl (nI (t.count x)))) h := by
  have e1 := cnt_loop (d := d) a hx t.length 0 0 (by omega) (by have := a.len; omega)
  rw [List.drop_zero, Nat.zero_add] at e1
  repeat (first | (exact e1) | refine ax_st rfl ?_ | (apply ev_get rfl; assumption; rfl))
theorem has_loop {d o c x s0 : Nat} {h : ax_H} {t : List Nat} (a : tx h o c t) (hx : x < 65536) : ∀ (n k : Nat), k + n = t.length →
    Ev (d + 1) 44 2 [some (.inr (some o)), some (.inl (nI s0)), some (.inl (nI x)), some (.inl (nI k))] [] h (some (.inl (if x ∈ t.drop k then 1 else 0))) h := by
  have ho := a.ob
  have hl := a.len
  have hxs : ∀ y ∈ t, y < 65536 := by obtain ⟨_, _, _, _, _, q, _⟩ := a; exact q
  intro n
  induction n with
  | zero =>
    intro k hk
    rw [List.drop_eq_nil_of_le (by omega)]
    (repeat (first | refine ax_st rfl ?_ | (apply ev_get rfl; assumption; rfl))); try dsimp only
    refine ev_t ((nI_leI (by omega) (by omega)).mpr (by omega)) ?_
    (repeat (first | refine ax_st rfl ?_ | (apply ev_get rfl; assumption; rfl))); try dsimp only
    exact ax_rt rfl
  | succ n ih =>
    intro k hk
    have hk' : k < t.length := by omega
    (repeat (first | refine ax_st rfl ?_ | (apply ev_get rfl; assumption; rfl))); try dsimp only
    refine ev_f (fun q => absurd ((nI_leI (by omega) (by omega)).mp q) (by omega)) ?_
    (repeat (first | refine ax_st rfl ?_ | (apply ev_get rfl; assumption; rfl))); try dsimp only
    refine ev_callV rfl ho ⟨rfl, rfl, Nat.le_of_ble_eq_true rfl, Nat.le_of_ble_eq_true rfl⟩ (tx_get a (nI k)) ?_
    rw [tg_nI t (by omega)]
    (repeat (first | refine ax_st rfl ?_ | (apply ev_get rfl; assumption; rfl))); try dsimp only
    have hd : t.drop k = t.getD k 0 :: t.drop (k + 1) := by
      rw [List.drop_eq_getElem_cons hk']
      simp [List.getD, hk']
    have hy : t.getD k 0 < 65536 := by
      have := hxs (t.getD k 0) (by rw [List.getD_eq_getElem?_getD, List.getElem?_eq_getElem hk']; exact List.getElem_mem hk')
      exact this
    rw [hd]
    refine ev_if (fun c1 => ?_) (fun c1 => ?_)
    · have hne : ¬ x = t.getD k 0 := fun q => c1 (by rw [q])
      have e1 := ih (k + 1) (by omega)
      rw [← nI_1 k] at e1
      simp only [List.mem_cons, hne, false_or]
      repeat (first | (exact e1) | refine ax_st rfl ?_ | (apply ev_get rfl; assumption; rfl))
    · have heq : t.getD k 0 = x := (nI_eq (by omega) (by omega)).mp (Decidable.not_not.mp c1)
      rw [if_pos (by rw [heq]; exact List.mem_cons_self)]
      (repeat (first | refine ax_st rfl ?_ | (apply ev_get rfl; assumption; rfl))); try dsimp only
      exact ax_rt rfl
theorem tx_has {d o c x k : Nat} {h : ax_H} {t : List Nat} (a : tx h o c t) (hx : x < 65536) (hk : k ≤ t.length) : mt (d + 1) 44 [.inr (some o), .inl (nI k), .inl (nI x)] h (some (.inl (if x ∈ t.drop k then 1 else 0))) h := by
  have e1 := has_loop (d := d) (s0 := k) a hx (t.length - k) k (by omega)
  repeat (first | (exact e1) | refine ax_st rfl ?_ | (apply ev_get rfl; assumption; rfl))
/-- the two halves are alike -/
theorem two_loop {d o c s0 m w : Nat} {h : ax_H} {t : List Nat} (a : tx h o c t) (hs : s0 + w = m) (hm : m + w = t.length) : ∀ (n k : Nat), k + n = w →
    Ev (d + 1) 45 14 [some (.inr (some o)), some (.inl (nI s0)), some (.inl (nI m)), some (.inl (nI w)), some (.inl (nI k))] [] h (some (.inl (if (t.drop (s0 + k)).take n = t.drop (m + k) then 1 else 0))) h := by
  have ho := a.ob
  have hl := a.len
  have hxs : ∀ y ∈ t, y < 65536 := by obtain ⟨_, _, _, _, _, q, _⟩ := a; exact q
  have hb : ∀ i, i < t.length → t.getD i 0 < 65536 := fun i hi => hxs _ (by rw [List.getD_eq_getElem?_getD, List.getElem?_eq_getElem hi]; exact List.getElem_mem hi)
  have hd : ∀ i, i < t.length → t.drop i = t.getD i 0 :: t.drop (i + 1) := fun i hi => by
    rw [List.drop_eq_getElem_cons hi]
    simp [List.getD, hi]
  intro n
  induction n with
  | zero =>
    intro k hk
    rw [List.drop_eq_nil_of_le (by omega : t.length ≤ m + k)]
    (repeat (first | refine ax_st rfl ?_ | (apply ev_get rfl; assumption; rfl))); try dsimp only
    refine ev_t ((nI_leI (by omega) (by omega)).mpr (by omega)) ?_
    (repeat (first | refine ax_st rfl ?_ | (apply ev_get rfl; assumption; rfl))); try dsimp only
    exact ax_rt rfl
  | succ n ih =>
    intro k hk
    (repeat (first | refine ax_st rfl ?_ | (apply ev_get rfl; assumption; rfl))); try dsimp only
    refine ev_f (fun q => absurd ((nI_leI (by omega) (by omega)).mp q) (by omega)) ?_
    (repeat (first | refine ax_st rfl ?_ | (apply ev_get rfl; assumption; rfl))); try dsimp only
    rw [nI_add]
    refine ev_callV rfl ho ⟨rfl, rfl, Nat.le_of_ble_eq_true rfl, Nat.le_of_ble_eq_true rfl⟩ (tx_get a (nI (s0 + k))) ?_
    rw [tg_nI t (by omega)]
    (repeat (first | refine ax_st rfl ?_ | (apply ev_get rfl; assumption; rfl))); try dsimp only
    rw [nI_add]
    refine ev_callV rfl ho ⟨rfl, rfl, Nat.le_of_ble_eq_true rfl, Nat.le_of_ble_eq_true rfl⟩ (tx_get a (nI (m + k))) ?_
    rw [tg_nI t (by omega)]
    (repeat (first | refine ax_st rfl ?_ | (apply ev_get rfl; assumption; rfl))); try dsimp only
    rw [hd (s0 + k) (by omega), hd (m + k) (by omega), List.take_succ_cons]
    have h1 := hb (s0 + k) (by omega)
    have h2 := hb (m + k) (by omega)
    refine ev_if (fun c1 => ?_) (fun c1 => ?_)
    · have heq := (nI_eq (by omega) (by omega)).mp c1
      have e1 := ih (k + 1) (by omega)
      rw [← nI_1 k] at e1
      rw [heq]
      simp only [List.cons.injEq, true_and]
      repeat (first | (exact e1) | refine ax_st rfl ?_ | (apply ev_get rfl; assumption; rfl))
    · have hne : ¬ t.getD (s0 + k) 0 = t.getD (m + k) 0 := fun q => c1 (by rw [q])
      simp only [List.cons.injEq, hne, false_and, if_false]
      (repeat (first | refine ax_st rfl ?_ | (apply ev_get rfl; assumption; rfl))); try dsimp only
      exact ax_rt rfl
theorem tx_two {d o c s0 m : Nat} {h : ax_H} {t : List Nat} (a : tx h o c t) (hs : s0 ≤ m) (hm : m ≤ t.length) : mt (d + 1) 45 [.inr (some o), .inl (nI s0), .inl (nI m)] h (some (.inl (if (t.drop s0).take (m - s0) = t.drop m then 1 else 0))) h := by
  have ho := a.ob
  have hl := a.len
  (repeat (first | refine ax_st rfl ?_ | (apply ev_get rfl; assumption; rfl))); try dsimp only
  rw [pk_sub hs, pk_sub hm]
  refine ev_if (fun c1 => ?_) (fun c1 => ?_)
  · have hw := (nI_eq (by omega) (by omega)).mp c1
    have e1 := two_loop (d := d) (s0 := s0) (m := m) (w := m - s0) a (by omega) (by omega) (m - s0) 0 (by omega)
    rw [Nat.add_zero, Nat.add_zero] at e1
    repeat (first | (exact e1) | refine ax_st rfl ?_ | (apply ev_get rfl; assumption; rfl))
  · have hw : ¬ t.length - m = m - s0 := fun q => c1 (by rw [q])
    rw [if_neg (fun q => hw (by have := congrArg List.length q; rw [List.length_take, List.length_drop, List.length_drop] at this; omega))]
    (repeat (first | refine ax_st rfl ?_ | (apply ev_get rfl; assumption; rfl))); try dsimp only
    exact ax_rt rfl
