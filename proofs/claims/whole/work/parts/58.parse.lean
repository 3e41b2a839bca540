/-! A text without fault is a protocol's. -/
def acc : List Nat → Nat → Nat → Bool
  | [], e, n => decide (e = 6 ∧ n = 0)
  | c :: w, e, n => decide ((gst e n c).1 ≠ 7) && acc w (gst e n c).1 (gst e n c).2
theorem acc_gfl : ∀ (w : List Nat) (e n k : Nat), k + w.length < 2 ^ 30 → gfl w e n k = -1 → acc w e n = true
  | [], e, n, k, hk, h => by
    unfold gfl at h
    unfold acc
    by_cases hh : e = 6 ∧ n = 0
    · exact decide_eq_true hh
    · rw [if_neg hh] at h
      exact absurd h (nI_m1 (by simp at hk; omega))
  | c :: w, e, n, k, hk, h => by
    unfold gfl at h
    unfold acc
    simp only [List.length_cons] at hk
    by_cases hh : (gst e n c).1 = 7
    · rw [if_pos hh] at h
      exact absurd h (nI_m1 (by omega))
    · rw [if_neg hh] at h
      rw [decide_eq_true hh, acc_gfl w _ _ (k + 1) (by omega) h]
      rfl
theorem acc_c {c : Nat} {w : List Nat} {e n : Nat} (h : acc (c :: w) e n = true) : (gst e n c).1 ≠ 7 ∧ acc w (gst e n c).1 (gst e n c).2 = true := by
  unfold acc at h
  rw [Bool.and_eq_true, decide_eq_true_eq] at h
  exact h
theorem acc_1 {w : List Nat} {n : Nat} (h : acc w 1 n = true) : ∃ c w', w = c :: w' ∧ isV c = true ∧ acc w' 5 n = true := by
  cases w with
  | nil => cases h
  | cons c w =>
    obtain ⟨h1, h2⟩ := acc_c h
    have hg : gst 1 n c = (if isV c = true then 5 else 7, n) := rfl
    rw [hg] at h1 h2
    cases hc : isV c with
    | false => rw [hc] at h1; exact absurd rfl h1
    | true => rw [hc] at h2; exact ⟨c, w, rfl, hc, h2⟩
theorem acc_2 {w : List Nat} {n : Nat} (h : acc w 2 n = true) : ∃ c w', w = c :: w' ∧ isR c = true ∧ acc w' 3 n = true := by
  cases w with
  | nil => cases h
  | cons c w =>
    obtain ⟨h1, h2⟩ := acc_c h
    have hg : gst 2 n c = (if isR c = true then 3 else 7, n) := rfl
    rw [hg] at h1 h2
    cases hc : isR c with
    | false => rw [hc] at h1; exact absurd rfl h1
    | true => rw [hc] at h2; exact ⟨c, w, rfl, hc, h2⟩
theorem acc_3 {w : List Nat} {n : Nat} (h : acc w 3 n = true) : ∃ w', w = 123 :: w' ∧ acc w' 4 (n + 1) = true := by
  cases w with
  | nil => cases h
  | cons c w =>
    obtain ⟨h1, h2⟩ := acc_c h
    have hg : gst 3 n c = (if c = 123 then (4, n + 1) else (7, n)) := rfl
    rw [hg] at h1 h2
    by_cases hc : c = 123
    · rw [if_pos hc] at h2; exact ⟨w, by rw [hc], h2⟩
    · rw [if_neg hc] at h1; exact absurd rfl h1
theorem acc_4 {w : List Nat} {n : Nat} (h : acc w 4 n = true) : ∃ c w', w = c :: w' ∧ isL c = true ∧ acc w' 5 n = true := by
  cases w with
  | nil => cases h
  | cons c w =>
    obtain ⟨h1, h2⟩ := acc_c h
    have hg : gst 4 n c = (if isL c = true then 5 else 7, n) := rfl
    rw [hg] at h1 h2
    cases hc : isL c with
    | false => rw [hc] at h1; exact absurd rfl h1
    | true => rw [hc] at h2; exact ⟨c, w, rfl, hc, h2⟩
theorem acc_5 {w : List Nat} {n : Nat} (h : acc w 5 n = true) : ∃ w', w = 46 :: w' ∧ acc w' 0 n = true := by
  cases w with
  | nil => cases h
  | cons c w =>
    obtain ⟨h1, h2⟩ := acc_c h
    have hg : gst 5 n c = (if c = 46 then 0 else 7, n) := rfl
    rw [hg] at h1 h2
    by_cases hc : c = 46
    · rw [if_pos hc] at h2; exact ⟨w, by rw [hc], h2⟩
    · rw [if_neg hc] at h1; exact absurd rfl h1
theorem acc_6 {w : List Nat} {n : Nat} (h : acc w 6 n = true) : (w = [] ∧ n = 0) ∨ (∃ w', w = 44 :: w' ∧ 0 < n ∧ acc w' 4 n = true) ∨ ∃ w', w = 125 :: w' ∧ 0 < n ∧ acc w' 6 (n - 1) = true := by
  cases w with
  | nil => exact Or.inl ⟨rfl, (of_decide_eq_true h).2⟩
  | cons c w =>
    obtain ⟨h1, h2⟩ := acc_c h
    have hg : gst 6 n c = (if n = 0 then (7, n) else if c = 44 then (4, n) else if c = 125 then (6, n - 1) else (7, n)) := rfl
    rw [hg] at h1 h2
    by_cases hn : n = 0
    · rw [if_pos hn] at h1; exact absurd rfl h1
    · rw [if_neg hn] at h1 h2
      by_cases hc : c = 44
      · rw [if_pos hc] at h2; exact Or.inr (Or.inl ⟨w, by rw [hc], by omega, h2⟩)
      · rw [if_neg hc] at h1 h2
        by_cases hc : c = 125
        · rw [if_pos hc] at h2; exact Or.inr (Or.inr ⟨w, by rw [hc], by omega, h2⟩)
        · rw [if_neg hc] at h1; exact absurd rfl h1
theorem parse : ∀ m, (∀ (w : List Nat) (n : Nat), w.length ≤ m → acc w 0 n = true → ∃ t w', wf t false ∧ w = rn t false ++ w' ∧ acc w' 6 n = true) ∧ ∀ (w : List Nat) (n : Nat), w.length ≤ m → acc w 4 (n + 1) = true → ∃ t w', wf t true ∧ w = rn t true ++ 125 :: w' ∧ acc w' 6 n = true
  | 0 => by
    refine ⟨fun w n hm h => ?_, fun w n hm h => ?_⟩
    · cases w with
      | nil => cases h
      | cons c w => exact absurd hm (by simp)
    · cases w with
      | nil => cases h
      | cons c w => exact absurd hm (by simp)
  | m + 1 => by
    obtain ⟨ihP, ihB⟩ := parse m
    refine ⟨fun w n hm h => ?_, fun w n hm h => ?_⟩
    · cases w with
      | nil => cases h
      | cons c w =>
        simp only [List.length_cons] at hm
        obtain ⟨h1, h2⟩ := acc_c h
        have hg : gst 0 n c = (if c = 101 ∨ isV c = true then 6 else if c = 109 then 1 else if isR c = true then 2 else 7, n) := rfl
        rw [hg] at h1 h2
        by_cases c1 : c = 101 ∨ isV c = true
        · rw [if_pos c1] at h2
          rcases c1 with c1 | c1
          · exact ⟨.num 0, w, ⟨rfl, rfl⟩, by rw [c1]; rfl, h2⟩
          · exact ⟨.var c, w, ⟨rfl, c1⟩, rfl, h2⟩
        · rw [if_neg c1] at h1 h2
          by_cases c2 : c = 109
          · rw [if_pos c2] at h2
            obtain ⟨v, w2, rfl, hv, h3⟩ := acc_1 h2
            obtain ⟨w3, rfl, h4⟩ := acc_5 h3
            simp only [List.length_cons] at hm
            obtain ⟨g, w4, hg1, hg2, hg3⟩ := ihP w3 n (by omega) h4
            exact ⟨.mulL v g, w4, ⟨hv, hg1⟩, by rw [c2, hg2]; rfl, hg3⟩
          · rw [if_neg c2] at h1 h2
            by_cases c3 : isR c = true
            · rw [if_pos c3] at h2
              obtain ⟨v, w2, rfl, hv, h3⟩ := acc_2 h2
              obtain ⟨w3, rfl, h4⟩ := acc_3 h3
              simp only [List.length_cons] at hm
              obtain ⟨g, w4, hg1, hg2, hg3⟩ := ihB w3 n (by omega) h4
              have hb := isR_b hv
              have e1 : (c * 256 + v) / 256 = c := by omega
              have e2 : (c * 256 + v) % 256 = v := by omega
              refine ⟨.mulR g (c * 256 + v), w4, ⟨rfl, by rw [e1]; exact c3, by rw [e2]; exact hv, hg1⟩, ?_, hg3⟩
              rw [hg2, rn, e1, e2]
              simp
            · rw [if_neg c3] at h1
              exact absurd rfl h1
    · obtain ⟨l, w2, rfl, hl, h3⟩ := acc_4 h
      obtain ⟨w3, rfl, h4⟩ := acc_5 h3
      simp only [List.length_cons] at hm
      obtain ⟨g, w4, hg1, hg2, hg3⟩ := ihP w3 (n + 1) (by omega) h4
      have hlen : w4.length ≤ w3.length := by rw [hg2]; simp
      rcases acc_6 hg3 with z | ⟨w5, rfl, -, z⟩ | ⟨w5, rfl, -, z⟩
      · exact absurd z.2 (by omega)
      · simp only [List.length_cons] at hlen
        obtain ⟨t2, w6, q1, q2, q3⟩ := ihB w5 n (by omega) z
        refine ⟨.add (.mulL l g) t2, w6, ⟨rfl, ⟨hl, hg1⟩, q1⟩, ?_, q3⟩
        rw [hg2, q2]
        show _ = (rn (.mulL l g) true ++ 44 :: rn t2 true) ++ 125 :: w6
        simp [rn]
      · refine ⟨.mulL l g, w5, ⟨hl, hg1⟩, ?_, z⟩
        rw [hg2]
        simp [rn]
theorem tree_of {tp : List Nat} (hl : tp.length ≤ 60) (h : gfl tp 0 0 0 = -1) : ∃ t, wf t false ∧ tp = rn t false := by
  obtain ⟨t, w, h1, h2, h3⟩ := (parse tp.length).1 tp 0 (Nat.le_refl _) (acc_gfl tp 0 0 0 (by omega) h)
  rcases acc_6 h3 with z | ⟨w5, -, z, -⟩ | ⟨w5, -, z, -⟩
  · rw [z.1, List.append_nil] at h2
    exact ⟨t, h1, h2⟩
  · omega
  · omega
