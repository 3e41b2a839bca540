/-! The part of a role, as a tree. Modes: 0 a protocol, 1 the branches of the role's own message, 2 those of a message of others. -/
def lt (rc : Nat) : Tr → Nat → Option Tr
  | .num _, _ => some (.num 0)
  | .var x, _ => some (.var x)
  | .mulL k g, m => if m = 0 then (lt rc g 0).map (fun l => if rn l false = [k] then .num 0 else if k ∈ rn l false then .mulL k l else l) else if m = 1 then (lt rc g 0).map (fun l => .mulL k l) else lt rc g 0
  | .mulR bs k, _ => if rc = k / 256 then (lt rc bs 1).map (fun l => .mulR l (k % 256 * 256 + 33)) else if rc = k % 256 then (lt rc bs 1).map (fun l => .mulR l (k / 256 * 256 + 63)) else lt rc bs 2
  | .add l r, m => (lt rc l m).bind (fun x => (lt rc r m).bind (fun y => if m = 1 then some (.add x y) else if rn x false = rn y false then some x else none))
theorem lt_len (rc : Nat) : ∀ (t : Tr) (m : Nat) (l : Tr), lt rc t m = some l → (m = 0 → wf t false → (rn l false).length ≤ (rn t false).length) ∧ (m = 1 → wf t true → (rn l true).length ≤ (rn t true).length) ∧ (m = 2 → wf t true → (rn l false).length ≤ (rn t true).length)
  | .num _, m, l, h => by cases h; simp [rn]
  | .var x, m, l, h => by cases h; simp [rn]
  | .mulL k g, m, l, h => by
    unfold lt at h
    have hg := lt_len rc g 0
    refine ⟨fun hm hw => ?_, fun hm hw => ?_, fun hm hw => ?_⟩
    · rw [if_pos hm] at h
      obtain ⟨x, hx, rfl⟩ := Option.map_eq_some_iff.mp h
      have h1 := (hg x hx).1 rfl hw.2
      have h2 := rn_pos g false hw.2
      have h3 : (rn (.mulL k g) false).length = 3 + (rn g false).length := by simp [rn]; omega
      rw [h3]
      split
      · simp [rn]; omega
      · split
        · simp [rn]; omega
        · omega
    · subst hm
      rw [if_neg (by decide), if_pos rfl] at h
      obtain ⟨x, hx, rfl⟩ := Option.map_eq_some_iff.mp h
      have h1 := (hg x hx).1 rfl hw.2
      simp [rn]; omega
    · subst hm
      rw [if_neg (by decide), if_neg (by decide)] at h
      have h1 := (hg l h).1 rfl hw.2
      simp [rn]; omega
  | .mulR bs k, m, l, h => by
    unfold lt at h
    have hg1 := lt_len rc bs 1
    have hg2 := lt_len rc bs 2
    refine ⟨fun hm hw => ?_, fun hm hw => by simp [wf] at hw, fun hm hw => by simp [wf] at hw⟩
    split at h
    · obtain ⟨x, hx, rfl⟩ := Option.map_eq_some_iff.mp h
      have h1 := (hg1 x hx).2.1 rfl hw.2.2.2
      simp [rn]; omega
    · split at h
      · obtain ⟨x, hx, rfl⟩ := Option.map_eq_some_iff.mp h
        have h1 := (hg1 x hx).2.1 rfl hw.2.2.2
        simp [rn]; omega
      · have h1 := (hg2 l h).2.2 rfl hw.2.2.2
        simp [rn]; omega
  | .add a b, m, l, h => by
    unfold lt at h
    obtain ⟨x, hx, h⟩ := Option.bind_eq_some_iff.mp h
    obtain ⟨y, hy, h⟩ := Option.bind_eq_some_iff.mp h
    have h1 := lt_len rc a m x hx
    have h2 := lt_len rc b m y hy
    refine ⟨fun hm hw => by simp [wf] at hw, fun hm hw => ?_, fun hm hw => ?_⟩
    · rw [if_pos hm] at h
      cases h
      have h3 := h1.2.1 hm hw.2.1
      have h4 := h2.2.1 hm hw.2.2
      simp [rn]; omega
    · rw [if_neg (by omega)] at h
      split at h
      · cases h
        have h3 := h1.2.2 hm hw.2.1
        simp [rn]; omega
      · cases h
/-- a part has a character -/
theorem lt_posA (rc : Nat) : ∀ (t : Tr) (m : Nat) (l : Tr), lt rc t m = some l → (m = 0 → wf t false → 0 < (rn l false).length) ∧ (m = 2 → wf t true → 0 < (rn l false).length)
  | .num _, m, l, h => by cases h; simp [rn]
  | .var x, m, l, h => by cases h; simp [rn]
  | .mulL k g, m, l, h => by
    unfold lt at h
    have hg := lt_posA rc g 0
    refine ⟨fun hm hw => ?_, fun hm hw => ?_⟩
    · rw [if_pos hm] at h
      obtain ⟨x, hx, rfl⟩ := Option.map_eq_some_iff.mp h
      have h1 := (hg x hx).1 rfl hw.2
      split
      · simp [rn]
      · split
        · simp [rn]
        · exact h1
    · subst hm
      rw [if_neg (by decide), if_neg (by decide)] at h
      exact (hg l h).1 rfl hw.2
  | .mulR bs k, m, l, h => by
    unfold lt at h
    have hg2 := lt_posA rc bs 2
    refine ⟨fun hm hw => ?_, fun hm hw => by simp [wf] at hw⟩
    split at h
    · obtain ⟨x, hx, rfl⟩ := Option.map_eq_some_iff.mp h
      simp [rn]
    · split at h
      · obtain ⟨x, hx, rfl⟩ := Option.map_eq_some_iff.mp h
        simp [rn]
      · exact (hg2 l h).2 rfl hw.2.2.2
  | .add a b, m, l, h => by
    unfold lt at h
    obtain ⟨x, hx, h⟩ := Option.bind_eq_some_iff.mp h
    obtain ⟨y, hy, h⟩ := Option.bind_eq_some_iff.mp h
    have h1 := lt_posA rc a m x hx
    refine ⟨fun hm hw => by simp [wf] at hw, fun hm hw => ?_⟩
    rw [if_neg (by omega)] at h
    split at h
    · cases h
      exact h1.2 hm hw.2.1
    · cases h
theorem lt_pos (rc : Nat) (t l : Tr) (hw : wf t false) (h : lt rc t 0 = some l) : 0 < (rn l false).length := (lt_posA rc t 0 l h).1 rfl hw
