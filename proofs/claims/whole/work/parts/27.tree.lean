/-! Protocols as trees; their texts. In a branch list: mulL a branch with its label, add two lists side by side. -/
abbrev Tr : Type := Nat.Internal.Linear.Expr
def rn : Tr → Bool → List Nat
  | .num _, _ => [101]
  | .var x, _ => [x]
  | .mulL k g, b => (if b then [k, 46] else [109, k, 46]) ++ rn g false
  | .mulR bs k, _ => [k / 256, k % 256, 123] ++ (rn bs true ++ [125])
  | .add l r, _ => rn l true ++ 44 :: rn r true
def wf : Tr → Bool → Prop
  | .num n, b => b = false ∧ n = 0
  | .var x, b => b = false ∧ isV x = true
  | .mulL k g, b => (if b then isL k = true else isV k = true) ∧ wf g false
  | .mulR bs k, b => b = false ∧ isR (k / 256) = true ∧ isR (k % 256) = true ∧ wf bs true
  | .add l r, b => b = true ∧ wf l true ∧ wf r true
/-- how deep -/
def ht : Tr → Nat
  | .mulL _ g => ht g + 1
  | .mulR bs _ => ht bs
  | .add l r => max (ht l) (ht r)
  | _ => 0
/-- the label of the first branch -/
def fl : Tr → Nat
  | .mulL k _ => k
  | .add l _ => fl l
  | _ => 0
/-- sound: loops around (by bits), loops around the message that is open, labels used there -/
def sd : Tr → Bool → Nat → Nat → Nat → Bool × Nat
  | .num _, _, _, _, lu => (true, lu)
  | .var x, _, _, la, lu => (la.testBit (x - 88), lu)
  | .mulL k g, b, lo, la, lu => if b then ((sd g false la la 0).1, lu) else (!lo.testBit (k - 88) && (sd g false (lo ||| 2 ^ (k - 88)) la 0).1, lu)
  | .mulR bs k, _, lo, _, lu => (decide (k / 256 ≠ k % 256) && (sd bs true 0 lo (2 ^ (fl bs - 112))).1, lu)
  | .add l r, _, _, la, lu => if (sd l true 0 la lu).1 = true ∧ (sd l true 0 la lu).2.testBit (fl r - 112) = false then sd r true 0 la ((sd l true 0 la lu).2 ||| 2 ^ (fl r - 112)) else (false, 0)
theorem rn_pos : ∀ (t : Tr) (b : Bool), wf t b → 0 < (rn t b).length
  | .num _, b, _ => by simp [rn]
  | .var _, b, _ => by simp [rn]
  | .mulL _ _, b, _ => by cases b <;> simp [rn]
  | .mulR _ _, b, _ => by simp [rn]
  | .add _ _, b, _ => by simp [rn]; omega
theorem rn_ht : ∀ (t : Tr) (b : Bool), wf t b → 2 * ht t < (rn t b).length
  | .num _, b, _ => by simp [rn, ht]
  | .var _, b, _ => by simp [rn, ht]
  | .mulL k g, b, h => by
    have := rn_ht g false h.2
    cases b <;> simp [rn, ht] <;> omega
  | .mulR bs k, b, h => by
    have := rn_ht bs true h.2.2.2
    simp [rn, ht]
    omega
  | .add l r, b, h => by
    have h1 := rn_ht l true h.2.1
    have h2 := rn_ht r true h.2.2
    simp only [rn, ht, List.length_append, List.length_cons]
    omega
theorem fl_L : ∀ (t : Tr), wf t true → isL (fl t) = true ∧ ∃ w, rn t true = fl t :: 46 :: w
  | .num _, h => by simp [wf] at h
  | .var _, h => by simp [wf] at h
  | .mulL k g, h => ⟨h.1, rn g false, rfl⟩
  | .mulR _ _, h => by simp [wf] at h
  | .add l r, h => by
    obtain ⟨a, w, hw⟩ := fl_L l h.2.1
    exact ⟨a, w ++ 44 :: rn r true, by simp [rn, fl, hw]⟩
/-- bits -/
theorem bit_sh : ∀ i, i < 8 → (1 : Int32) <<< (nI i &&& 31) = nI (2 ^ i) := by decide +kernel
theorem bit_and : ∀ m, m < 64 → ∀ i, i < 6 → ((nI m &&& nI (2 ^ i)) = 0 ↔ m.testBit i = false) := by decide +kernel
theorem bit_or : ∀ m, m < 64 → ∀ i, i < 6 → (nI m ||| nI (2 ^ i)) = nI (m ||| 2 ^ i) := by decide +kernel
theorem bit_or64 : ∀ m, m < 64 → ∀ i, i < 6 → (m ||| 2 ^ i) < 64 := by decide +kernel
theorem bit_or8 : ∀ m, m < 8 → ∀ i, i < 3 → (m ||| 2 ^ i) < 8 := by decide +kernel
theorem isV_b {x : Nat} (h : isV x = true) : 88 ≤ x ∧ x < 91 := of_decide_eq_true h
theorem isR_b {x : Nat} (h : isR x = true) : 65 ≤ x ∧ x < 69 := of_decide_eq_true h
theorem isL_b {x : Nat} (h : isL x = true) : 112 ≤ x ∧ x < 118 := of_decide_eq_true h
theorem V_sub {x : Nat} (h : isV x = true) : nI x - 88 = nI (x - 88) := pk_sub (a := x) (b := 88) (isV_b h).1
theorem L_sub {x : Nat} (h : isL x = true) : nI x - 112 = nI (x - 112) := pk_sub (a := x) (b := 112) (isL_b h).1
/-- a place in a text -/
theorem gd_at (u w : List Nat) (k : Nat) : (u ++ w).getD (u.length + k) 0 = w.getD k 0 := by
  simp [List.getD, List.getElem?_append_right]
theorem gd_lt (u w : List Nat) {k : Nat} (h : k < u.length) : (u ++ w).getD k 0 = u.getD k 0 := by
  simp [List.getD, List.getElem?_append_left h]
