/-! Parts of sound protocols are parts one can run by. -/
def sdP : Tr → Bool → List Nat → Prop
  | .var x, _, S => x ∈ S
  | .mulL x g, b, S => if b = true then sdP g false S else x ∉ S ∧ sdP g false (x :: S)
  | .mulR bs _, _, S => sdP bs true S
  | .add l r, _, S => sdP l true S ∧ sdP r true S
  | _, _, _ => True
theorem sd_P : ∀ (t : Tr) (S : List Nat) (lo la lu : Nat), (wf t false → (sd t false lo la lu).1 = true → (∀ x, isV x = true → (lo.testBit (x - 88) = true ↔ x ∈ S)) → (∀ x, isV x = true → la.testBit (x - 88) = true → x ∈ S) → sdP t false S) ∧ (wf t true → (sd t true 0 la lu).1 = true → (∀ x, isV x = true → (la.testBit (x - 88) = true ↔ x ∈ S)) → sdP t true S)
  | .num _, S, lo, la, lu => ⟨fun _ _ _ _ => trivial, fun _ _ _ => trivial⟩
  | .var x, S, lo, la, lu => ⟨fun hw h _ h2 => h2 x hw.2 h, fun hw _ _ => absurd hw.1 (by decide)⟩
  | .mulL x g, S, lo, la, lu => by
    refine ⟨fun hw h h1 h2 => ?_, fun hw h h1 => ?_⟩
    · have h : (!lo.testBit (x - 88) && (sd g false (lo ||| 2 ^ (x - 88)) la 0).1) = true := h
      rw [Bool.and_eq_true] at h
      have hx := isV_b hw.1
      refine ⟨fun z => ?_, (sd_P g (x :: S) (lo ||| 2 ^ (x - 88)) la 0).1 hw.2 h.2 (fun y hy => ?_) (fun y hy z => List.mem_cons_of_mem _ (h2 y hy z))⟩
      · have := (h1 x hw.1).mpr z
        rw [this] at h
        exact absurd h.1 (by decide)
      · have hyb := isV_b hy
        rw [Nat.testBit_or, Nat.testBit_two_pow, Bool.or_eq_true, h1 y hy, decide_eq_true_eq, List.mem_cons]
        constructor
        · rintro (z | z)
          · exact Or.inr z
          · exact Or.inl (by omega)
        · rintro (z | z)
          · exact Or.inr (by omega)
          · exact Or.inl z
    · exact (sd_P g S la la 0).1 hw.2 h h1 (fun y hy => (h1 y hy).mp)
  | .mulR bs x, S, lo, la, lu => by
    refine ⟨fun hw h h1 h2 => ?_, fun hw => absurd hw.1 (by decide)⟩
    have h : (decide (x / 256 ≠ x % 256) && (sd bs true 0 lo (2 ^ (fl bs - 112))).1) = true := h
    rw [Bool.and_eq_true] at h
    exact (sd_P bs S 0 lo _).2 hw.2.2.2 h.2 h1
  | .add l r, S, lo, la, lu => by
    refine ⟨fun hw => absurd hw.1 (by decide), fun hw h h1 => ?_⟩
    have hsd : sd (.add l r) true 0 la lu = if (sd l true 0 la lu).1 = true ∧ (sd l true 0 la lu).2.testBit (fl r - 112) = false then sd r true 0 la ((sd l true 0 la lu).2 ||| 2 ^ (fl r - 112)) else (false, 0) := rfl
    rw [hsd] at h
    split at h
    · next hc => exact ⟨(sd_P l S 0 la lu).2 hw.2.1 hc.1 h1, (sd_P r S 0 la _).2 hw.2.2 h h1⟩
    · cases h
theorem CL_drop {y : Nat} : ∀ (l : Tr) (b : Bool) (S S' : List Nat), CL l b S → (∀ z ∈ S, z ≠ y → z ∈ S') → y ∉ rn l b → CL l b S'
  | .num _, _, _, _, _, _, _ => trivial
  | .var x, b, S, S', h, h1, h2 => h1 x h (fun z => h2 (by rw [z]; exact List.mem_singleton.mpr rfl))
  | .mulL x g, b, S, S', h, h1, h2 => by
    cases b with
    | true => exact CL_drop g false S S' h h1 (fun z => h2 (by simp [rn, z]))
    | false =>
      refine CL_drop (y := y) g false (x :: S) (x :: S') h (fun z hz hne => ?_) (fun z => h2 (by simp [rn, z]))
      rcases List.mem_cons.mp hz with q | q
      · rw [q]; exact List.mem_cons_self
      · exact List.mem_cons_of_mem _ (h1 z q hne)
  | .mulR bs x, b, S, S', h, h1, h2 => CL_drop bs true S S' h h1 (fun z => h2 (by simp [rn, z]))
  | .add l r, b, S, S', h, h1, h2 => ⟨CL_drop l true S S' h.1 h1 (fun z => h2 (by simp [rn, z])), CL_drop r true S S' h.2 h1 (fun z => h2 (by simp [rn, z]))⟩
def QP (l : Tr) (b : Bool) (S : List Nat) : Prop := WP l b ∧ GP l b ∧ ND l b ∧ (∀ x ∈ S, noL x l b) ∧ CL l b S
theorem QP_num (S : List Nat) : QP (.num 0) false S := ⟨rfl, trivial, trivial, fun _ _ => trivial, trivial⟩
theorem pt_ok (rc : Nat) : ∀ (t : Tr) (m : Nat) (l : Tr) (S : List Nat), lt rc t m = some l → (m = 0 → wf t false → sdP t false S → QP l false S) ∧ (m = 1 → wf t true → sdP t true S → QP l true S) ∧ (m = 2 → wf t true → sdP t true S → QP l false S)
  | .num _, m, l, S, h => by
    cases h
    exact ⟨fun _ _ _ => QP_num S, fun _ hw => absurd hw.1 (by decide), fun _ hw => absurd hw.1 (by decide)⟩
  | .var x, m, l, S, h => by
    cases h
    exact ⟨fun _ hw hs => ⟨⟨rfl, hw.2⟩, trivial, trivial, fun _ _ => trivial, hs⟩, fun _ hw => absurd hw.1 (by decide), fun _ hw => absurd hw.1 (by decide)⟩
  | .mulL x g, m, l, S, h => by
    unfold lt at h
    refine ⟨fun hm hw hs => ?_, fun hm hw hs => ?_, fun hm hw hs => ?_⟩
    · rw [if_pos hm] at h
      obtain ⟨lg, hlg, rfl⟩ := Option.map_eq_some_iff.mp h
      have hs : x ∉ S ∧ sdP g false (x :: S) := hs
      obtain ⟨q1, q2, q3, q4, q5⟩ := (pt_ok rc g 0 lg (x :: S) hlg).1 rfl hw.2 hs.2
      split
      · exact QP_num S
      · next h1 =>
        split
        · next h2 =>
          have hh : hv lg = false := by
            cases hq : hv lg with
            | false => rfl
            | true =>
              obtain ⟨y, rfl⟩ := hv_var lg q1 q2 hq
              have h2 : x ∈ [y] := h2
              exact absurd (by rw [List.mem_singleton.mp h2]; rfl) h1
          refine ⟨⟨hw.1, q1⟩, ⟨fun _ => hh, q2⟩, ⟨fun _ => q4 x List.mem_cons_self, q3⟩, fun z hz => ⟨fun _ e => hs.1 (by rw [e]; exact hz), q4 z (List.mem_cons_of_mem _ hz)⟩, q5⟩
        · next h2 =>
          refine ⟨q1, q2, q3, fun z hz => q4 z (List.mem_cons_of_mem _ hz), CL_drop lg false (x :: S) S q5 (fun z hz hne => ?_) h2⟩
          exact (List.mem_cons.mp hz).resolve_left hne
    · subst hm
      rw [if_neg (by decide), if_pos rfl] at h
      obtain ⟨lg, hlg, rfl⟩ := Option.map_eq_some_iff.mp h
      obtain ⟨q1, q2, q3, q4, q5⟩ := (pt_ok rc g 0 lg S hlg).1 rfl hw.2 hs
      exact ⟨⟨hw.1, q1⟩, ⟨(fun z => by cases z), q2⟩, ⟨(fun z => by cases z), q3⟩, fun z hz => ⟨(fun z => by cases z), q4 z hz⟩, q5⟩
    · subst hm
      rw [if_neg (by decide), if_neg (by decide)] at h
      exact (pt_ok rc g 0 l S h).1 rfl hw.2 hs
  | .mulR bs k, m, l, S, h => by
    unfold lt at h
    refine ⟨fun hm hw hs => ?_, fun _ hw => absurd hw.1 (by decide), fun _ hw => absurd hw.1 (by decide)⟩
    have hb1 := isR_b hw.2.1
    have hb2 := isR_b hw.2.2.1
    split at h
    · obtain ⟨l1, hl1, rfl⟩ := Option.map_eq_some_iff.mp h
      obtain ⟨q1, q2, q3, q4, q5⟩ := (pt_ok rc bs 1 l1 S hl1).2.1 rfl hw.2.2.2 hs
      exact ⟨⟨rfl, by rw [show (k % 256 * 256 + 33) / 256 = k % 256 by omega]; exact hw.2.2.1, Or.inl (by omega), q1⟩, q2, q3, q4, q5⟩
    · split at h
      · obtain ⟨l1, hl1, rfl⟩ := Option.map_eq_some_iff.mp h
        obtain ⟨q1, q2, q3, q4, q5⟩ := (pt_ok rc bs 1 l1 S hl1).2.1 rfl hw.2.2.2 hs
        exact ⟨⟨rfl, by rw [show (k / 256 * 256 + 63) / 256 = k / 256 by omega]; exact hw.2.1, Or.inr (by omega), q1⟩, q2, q3, q4, q5⟩
      · exact (pt_ok rc bs 2 l S h).2.2 rfl hw.2.2.2 hs
  | .add a b, m, l, S, h => by
    unfold lt at h
    obtain ⟨x, hx, h⟩ := Option.bind_eq_some_iff.mp h
    obtain ⟨y, hy, h⟩ := Option.bind_eq_some_iff.mp h
    refine ⟨fun _ hw => absurd hw.1 (by decide), fun hm hw hs => ?_, fun hm hw hs => ?_⟩
    · rw [if_pos hm] at h
      cases h
      obtain ⟨q1, q2, q3, q4, q5⟩ := (pt_ok rc a m x S hx).2.1 hm hw.2.1 hs.1
      obtain ⟨r1, r2, r3, r4, r5⟩ := (pt_ok rc b m y S hy).2.1 hm hw.2.2 hs.2
      exact ⟨⟨rfl, q1, r1⟩, ⟨q2, r2⟩, ⟨q3, r3⟩, fun z hz => ⟨q4 z hz, r4 z hz⟩, q5, r5⟩
    · rw [if_neg (by omega)] at h
      split at h
      · cases h
        exact (pt_ok rc a m l S hx).2.2 hm hw.2.1 hs.1
      · cases h
theorem pg_of {t l : Tr} {rc : Nat} (hw : wf t false) (hs : (sd t false 0 0 0).1 = true) (hl : (rn t false).length ≤ 60) (h : lt rc t 0 = some l) : PG l := by
  have hp := (sd_P t [] 0 0 0).1 hw hs (fun x _ => by simp) (fun x _ z => by simp at z)
  obtain ⟨q1, q2, q3, q4, q5⟩ := (pt_ok rc t 0 l [] h).1 rfl hw hp
  have := (lt_len rc t 0 l h).1 rfl hw
  exact ⟨⟨q1, q3, q2, q5⟩, by omega⟩
