/-! RoleParts: begin, define. -/
section CL4
variable {d : Nat} {h h1 : ax_H} {tp : List Nat} {mc mv : Int32} {P : Nat → Option Tr} {run : Bool} {pc : Nat → Nat} {rws : Nat → List Int32}
theorem RA.fr {A : Nat → Prop} (R : RA h) (f : fr h h1 A) (h8 : ¬ A 8) (h9 : ¬ A 9) (h10 : ¬ A 10) : RA h1 := by
  obtain ⟨⟨f1, q1, q2⟩, ⟨g, q3, q4⟩, ⟨n, q5, q6⟩⟩ := R
  exact ⟨⟨f1, q1.fr f h8, q2⟩, ⟨g, q3.fr f h9, q4⟩, ⟨n, q5.fr f h10, q6⟩⟩
theorem RG.fr {A : Nat → Prop} (R : RG h) (f : fr h h1 A) (h4 : ¬ A 4) (h5 : ¬ A 5) (h6 : ¬ A 6) (h7 : ¬ A 7) : RG h1 := by
  obtain ⟨⟨u, v, q1⟩, n, lo, f1, g, q2, q3, q4⟩ := R
  exact ⟨⟨u, v, q1.fr f h4⟩, n, lo, f1, g, q2.fr f h5, q3.fr f h6, q4.fr f h7⟩
theorem RR.fr {A : Nat → Prop} {r p : Nat} {Q : Option Tr} (R : RR h r Q p) (f : fr h h1 A) (hA : ¬ A (11 + 4 * r) ∧ ¬ A (12 + 4 * r) ∧ ¬ A (13 + 4 * r) ∧ ¬ A (14 + 4 * r)) : RR h1 r Q p := by
  obtain ⟨⟨b, q1, q2⟩, q3, q, q4⟩ := R
  exact ⟨⟨b, q1.fr f hA.1 hA.2.1, q2⟩, q3.fr f hA.2.2.1, q, q4.fr f hA.2.2.2⟩
theorem RC.pl' {r p' : Nat} (R : RC h tp mc P run pc rws mv) (hr : r < 4) (f : fr h h1 (fun q => q = 13 + 4 * r)) (p1 : pl h1 (13 + 4 * r) (11 + 4 * r) (P r).isSome p') : RC h1 tp mc P run (va_up pc r p') rws mv := by
  obtain ⟨a, A, G, T, RRs, W⟩ := R
  refine ⟨ob.fr a f (by omega), A.fr f (by omega) (by omega) (by omega), G.fr f (by omega) (by omega) (by omega) (by omega), T.fr f (by omega) (by omega), fun s hs => ?_, fun k hk => (W k hk).fr f (by omega) (by omega)⟩
  by_cases hsr : s = r
  · subst hsr
    obtain ⟨⟨b, q1, q2⟩, q3, q, q4⟩ := RRs s hs
    rw [va_up_self]
    exact ⟨⟨b, q1.fr f (by omega) (by omega), q2⟩, p1, q, q4.fr f (by omega)⟩
  · rw [va_up_ne _ _ hsr]
    exact (RRs s hs).fr f ⟨by omega, by omega, by omega, by omega⟩
theorem RC.rw' {k : Nat} {row' : List Int32} (R : RC h tp mc P run pc rws mv) (hk : k < 16) (f : fr h h1 (fun q => q = 27 + 2 * k ∨ q = 28 + 2 * k)) (w1 : rw0 h1 (27 + 2 * k) (28 + 2 * k) row') : RC h1 tp mc P run pc (va_up rws k row') mv := by
  obtain ⟨a, A, G, T, RRs, W⟩ := R
  refine ⟨ob.fr a f (by omega), A.fr f (by omega) (by omega) (by omega), G.fr f (by omega) (by omega) (by omega) (by omega), T.fr f (by omega) (by omega), fun s hs => (RRs s hs).fr f ⟨by omega, by omega, by omega, by omega⟩, fun m hm => ?_⟩
  by_cases hmk : m = k
  · subst hmk
    rw [va_up_self]
    exact w1
  · rw [va_up_ne _ _ hmk]
    exact (W m hm).fr f (by omega) (by omega)
theorem RC.ob' (R : RC h tp mc P run pc rws mv) (mc' : Int32) (run' : Bool) (mv' : Int32) : RC (ax_set h 1 (.inr (6, [.inr (some 2), .inr (some 4), .inr (some 5), .inr (some 8), .inr (some 9), .inr (some 10), .inl mc', .inl (bi run'), .inl mv']))) tp mc' P run' pc rws mv' := by
  obtain ⟨a, A, G, T, RRs, W⟩ := R
  have f : fr h (ax_set h 1 (.inr (6, [.inr (some 2), .inr (some 4), .inr (some 5), .inr (some 8), .inr (some 9), .inr (some 10), .inl mc', .inl (bi run'), .inl mv']))) (fun q => q = 1) := fr.st rfl
  exact ⟨ob.st a _ _, A.fr f (by omega) (by omega) (by omega), G.fr f (by omega) (by omega) (by omega) (by omega), T.fr f (by omega) (by omega), fun s hs => (RRs s hs).fr f ⟨by omega, by omega, by omega, by omega⟩, fun k hk => (W k hk).fr f (by omega) (by omega)⟩
theorem RC.tx' {tp' : List Nat} (R : RC h tp mc P run pc rws mv) (f : fr h h1 (fun q => q = 2 ∨ q = 3)) (t1 : tx h1 2 3 tp') : RC h1 tp' mc P run pc rws mv := by
  obtain ⟨a, A, G, T, RRs, W⟩ := R
  exact ⟨ob.fr a f (by omega), A.fr f (by omega) (by omega) (by omega), G.fr f (by omega) (by omega) (by omega) (by omega), t1, fun s hs => (RRs s hs).fr f ⟨by omega, by omega, by omega, by omega⟩, fun k hk => (W k hk).fr f (by omega) (by omega)⟩
theorem RC.gs' (R : RC h tp mc P run pc rws mv) (f : fr h h1 (fun q => q = 4 ∨ q = 5 ∨ q = 6 ∨ q = 7)) (g1 : RG h1) : RC h1 tp mc P run pc rws mv := by
  obtain ⟨a, A, G, T, RRs, W⟩ := R
  exact ⟨ob.fr a f (by omega), A.fr f (by omega) (by omega) (by omega), g1, T.fr f (by omega) (by omega), fun s hs => (RRs s hs).fr f ⟨by omega, by omega, by omega, by omega⟩, fun k hk => (W k hk).fr f (by omega) (by omega)⟩
theorem RC.role' {r : Nat} {Q : Option Tr} (R : RC h tp mc P run pc rws mv) (hr : r < 4) (f : fr h h1 (fun q => q = 11 + 4 * r ∨ q = 12 + 4 * r ∨ q = 13 + 4 * r ∨ q = 14 + 4 * r)) (r1 : RR h1 r Q (pc r)) : RC h1 tp mc (va_up P r Q) run pc rws mv := by
  obtain ⟨a, A, G, T, RRs, W⟩ := R
  refine ⟨ob.fr a f (by omega), A.fr f (by omega) (by omega) (by omega), G.fr f (by omega) (by omega) (by omega) (by omega), T.fr f (by omega) (by omega), fun s hs => ?_, fun k hk => (W k hk).fr f (by omega) (by omega)⟩
  by_cases hsr : s = r
  · subst hsr
    rw [va_up_self]
    exact r1
  · rw [va_up_ne _ _ hsr]
    exact (RRs s hs).fr f ⟨by omega, by omega, by omega, by omega⟩
theorem RC.eqf {P' : Nat → Option Tr} {pc' : Nat → Nat} {rws' : Nat → List Int32} (R : RC h tp mc P run pc rws mv) (h1 : ∀ r, r < 4 → P' r = P r) (h2 : ∀ r, r < 4 → pc' r = pc r) (h3 : ∀ k, k < 16 → rws' k = rws k) : RC h tp mc P' run pc' rws' mv := by
  obtain ⟨a, A, G, T, RRs, W⟩ := R
  exact ⟨a, A, G, T, fun r hr => by rw [h1 r hr, h2 r hr]; exact RRs r hr, fun k hk => by rw [h3 k hk]; exact W k hk⟩
/-- begin's three loops -/
def fSome (P : Nat → Option Tr) (r : Nat) : Bool := (P r).isSome
theorem bg1 (R : RC h tp mc P run pc rws mv) {h' : ax_H} : ∀ n r, r + n = 4 → (allB (fSome P) n r = true → Ev (d + 5) 52 13 [some (.inr (some 1)), some (.inl (nI 4))] [] h (some (.inl 1)) h' → Ev (d + 5) 52 2 [some (.inr (some 1)), some (.inl (nI r))] [] h (some (.inl 1)) h') ∧ (allB (fSome P) n r = false → Ev (d + 5) 52 2 [some (.inr (some 1)), some (.inl (nI r))] [] h (some (.inl 0)) h) := by
  have a := R.1
  unfold rob at a
  intro n
  induction n with
  | zero =>
    intro r hr
    have : r = 4 := by omega
    subst this
    refine ⟨fun _ k => ?_, fun q => by cases q⟩
    repeat (first | (exact k) | refine ax_st rfl ?_ | (apply ev_get rfl; assumption; rfl))
  | succ n ih =>
    intro r hr
    have e1 := ih (r + 1) (by omega)
    simp only [← nI_1 r] at e1
    have hd : allB (fSome P) (n + 1) r = ((P r).isSome && allB (fSome P) n (r + 1)) := rfl
    rw [hd]
    have head : ∀ {res : Option ax_V} {h2 : ax_H}, Ev (d + 5) 52 8 [some (.inr (some 1)), some (.inl (nI r))] [.inl (bi (P r).isSome)] h res h2 → Ev (d + 5) 52 2 [some (.inr (some 1)), some (.inl (nI r))] [] h res h2 := by
      intro res h2 k
      (repeat (first | refine ax_st rfl ?_ | (apply ev_get rfl; assumption; rfl))); try dsimp only
      refine ev_f (fun q => absurd ((nI_leI (a := 4) (by decide) (by omega)).mp q) (by omega)) ?_
      (repeat (first | refine ax_st rfl ?_ | (apply ev_get rfl; assumption; rfl))); try dsimp only
      refine ev_callV rfl a ⟨rfl, rfl, Nat.le_of_ble_eq_true rfl, Nat.le_of_ble_eq_true rfl⟩ (c_has R (by omega)) ?_
      exact k
    refine ⟨fun q k => head ?_, fun q => head ?_⟩
    · rw [Bool.and_eq_true] at q
      rw [q.1]
      have e2 := e1.1 q.2 k
      refine ax_st rfl ?_
      repeat (first | (exact e2) | refine ax_st rfl ?_ | (apply ev_get rfl; assumption; rfl))
    · cases hs : (P r).isSome with
      | true =>
        rw [hs, Bool.true_and] at q
        have e2 := e1.2 q
        refine ax_st rfl ?_
        repeat (first | (exact e2) | refine ax_st rfl ?_ | (apply ev_get rfl; assumption; rfl))
      | false =>
        (repeat (first | refine ax_st rfl ?_ | (apply ev_get rfl; assumption; rfl))); try dsimp only
        exact ax_rt rfl
def BG (d i : Nat) (x : Int32) (h : ax_H) (Φ : ax_H → Prop) : Prop := ∃ h', Ev (d + 5) 52 i [some (.inr (some 1)), some (.inl x)] [] h (some (.inl 1)) h' ∧ Φ h' ∧ fr h h' (fun q => 0 < q ∧ q < 59)
theorem bg2 (Φ : ax_H → Prop) (I : ∀ r, r < 4 → ∃ l, P r = some l) : ∀ n r (h : ax_H) (pc : Nat → Nat), r + n = 4 → RC h tp mc P run pc rws mv → (∀ (h1 : ax_H) (pc1 : Nat → Nat), RC h1 tp mc P run pc1 rws mv → (∀ s, r ≤ s → s < 4 → pc1 s = gon (ptx P s) 60 0) → (∀ s, s < r → pc1 s = pc s) → BG d 25 (nI 4) h1 Φ) → BG d 15 (nI r) h Φ := by
  intro n
  induction n with
  | zero =>
    intro r h pc hr R K
    have : r = 4 := by omega
    subst this
    obtain ⟨h', q1, q2, q3⟩ := K h pc R (fun s h1 h2 => absurd h1 (by omega)) (fun s _ => rfl)
    refine ⟨h', ?_, q2, q3⟩
    repeat (first | (exact q1) | refine ax_st rfl ?_ | (apply ev_get rfl; assumption; rfl))
  | succ n ih =>
    intro r h pc hr R K
    have a := R.1
    unfold rob at a
    obtain ⟨e, p0, t0⟩ := c_role R I (r := r) (by omega)
    obtain ⟨-, pe, -⟩ := R.2.2.2.2.1 r (by omega)
    obtain ⟨h1, e1, p1, f1⟩ := pl_begin (d := d + 1) ⟨by omega, by omega⟩ pe t0
    have R1 := R.pl' (by omega) f1 p1
    have p0' := pe
    unfold pl at p0'
    obtain ⟨h', q1, q2, q3⟩ := ih (r + 1) h1 (va_up pc r (gon (ptx P r) 60 0)) (by omega) R1 (fun h2 pc2 b1 b2 b3 => K h2 pc2 b1 (fun s u v => by
        by_cases hs : s = r
        · rw [hs, b3 r (by omega), va_up_self]
        · exact b2 s (by omega) v) (fun s u => by rw [b3 s (by omega), va_up_ne _ _ (by omega)]))
    refine ⟨h', ?_, q2, (f1.wk (fun q z => by omega)).tr q3⟩
    rw [← nI_1 r] at q1
    (repeat (first | refine ax_st rfl ?_ | (apply ev_get rfl; assumption; rfl))); try dsimp only
    refine ev_f (fun q => absurd ((nI_leI (a := 4) (by decide) (by omega)).mp q) (by omega)) ?_
    (repeat (first | refine ax_st rfl ?_ | (apply ev_get rfl; assumption; rfl))); try dsimp only
    refine c_player R.2.1 (by omega) rfl ?_
    refine ev_callU rfl p0' ⟨rfl, rfl, Nat.le_of_ble_eq_true rfl, Nat.le_of_ble_eq_true rfl⟩ (e1) ?_
    repeat (first | (exact q1) | refine ax_st rfl ?_ | (apply ev_get rfl; assumption; rfl))
theorem bg3 (Φ : ax_H → Prop) : ∀ n r (h : ax_H) (rws : Nat → List Int32), r + n = 16 → RC h tp mc P run pc rws mv → (∀ (h1 : ax_H) (rws1 : Nat → List Int32), RC h1 tp mc P run pc rws1 mv → (∀ s, r ≤ s → s < 16 → rws1 s = []) → (∀ s, s < r → rws1 s = rws s) → BG d 37 (nI 16) h1 Φ) → BG d 27 (nI r) h Φ := by
  intro n
  induction n with
  | zero =>
    intro r h rws hr R K
    have : r = 16 := by omega
    subst this
    obtain ⟨h', q1, q2, q3⟩ := K h rws R (fun s h1 h2 => absurd h1 (by omega)) (fun s _ => rfl)
    refine ⟨h', ?_, q2, q3⟩
    repeat (first | (exact q1) | refine ax_st rfl ?_ | (apply ev_get rfl; assumption; rfl))
  | succ n ih =>
    intro r h rws hr R K
    have a := R.1
    unfold rob at a
    have hw := R.2.2.2.2.2 r (by omega)
    have hob := hw.ob
    obtain ⟨h1, e1, w1, f1⟩ := rw_clear (d := d + 4) hw
    have R1 := R.rw' (by omega) (f1.wk (fun q z => Or.inl z)) w1
    obtain ⟨h', q1, q2, q3⟩ := ih (r + 1) h1 (va_up rws r []) (by omega) R1 (fun h2 rws2 b1 b2 b3 => K h2 rws2 b1 (fun s u v => by
        by_cases hs : s = r
        · rw [hs, b3 r (by omega), va_up_self]
        · exact b2 s (by omega) v) (fun s u => by rw [b3 s (by omega), va_up_ne _ _ (by omega)]))
    refine ⟨h', ?_, q2, (f1.wk (fun q z => by omega)).tr q3⟩
    rw [← nI_1 r] at q1
    (repeat (first | refine ax_st rfl ?_ | (apply ev_get rfl; assumption; rfl))); try dsimp only
    refine ev_f (fun q => absurd ((nI_leI (a := 16) (by decide) (by omega)).mp q) (by omega)) ?_
    (repeat (first | refine ax_st rfl ?_ | (apply ev_get rfl; assumption; rfl))); try dsimp only
    refine c_row R.2.1 (by omega) rfl ?_
    refine ev_callU rfl hob ⟨rfl, rfl, Nat.le_of_ble_eq_true rfl, Nat.le_of_ble_eq_true rfl⟩ (e1) ?_
    repeat (first | (exact q1) | refine ax_st rfl ?_ | (apply ev_get rfl; assumption; rfl))
theorem allB_t {f : Nat → Bool} : ∀ n k, allB f n k = true → ∀ s, k ≤ s → s < k + n → f s = true
  | 0, k, _, s, h1, h2 => absurd h1 (by omega)
  | n + 1, k, h, s, h1, h2 => by
    unfold allB at h
    rw [Bool.and_eq_true] at h
    by_cases hs : s = k
    · rw [hs]; exact h.1
    · exact allB_t n (k + 1) h.2 s (by omega) (by omega)
theorem c_begin (R : RC h tp mc P run pc rws mv) : ∃ h', mt (d + 5) 52 [.inr (some 1)] h (some (.inl (bi (allB (fSome P) 4 0)))) h' ∧ RC h' tp mc P (if allB (fSome P) 4 0 = true then true else run) (if allB (fSome P) 4 0 = true then (fun r => gon (ptx P r) 60 0) else pc) (if allB (fSome P) 4 0 = true then (fun _ => []) else rws) (if allB (fSome P) 4 0 = true then 0 else mv) ∧ fr h h' (fun q => 0 < q ∧ q < 59) := by
  have a := R.1
  cases hA : allB (fSome P) 4 0 with
  | false =>
    refine ⟨h, ?_, R, fr.rf⟩
    have e1 := (bg1 (d := d) (h' := h) R 4 0 rfl).2 hA
    repeat (first | (exact e1) | refine ax_st rfl ?_ | (apply ev_get rfl; assumption; rfl))
  | true =>
    have I : ∀ r, r < 4 → ∃ l, P r = some l := fun r hr => Option.isSome_iff_exists.mp (allB_t 4 0 hA r (Nat.zero_le _) (by omega))
    rw [if_pos rfl, if_pos rfl, if_pos rfl, if_pos rfl]
    have key : BG d 15 (nI 0) h (fun h' => RC h' tp mc P true (fun r => gon (ptx P r) 60 0) (fun _ => []) 0) := by
      refine bg2 _ I 4 0 h pc rfl R (fun h1 pc1 b1 b2 b3 => ?_)
      have k3 : BG d 27 (nI 0) h1 (fun h' => RC h' tp mc P true (fun r => gon (ptx P r) 60 0) (fun _ => []) 0) := by
        refine bg3 _ 16 0 h1 rws rfl b1 (fun h2 rws2 d1 d2 d3 => ?_)
        have R1 := d1.ob' mc run 0
        have R2 := R1.ob' mc true 0
        refine ⟨_, ?_, R2.eqf (fun _ _ => rfl) (fun r hr => (b2 r (Nat.zero_le _) hr).symm) (fun k hk => (d2 k (Nat.zero_le _) hk).symm), fr.tr (A := fun q => 0 < q ∧ q < 59) (fr.st (by decide)) (fr.st (by decide))⟩
        have a1 := d1.1
        have a2 := R1.1
        unfold rob at a1 a2
        (repeat (first | refine ax_st rfl ?_ | (apply ev_get rfl; assumption; rfl))); try dsimp only
        refine ev_put rfl a1 ?_ ?_ ?_; exact Nat.le_of_ble_eq_true rfl; rfl
        (repeat (first | refine ax_st rfl ?_ | (apply ev_get rfl; assumption; rfl))); try dsimp only
        refine ev_put rfl a2 ?_ ?_ ?_; exact Nat.le_of_ble_eq_true rfl; rfl
        (repeat (first | refine ax_st rfl ?_ | (apply ev_get rfl; assumption; rfl))); try dsimp only
        exact ax_rt rfl
      obtain ⟨h', q1, q2, q3⟩ := k3
      refine ⟨h', ?_, q2, q3⟩
      repeat (first | (exact q1) | refine ax_st rfl ?_ | (apply ev_get rfl; assumption; rfl))
    obtain ⟨h', q1, q2, q3⟩ := key
    refine ⟨h', ?_, q2, q3⟩
    have q0 : Ev (d + 5) 52 13 [some (.inr (some 1)), some (.inl (nI 4))] [] h (some (.inl 1)) h' := by
      repeat (first | (exact q1) | refine ax_st rfl ?_ | (apply ev_get rfl; assumption; rfl))
    have e1 := (bg1 (d := d) R 4 0 rfl).1 hA q0
    repeat (first | (exact e1) | refine ax_st rfl ?_ | (apply ev_get rfl; assumption; rfl))
end CL4
