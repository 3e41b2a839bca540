/-! PartWriter: messages. -/
section WRM
variable {T : List Nat} {w o c rc : Nat}
theorem wr_w (hd : wD w o c) {h : ax_H} {p q : Nat} {b : List Nat} (tb : tx h o c b) : tx (ax_set h w (.inr (1, [.inr (some 2), .inl (nI rc), .inr (some p), .inl (nI q)]))) o c b :=
  tb.fr (A := fun q => q = w) (fr.st rfl) (fun q => hd.1.1 q.symm) (fun q => hd.1.2.1 q.symm)
/-- one of the role's own branches -/
theorem w_own1 (hT : T.length ≤ 60) (hd : wD w o c) {k : Nat} {g : Tr} (ih : wP0 T w o c rc g) : wP1 T w o c rc (.mulL k g) := by
  intro sep u v b D dp n kx h hw hTe hsep hb hn hD hdp a t tb
  obtain ⟨hk, hwg⟩ := hw
  have hk : isL k = true := hk
  have hkb := isL_b hk
  have hDe : 4 * (ht g + 1) + 6 ≤ D := hD
  have hdpe : dp + (ht g + 1) ≤ 40 := hdp
  obtain ⟨e, rfl⟩ : ∃ e, D = e + 6 := ⟨D - 6, by omega⟩
  have hpos := rn_pos g false hwg
  have hln : (rn (.mulL k g) true).length = 2 + (rn g false).length := by simp [rn]; omega
  have hlen : T.length = u.length + (3 + (rn g false).length + v.length) := by rw [hTe]; simp [rn]; omega
  have c0 : T.getD u.length 0 = sep := by rw [hTe]; have := gd_at u (sep :: (rn (.mulL k g) true ++ v)) 0; simpa using this
  have c1 : T.getD (u.length + 1) 0 = k := by rw [hTe]; have := gd_at u (sep :: (rn (.mulL k g) true ++ v)) 1; simpa [rn] using this
  have c2 : T.getD (u.length + 2) 0 = 46 := by rw [hTe]; have := gd_at u (sep :: (rn (.mulL k g) true ++ v)) 2; simpa [rn] using this
  obtain ⟨h1, e1, t1, f1⟩ := tx_append (d := e + 4) tb (x := sep) (by omega) (by omega)
  have F1 : fr h h1 (wA w o c) := f1.wk (fun q z => Or.inr z)
  have T1 := t.fr F1 hd.n2 hd.n3
  have a1 := a.fr f1 (hd.w (fun q z => z))
  obtain ⟨h2, e2, t2, f2⟩ := tx_append (d := e + 4) t1 (x := k) (by omega) (by simp; omega)
  have F2 : fr h1 h2 (wA w o c) := f2.wk (fun q z => Or.inr z)
  have T2 := T1.fr F2 hd.n2 hd.n3
  have a2 := a1.fr f2 (hd.w (fun q z => z))
  obtain ⟨h3, e3, t3, f3⟩ := tx_append (d := e + 4) t2 (x := 46) (by decide) (by simp; omega)
  have F3 : fr h2 h3 (wA w o c) := f3.wk (fun q z => Or.inr z)
  have T3 := T2.fr F3 hd.n2 hd.n3
  have a3 := a2.fr f3 (hd.w (fun q z => z))
  have a4 := a3.st (u.length + 3)
  have F4 : fr h3 (ax_set h3 w (.inr (1, [.inr (some 2), .inl (nI rc), .inr (some o), .inl (nI (u.length + 3))]))) (wA w o c) := fr.st (Or.inl rfl)
  have T4 := T3.fr F4 hd.n2 hd.n3
  have t4 := wr_w (rc := rc) (p := o) (q := u.length + 3) hd t3
  have hbe : b ++ [sep] ++ [k] ++ [46] = b ++ [sep, k, 46] := by simp
  rw [hbe] at t4
  have hul : (u ++ [sep, k, 46]).length = u.length + 3 := by simp
  have IH := ih (u ++ [sep, k, 46]) v (b ++ [sep, k, 46]) (e + 5) (dp + 1) _ hwg (by rw [hTe]; simp [rn]) (by rw [hul]; simp; omega) (by omega) (by omega) (by rw [hul]; exact a4) T4 t4
  rw [hul] at IH
  have FF := ((F1.tr F2).tr F3).tr F4
  have body : ∀ {h5 h' : ax_H} {z : Int32}, mt (e + 5) 8 [.inr (some w), .inl (nI (dp + 1))] (ax_set h3 w (.inr (1, [.inr (some 2), .inl (nI rc), .inr (some o), .inl (nI (u.length + 3))]))) (some (.inl z)) h5 → ∀ r, Ev (e + 6) 12 41 [some (.inr (some w)), some (.inl (nI dp)), some (.inl (nI n)), some (.inl (0 + 1 + 1 + 1))] [.inl z] h5 (some (.inl r)) h' → Ev (e + 6) 12 2 [some (.inr (some w)), some (.inl (nI dp)), some (.inl (nI n)), kx] [] h (some (.inl r)) h' := by
    intro h5 h' z m1 r m2
    have hto := t.ob
    have hto1 := T1.ob
    have hto2 := T2.ob
    have hob := tb.ob
    have hob1 := t1.ob
    have hob2 := t2.ob
    unfold wr at a a1 a2 a3 a4
    (repeat (first | refine ax_st rfl ?_ | (apply ev_get rfl; assumption; rfl))); try dsimp only
    refine ev_f (fun q => absurd ((nI_leI (a := 60) (by decide) (by omega)).mp q) (by omega)) ?_
    (repeat (first | refine ax_st rfl ?_ | (apply ev_get rfl; assumption; rfl))); try dsimp only
    refine ev_callV rfl hto ⟨rfl, rfl, Nat.le_of_ble_eq_true rfl, Nat.le_of_ble_eq_true rfl⟩ (tx_get t (nI u.length)) ?_
    rw [tg_nI T (by omega), c0]
    (repeat (first | refine ax_st rfl ?_ | (apply ev_get rfl; assumption; rfl))); try dsimp only
    refine ev_f (fun q => absurd ((nI_eq (b := 125) (by omega) (by decide)).mp q) (by omega)) ?_
    (repeat (first | refine ax_st rfl ?_ | (apply ev_get rfl; assumption; rfl))); try dsimp only
    rw [show nI u.length + 0 = nI u.length from nI_add u.length 0]
    refine ev_callV rfl hto ⟨rfl, rfl, Nat.le_of_ble_eq_true rfl, Nat.le_of_ble_eq_true rfl⟩ (tx_get t (nI u.length)) ?_
    rw [tg_nI T (by omega), c0]
    refine ev_callV rfl hob ⟨rfl, rfl, Nat.le_of_ble_eq_true rfl, Nat.le_of_ble_eq_true rfl⟩ (e1) ?_
    (repeat (first | refine ax_st rfl ?_ | (apply ev_get rfl; assumption; rfl))); try dsimp only
    rw [show nI u.length + (0 + 1) = nI (u.length + 1) from nI_add u.length 1]
    refine ev_callV rfl hto1 ⟨rfl, rfl, Nat.le_of_ble_eq_true rfl, Nat.le_of_ble_eq_true rfl⟩ (tx_get T1 (nI (u.length + 1))) ?_
    rw [tg_nI T (by omega), c1]
    refine ev_callV rfl hob1 ⟨rfl, rfl, Nat.le_of_ble_eq_true rfl, Nat.le_of_ble_eq_true rfl⟩ (e2) ?_
    (repeat (first | refine ax_st rfl ?_ | (apply ev_get rfl; assumption; rfl))); try dsimp only
    rw [show nI u.length + (0 + 1 + 1) = nI (u.length + 2) from nI_add u.length 2]
    refine ev_callV rfl hto2 ⟨rfl, rfl, Nat.le_of_ble_eq_true rfl, Nat.le_of_ble_eq_true rfl⟩ (tx_get T2 (nI (u.length + 2))) ?_
    rw [tg_nI T (by omega), c2]
    refine ev_callV rfl hob2 ⟨rfl, rfl, Nat.le_of_ble_eq_true rfl, Nat.le_of_ble_eq_true rfl⟩ (e3) ?_
    (repeat (first | refine ax_st rfl ?_ | (apply ev_get rfl; assumption; rfl))); try dsimp only
    refine ev_put rfl a3 ?_ ?_ ?_; exact Nat.le_of_ble_eq_true rfl; rfl
    rw [show nI u.length + 3 = nI (u.length + 3) from nI_add u.length 3]
    (repeat (first | refine ax_st rfl ?_ | (apply ev_get rfl; assumption; rfl))); try dsimp only
    rw [nI_1 dp]
    refine ev_callV rfl a4 ⟨rfl, rfl, Nat.le_of_ble_eq_true rfl, Nat.le_of_ble_eq_true rfl⟩ (m1) ?_
    exact m2
  refine ⟨fun l hl r Φ K => ?_, fun hl => ?_⟩
  · have hl : (lt rc g 0).map (fun l => .mulL k l) = some l := hl
    obtain ⟨x, hx, rfl⟩ := Option.map_eq_some_iff.mp hl
    obtain ⟨h5, m1, m2, m3, m4⟩ := IH.1 x hx
    have := K h5 (n + 1) (some (.inl (0 + 1 + 1 + 1))) (by omega) (by rw [hln, show u.length + 1 + (2 + (rn g false).length) = u.length + 3 + (rn g false).length by omega]; exact m2) (by
      have q : b ++ sep :: rn (.mulL k x) true = b ++ [sep, k, 46] ++ rn x false := by simp [rn]
      rw [q]
      exact m3) (FF.tr m4)
    obtain ⟨h', q1, q2, q3⟩ := this
    refine ⟨h', body m1 r ?_, q2, (FF.tr m4).tr q3⟩
    rw [← nI_1 n] at q1
    refine ax_st rfl ?_
    repeat (first | (exact q1) | refine ax_st rfl ?_ | (apply ev_get rfl; assumption; rfl))
  · have hl : (lt rc g 0).map (fun l => (.mulL k l : Tr)) = none := hl
    have hl : lt rc g 0 = none := Option.map_eq_none_iff.mp hl
    obtain ⟨h5, m1, m2, m3⟩ := IH.2 hl
    refine ⟨h5, body m1 0 ?_, m2, FF.tr m3⟩
    (repeat (first | refine ax_st rfl ?_ | (apply ev_get rfl; assumption; rfl))); try dsimp only
    exact ax_rt rfl
theorem w_own2 (hT : T.length ≤ 60) {l r : Tr} (ihl : wP1 T w o c rc l) (ihr : wP1 T w o c rc r) (hd : wD w o c) : wP1 T w o c rc (.add l r) := by
  intro sep u v b D dp n kx h hw hTe hsep hb hn hD hdp a t tb
  obtain ⟨-, hwl, hwr⟩ := hw
  have hDe : 4 * max (ht l) (ht r) + 6 ≤ D := hD
  have hdpe : dp + max (ht l) (ht r) ≤ 40 := hdp
  have hln : (rn (.add l r) true).length = (rn l true).length + 1 + (rn r true).length := by simp [rn]; omega
  have hlen : T.length = u.length + (1 + ((rn l true).length + 1 + (rn r true).length) + v.length) := by rw [hTe]; simp [rn]; omega
  have IHl := ihl sep u (44 :: rn r true ++ v) b D dp n kx h hwl (by rw [hTe]; simp [rn]) hsep hb hn (by omega) (by omega) a t tb
  have hul : (u ++ sep :: rn l true).length = u.length + 1 + (rn l true).length := by simp; omega
  have IHr := fun (b1 : List Nat) n1 kx1 h1 q1 q2 q3 q4 q5 => ihr 44 (u ++ sep :: rn l true) v b1 D dp n1 kx1 h1 hwr (by rw [hTe]; simp [rn]) (Or.inr rfl) q1 q2 (by omega) (by omega) q3 q4 q5
  simp only [hul] at IHr
  refine ⟨fun x hx res Φ K => ?_, fun hx => ?_⟩
  · have hx : (lt rc l 1).bind (fun x => (lt rc r 1).bind (fun y => if (1 : Nat) = 1 then some (.add x y) else if rn x false = rn y false then some x else none)) = some x := hx
    obtain ⟨x1, h1, hx⟩ := Option.bind_eq_some_iff.mp hx
    obtain ⟨x2, h2, hx⟩ := Option.bind_eq_some_iff.mp hx
    rw [if_pos rfl] at hx
    cases hx
    have l1 := (lt_len rc l 1 x1 h1).2.1 rfl hwl
    refine IHl.1 x1 h1 res Φ (fun g1 n1 kx1 b1 b2 b3 b4 => ?_)
    refine (IHr (b ++ sep :: rn x1 true) n1 kx1 g1 (by simp; omega) b1 b2 (t.fr b4 hd.n2 hd.n3) b3).1 x2 h2 res Φ (fun g2 n2 kx2 d1 d2 d3 d4 => ?_)
    refine K g2 n2 kx2 (by omega) (by rw [hln, show u.length + 1 + ((rn l true).length + 1 + (rn r true).length) = u.length + 1 + (rn l true).length + 1 + (rn r true).length by omega]; exact d2) ?_ (b4.tr d4)
    have q : b ++ sep :: rn (.add x1 x2) true = b ++ sep :: rn x1 true ++ 44 :: rn x2 true := by simp [rn]
    rw [q]
    exact d3
  · have hx : (lt rc l 1).bind (fun x => (lt rc r 1).bind (fun y => if (1 : Nat) = 1 then some (.add x y) else if rn x false = rn y false then some x else none)) = none := hx
    cases h1 : lt rc l 1 with
    | none => exact IHl.2 h1
    | some x1 =>
      have l1 := (lt_len rc l 1 x1 h1).2.1 rfl hwl
      cases h2 : lt rc r 1 with
      | none =>
        obtain ⟨h', q1, q2, q3⟩ := IHl.1 x1 h1 0 (wG w o c rc) (fun g1 n1 kx1 b1 b2 b3 b4 => (IHr (b ++ sep :: rn x1 true) n1 kx1 g1 (by simp; omega) b1 b2 (t.fr b4 hd.n2 hd.n3) b3).2 h2)
        exact ⟨h', q1, q2, q3⟩
      | some x2 =>
        rw [h1, h2] at hx
        simp at hx
/-- one branch of a message of others -/
theorem w_com1 (hT : T.length ≤ 60) (hd : wD w o c) {k : Nat} {g : Tr} (ih : wP0 T w o c rc g) : wP2 T w o c rc (.mulL k g) := by
  intro sep u v b x D dp n h hw hTe hsep hb hn hnx hD hdp a t tb
  obtain ⟨hk, hwg⟩ := hw
  have hk : isL k = true := hk
  have hDe : 4 * (ht g + 1) + 6 ≤ D := hD
  have hdpe : dp + (ht g + 1) ≤ 40 := hdp
  obtain ⟨e, rfl⟩ : ∃ e, D = e + 6 := ⟨D - 6, by omega⟩
  have hpos := rn_pos g false hwg
  have hln : (rn (.mulL k g) true).length = 2 + (rn g false).length := by simp [rn]; omega
  have hlen : T.length = u.length + (3 + (rn g false).length + v.length) := by rw [hTe]; simp [rn]; omega
  have c0 : T.getD u.length 0 = sep := by rw [hTe]; have := gd_at u (sep :: (rn (.mulL k g) true ++ v)) 0; simpa using this
  have hlt : ∀ m, lt rc (.mulL k g) 2 = m ↔ lt rc g 0 = m := fun m => Iff.rfl
  have a1 := a.st (u.length + 3)
  have F1 : fr h (ax_set h w (.inr (1, [.inr (some 2), .inl (nI rc), .inr (some o), .inl (nI (u.length + 3))]))) (wA w o c) := fr.st (Or.inl rfl)
  have T1 := t.fr F1 hd.n2 hd.n3
  have t1 := wr_w (rc := rc) (p := o) (q := u.length + 3) hd tb
  have hul : (u ++ [sep, k, 46]).length = u.length + 3 := by simp
  have IH := ih (u ++ [sep, k, 46]) v (b ++ x) (e + 5) (dp + 1) _ hwg (by rw [hTe]; simp [rn]) (by rw [hul]; simp; omega) (by omega) (by omega) (by rw [hul]; exact a1) T1 t1
  rw [hul] at IH
  have body : ∀ {h5 h' : ax_H} {z : Int32}, mt (e + 5) 8 [.inr (some w), .inl (nI (dp + 1))] (ax_set h w (.inr (1, [.inr (some 2), .inl (nI rc), .inr (some o), .inl (nI (u.length + 3))]))) (some (.inl z)) h5 → ∀ r, Ev (e + 6) 13 29 [some (.inr (some w)), some (.inl (nI dp)), some (.inl (nI b.length)), some (.inl (nI (b.length + x.length))), some (.inl (nI n))] [.inl z] h5 (some (.inl r)) h' → Ev (e + 6) 13 8 [some (.inr (some w)), some (.inl (nI dp)), some (.inl (nI b.length)), some (.inl (nI (b.length + x.length))), some (.inl (nI n))] [] h (some (.inl r)) h' := by
    intro h5 h' z m1 r m2
    have hto := t.ob
    unfold wr at a a1
    (repeat (first | refine ax_st rfl ?_ | (apply ev_get rfl; assumption; rfl))); try dsimp only
    refine ev_f (fun q => absurd ((nI_leI (a := 60) (by decide) (by omega)).mp q) (by omega)) ?_
    (repeat (first | refine ax_st rfl ?_ | (apply ev_get rfl; assumption; rfl))); try dsimp only
    refine ev_callV rfl hto ⟨rfl, rfl, Nat.le_of_ble_eq_true rfl, Nat.le_of_ble_eq_true rfl⟩ (tx_get t (nI u.length)) ?_
    rw [tg_nI T (by omega), c0]
    (repeat (first | refine ax_st rfl ?_ | (apply ev_get rfl; assumption; rfl))); try dsimp only
    refine ev_f (fun q => absurd ((nI_eq (b := 125) (by omega) (by decide)).mp q) (by omega)) ?_
    (repeat (first | refine ax_st rfl ?_ | (apply ev_get rfl; assumption; rfl))); try dsimp only
    refine ev_put rfl a ?_ ?_ ?_; exact Nat.le_of_ble_eq_true rfl; rfl
    rw [show nI u.length + 3 = nI (u.length + 3) from nI_add u.length 3]
    (repeat (first | refine ax_st rfl ?_ | (apply ev_get rfl; assumption; rfl))); try dsimp only
    rw [nI_1 dp]
    refine ev_callV rfl a1 ⟨rfl, rfl, Nat.le_of_ble_eq_true rfl, Nat.le_of_ble_eq_true rfl⟩ (m1) ?_
    exact m2
  refine ⟨fun l hl hor r Φ K => ?_, fun hl => ?_⟩
  · have hl : lt rc g 0 = some l := hl
    obtain ⟨h5, m1, m2, m3, m4⟩ := IH.1 l hl
    have hll := (lt_len rc g 0 l hl).1 rfl hwg
    have m2' := m2
    unfold wr at m2'
    have hob := m3.ob
    by_cases hn0 : n = 0
    · have hx0 := hnx hn0
      subst hx0
      rw [List.append_nil] at m3 hob
      have htake : (b ++ rn l false).take (b.length + (rn l false).length) = b ++ rn l false := by rw [List.take_of_length_le (by simp)]
      obtain ⟨h6, s1, s2, s3⟩ := tx_shorten (d := e + 5) m3 (k := b.length + (rn l false).length) (by simp)
      rw [htake] at s2
      have F6 : fr h5 h6 (wA w o c) := s3.wk (fun q z => Or.inr (Or.inl z))
      obtain ⟨h', q1, q2, q3⟩ := K h6 1 (by decide) (by omega) (by
        rw [hln, show u.length + 1 + (2 + (rn g false).length) = u.length + 3 + (rn g false).length by omega]
        exact m2.fr s3 (fun q => hd.1.1 q)) s2 ((F1.tr m4).tr F6)
      refine ⟨h', body m1 r ?_, q2, ((F1.tr m4).tr F6).tr q3⟩
      subst hn0
      have hsz := tx_size (d := e + 5) m3
      rw [List.length_append] at hsz
      (repeat (first | refine ax_st rfl ?_ | (apply ev_get rfl; assumption; rfl))); try dsimp only
      refine ev_callV rfl hob ⟨rfl, rfl, Nat.le_of_ble_eq_true rfl, Nat.le_of_ble_eq_true rfl⟩ (hsz) ?_
      (repeat (first | refine ax_st rfl ?_ | (apply ev_get rfl; assumption; rfl))); try dsimp only
      refine ev_callU rfl hob ⟨rfl, rfl, Nat.le_of_ble_eq_true rfl, Nat.le_of_ble_eq_true rfl⟩ (s1) ?_
      repeat (first | (exact q1) | refine ax_st rfl ?_ | (apply ev_get rfl; assumption; rfl))
    · have hre := hor.resolve_left hn0
      have htw := tx_two (d := e + 4) m3 (s0 := b.length) (m := b.length + x.length) (by omega) (by simp)
      have d1 : (b ++ x ++ rn l false).drop b.length = x ++ rn l false := by rw [List.append_assoc, List.drop_left' rfl]
      have d2 : (b ++ x ++ rn l false).drop (b.length + x.length) = rn l false := by rw [← List.length_append, List.drop_left' rfl]
      rw [d1, d2, show b.length + x.length - b.length = x.length by omega, List.take_left' rfl, if_pos hre.symm] at htw
      have htake : (b ++ x ++ rn l false).take (b.length + x.length) = b ++ x := by rw [← List.length_append, List.take_left' rfl]
      obtain ⟨h6, s1, s2, s3⟩ := tx_shorten (d := e + 5) m3 (k := b.length + x.length) (by simp)
      rw [htake] at s2
      have F6 : fr h5 h6 (wA w o c) := s3.wk (fun q z => Or.inr (Or.inl z))
      obtain ⟨h', q1, q2, q3⟩ := K h6 (n + 1) (by omega) (by omega) (by
        rw [hln, show u.length + 1 + (2 + (rn g false).length) = u.length + 3 + (rn g false).length by omega]
        exact m2.fr s3 (fun q => hd.1.1 q)) (by rw [hre]; exact s2) ((F1.tr m4).tr F6)
      refine ⟨h', body m1 r ?_, q2, ((F1.tr m4).tr F6).tr q3⟩
      rw [hre, ← nI_1 n] at q1
      refine ax_st rfl ?_
      (repeat (first | refine ax_st rfl ?_ | (apply ev_get rfl; assumption; rfl))); try dsimp only
      refine ev_t (nI_ne0 (by omega) (by omega)) ?_
      (repeat (first | refine ax_st rfl ?_ | (apply ev_get rfl; assumption; rfl))); try dsimp only
      refine ev_callV rfl hob ⟨rfl, rfl, Nat.le_of_ble_eq_true rfl, Nat.le_of_ble_eq_true rfl⟩ (htw) ?_
      (repeat (first | refine ax_st rfl ?_ | (apply ev_get rfl; assumption; rfl))); try dsimp only
      refine ev_callU rfl hob ⟨rfl, rfl, Nat.le_of_ble_eq_true rfl, Nat.le_of_ble_eq_true rfl⟩ (s1) ?_
      repeat (first | (exact q1) | refine ax_st rfl ?_ | (apply ev_get rfl; assumption; rfl))
  · rcases hl with hl | ⟨hn0, l, hl, hne⟩
    · have hl : lt rc g 0 = none := hl
      obtain ⟨h5, m1, m2, m3⟩ := IH.2 hl
      refine ⟨h5, body m1 0 ?_, m2, F1.tr m3⟩
      (repeat (first | refine ax_st rfl ?_ | (apply ev_get rfl; assumption; rfl))); try dsimp only
      exact ax_rt rfl
    · have hl : lt rc g 0 = some l := hl
      obtain ⟨h5, m1, m2, m3, m4⟩ := IH.1 l hl
      have m2' := m2
      unfold wr at m2'
      have hob := m3.ob
      have htw := tx_two (d := e + 4) m3 (s0 := b.length) (m := b.length + x.length) (by omega) (by simp)
      have d1 : (b ++ x ++ rn l false).drop b.length = x ++ rn l false := by rw [List.append_assoc, List.drop_left' rfl]
      have d2 : (b ++ x ++ rn l false).drop (b.length + x.length) = rn l false := by rw [← List.length_append, List.drop_left' rfl]
      rw [d1, d2, show b.length + x.length - b.length = x.length by omega, List.take_left' rfl, if_neg (fun q => hne q.symm)] at htw
      refine ⟨h5, body m1 0 ?_, ⟨_, _, m2, m3⟩, F1.tr m4⟩
      refine ax_st rfl ?_
      (repeat (first | refine ax_st rfl ?_ | (apply ev_get rfl; assumption; rfl))); try dsimp only
      refine ev_t (nI_ne0 (by omega) (by omega)) ?_
      (repeat (first | refine ax_st rfl ?_ | (apply ev_get rfl; assumption; rfl))); try dsimp only
      refine ev_callV rfl hob ⟨rfl, rfl, Nat.le_of_ble_eq_true rfl, Nat.le_of_ble_eq_true rfl⟩ (htw) ?_
      (repeat (first | refine ax_st rfl ?_ | (apply ev_get rfl; assumption; rfl))); try dsimp only
      exact ax_rt rfl
theorem w_com2 (hT : T.length ≤ 60) {l r : Tr} (ihl : wP2 T w o c rc l) (ihr : wP2 T w o c rc r) (hd : wD w o c) : wP2 T w o c rc (.add l r) := by
  intro sep u v b x D dp n h hw hTe hsep hb hn hnx hD hdp a t tb
  obtain ⟨-, hwl, hwr⟩ := hw
  have hDe : 4 * max (ht l) (ht r) + 6 ≤ D := hD
  have hdpe : dp + max (ht l) (ht r) ≤ 40 := hdp
  have hln : (rn (.add l r) true).length = (rn l true).length + 1 + (rn r true).length := by simp [rn]; omega
  have hlen : T.length = u.length + (1 + ((rn l true).length + 1 + (rn r true).length) + v.length) := by rw [hTe]; simp [rn]; omega
  have IHl := ihl sep u (44 :: rn r true ++ v) b x D dp n h hwl (by rw [hTe]; simp [rn]) hsep hb hn hnx (by omega) (by omega) a t tb
  have hul : (u ++ sep :: rn l true).length = u.length + 1 + (rn l true).length := by simp; omega
  have IHr := fun (x1 : List Nat) n1 h1 q1 q2 q2' q3 q4 q5 => ihr 44 (u ++ sep :: rn l true) v b x1 D dp n1 h1 hwr (by rw [hTe]; simp [rn]) (Or.inr rfl) q1 q2 q2' (by omega) (by omega) q3 q4 q5
  simp only [hul] at IHr
  have hlt : lt rc (.add l r) 2 = (lt rc l 2).bind (fun x => (lt rc r 2).bind (fun y => if rn x false = rn y false then some x else none)) := rfl
  rw [hlt]
  have go : ∀ x1, lt rc l 2 = some x1 → (n = 0 ∨ rn x1 false = x) → ∀ (res : Int32) (Φ : ax_H → Prop), (∀ (g1 : ax_H) (n1 : Nat), 0 < n1 → n1 ≤ u.length + 1 + (rn l true).length → wr g1 w o rc (u.length + 1 + (rn l true).length) → tx g1 o c (b ++ rn x1 false) → tx g1 2 3 T → (rn x1 false).length ≤ (rn l true).length → fr h g1 (wA w o c) → OC w o c D dp b.length (b.length + (rn x1 false).length) n1 g1 res Φ) → OC w o c D dp b.length (b.length + x.length) n h res Φ := by
    intro x1 h1 hor res Φ K
    have l1 := (lt_len rc l 2 x1 h1).2.2 rfl hwl
    exact IHl.1 x1 h1 hor res Φ (fun g1 n1 b0 b1 b2 b3 b4 => K g1 n1 b0 b1 b2 b3 (t.fr b4 hd.n2 hd.n3) l1 b4)
  refine ⟨fun y hy hor res Φ K => ?_, fun hy => ?_⟩
  · obtain ⟨x1, h1, hy⟩ := Option.bind_eq_some_iff.mp hy
    obtain ⟨x2, h2, hy⟩ := Option.bind_eq_some_iff.mp hy
    split at hy
    · next heq =>
      cases hy
      refine go y h1 hor res Φ (fun g1 n1 b0 b1 b2 b3 b4 b5 b6 => ?_)
      refine (IHr (rn y false) n1 g1 (by omega) b1 (fun q => absurd q (by omega)) b2 b4 b3).1 x2 h2 (Or.inr heq.symm) res Φ (fun g2 n2 d0 d1 d2 d3 d4 => ?_)
      rw [← heq] at d3 ⊢
      exact K g2 n2 d0 (by omega) (by rw [hln, show u.length + 1 + ((rn l true).length + 1 + (rn r true).length) = u.length + 1 + (rn l true).length + 1 + (rn r true).length by omega]; exact d2) d3 (b6.tr d4)
    · cases hy
  · cases h1 : lt rc l 2 with
    | none => exact IHl.2 (Or.inl h1)
    | some x1 =>
      by_cases hor : n = 0 ∨ rn x1 false = x
      · cases h2 : lt rc r 2 with
        | none => exact go x1 h1 hor 0 _ (fun g1 n1 b0 b1 b2 b3 b4 b5 b6 => (IHr (rn x1 false) n1 g1 (by omega) b1 (fun q => absurd q (by omega)) b2 b4 b3).2 (Or.inl h2))
        | some x2 =>
          by_cases heq : rn x1 false = rn x2 false
          · rw [h1, h2] at hy
            simp only [Option.bind_some, if_pos heq] at hy
            rcases hy with hy | ⟨hn0, l', hl', hne⟩
            · cases hy
            · cases hl'
              exact absurd (hor.resolve_left hn0) hne
          · exact go x1 h1 hor 0 _ (fun g1 n1 b0 b1 b2 b3 b4 b5 b6 => (IHr (rn x1 false) n1 g1 (by omega) b1 (fun q => absurd q (by omega)) b2 b4 b3).2 (Or.inr ⟨by omega, x2, h2, fun q => heq q.symm⟩))
      · exact IHl.2 (Or.inr ⟨fun q => hor (Or.inl q), x1, h1, fun q => hor (Or.inr q)⟩)
end WRM
