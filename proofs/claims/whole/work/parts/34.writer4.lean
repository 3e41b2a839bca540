/-! PartWriter: the whole. -/
section WRW
variable {T : List Nat} {w o c rc : Nat}
theorem w_msg (hT : T.length ≤ 60) (hd : wD w o c) (hrc : rc < 65536) {k : Nat} {bs : Tr} (ih1 : wP1 T w o c rc bs) (ih2 : wP2 T w o c rc bs) : wP0 T w o c rc (.mulR bs k) := by
  intro u v b D dp h hw hTe hb hD hdp a t tb
  obtain ⟨-, hr1, hr2, hwb⟩ := hw
  have hr1b := isR_b hr1
  have hr2b := isR_b hr2
  have hDe : 4 * ht bs + 8 ≤ D := hD
  have hdpe : dp + ht bs ≤ 40 := hdp
  obtain ⟨e, rfl⟩ : ∃ e, D = e + 8 := ⟨D - 8, by omega⟩
  have hpos := rn_pos bs true hwb
  have hln : (rn (.mulR bs k) false).length = 4 + (rn bs true).length := by simp [rn]; omega
  have hlen : T.length = u.length + (4 + (rn bs true).length + v.length) := by rw [hTe]; simp [rn]; omega
  have c0 : T.getD u.length 0 = k / 256 := by rw [hTe]; have := gd_at u (rn (.mulR bs k) false ++ v) 0; simpa [rn] using this
  have c1 : T.getD (u.length + 1) 0 = k % 256 := by rw [hTe]; have := gd_at u (rn (.mulR bs k) false ++ v) 1; simpa [rn] using this
  have cE : T.getD (u.length + 2 + 1 + (rn bs true).length) 0 = 125 := by
    rw [hTe, show u.length + 2 + 1 + (rn bs true).length = u.length + (3 + (rn bs true).length) by omega, gd_at]
    simp [rn, List.getD, List.getElem?_append_right, show 3 + (rn bs true).length = (rn bs true).length + 1 + 1 + 1 by omega]
  have hto := t.ob
  have a1 := a.st (u.length + 2)
  have F1 : fr h (ax_set h w (.inr (1, [.inr (some 2), .inl (nI rc), .inr (some o), .inl (nI (u.length + 2))]))) (wA w o c) := fr.st (Or.inl rfl)
  have T1 := t.fr F1 hd.n2 hd.n3
  have t1 := wr_w (rc := rc) (p := o) (q := u.length + 2) hd tb
  have hul : (u ++ [k / 256, k % 256]).length = u.length + 2 := by simp
  have head : ∀ {h' : ax_H} {r : Int32}, ax_fit 1 (.inl r) = true → Ev (e + 7) 11 20 [some (.inr (some w)), some (.inl (nI dp)), some (.inl (nI (k / 256))), some (.inl (nI (k % 256)))] [] (ax_set h w (.inr (1, [.inr (some 2), .inl (nI rc), .inr (some o), .inl (nI (u.length + 2))]))) (some (.inl r)) h' → mt (e + 8) 8 [.inr (some w), .inl (nI dp)] h (some (.inl r)) h' := by
    intro h' r hfit e1
    have e2 : mt (e + 7) 11 [.inr (some w), .inl (nI dp)] h (some (.inl r)) h' := by
      unfold wr at a
      (repeat (first | refine ax_st rfl ?_ | (apply ev_get rfl; assumption; rfl))); try dsimp only
      refine ev_callV rfl hto ⟨rfl, rfl, Nat.le_of_ble_eq_true rfl, Nat.le_of_ble_eq_true rfl⟩ (tx_get t (nI u.length)) ?_
      rw [tg_nI T (by omega), c0]
      (repeat (first | refine ax_st rfl ?_ | (apply ev_get rfl; assumption; rfl))); try dsimp only
      rw [nI_1 u.length]
      refine ev_callV rfl hto ⟨rfl, rfl, Nat.le_of_ble_eq_true rfl, Nat.le_of_ble_eq_true rfl⟩ (tx_get t (nI (u.length + 1))) ?_
      rw [tg_nI T (by omega), c1]
      (repeat (first | refine ax_st rfl ?_ | (apply ev_get rfl; assumption; rfl))); try dsimp only
      refine ev_put rfl a ?_ ?_ ?_; exact Nat.le_of_ble_eq_true rfl; rfl
      rw [show nI u.length + 2 = nI (u.length + 2) from nI_add u.length 2]
      exact e1
    unfold wr at a
    (repeat (first | refine ax_st rfl ?_ | (apply ev_get rfl; assumption; rfl))); try dsimp only
    refine ev_t ((nI_leI (b := 40) (by omega) (by decide)).mpr (by omega)) ?_
    (repeat (first | refine ax_st rfl ?_ | (apply ev_get rfl; assumption; rfl))); try dsimp only
    refine ev_callV rfl hto ⟨rfl, rfl, Nat.le_of_ble_eq_true rfl, Nat.le_of_ble_eq_true rfl⟩ (tx_get t (nI u.length)) ?_
    rw [tg_nI T (by omega), c0]
    (repeat (first | refine ax_st rfl ?_ | (apply ev_get rfl; assumption; rfl))); try dsimp only
    refine ev_t (fun q => absurd ((nI_eq (b := 109) (by omega) (by decide)).mp q) (by omega)) ?_
    (repeat (first | refine ax_st rfl ?_ | (apply ev_get rfl; assumption; rfl))); try dsimp only
    refine ev_callS rfl ⟨rfl, rfl, Nat.le_of_ble_eq_true rfl, Nat.le_of_ble_eq_true rfl⟩ (p_isRole (by omega)) ?_
    rw [hr1]
    (repeat (first | refine ax_st rfl ?_ | (apply ev_get rfl; assumption; rfl))); try dsimp only
    refine ev_callV rfl a ⟨rfl, rfl, Nat.le_of_ble_eq_true rfl, Nat.le_of_ble_eq_true rfl⟩ (e2) ?_
    refine ax_rt ?_
    show (if ax_fit 1 (.inl r) = true then _ else _) = _
    rw [if_pos hfit]
  /- the role's own message: its partner z and its sign s -/
  have own : ∀ (z s : Nat), z < 65536 → s < 65536 → 
      (∀ l, lt rc bs 1 = some l → ∃ (h2 h3 h' : ax_H), mt (e + 6) 40 [.inr (some o), .inl (nI z)] (ax_set h w (.inr (1, [.inr (some 2), .inl (nI rc), .inr (some o), .inl (nI (u.length + 2))]))) (some (.inl 1)) h2 ∧ mt (e + 6) 40 [.inr (some o), .inl (nI s)] h2 (some (.inl 1)) h3 ∧ mt (e + 6) 12 [.inr (some w), .inl (nI dp)] h3 (some (.inl 1)) h' ∧ tx h2 o c (b ++ [z]) ∧ tx h3 o c (b ++ [z] ++ [s]) ∧ wr h2 w o rc (u.length + 2) ∧ wr h3 w o rc (u.length + 2) ∧ wr h' w o rc (u.length + (4 + (rn bs true).length)) ∧ tx h' o c (b ++ ([z, s, 123] ++ (rn l true ++ [125]))) ∧ fr h h' (wA w o c)) ∧
      (lt rc bs 1 = none → ∃ (h2 h3 h' : ax_H), mt (e + 6) 40 [.inr (some o), .inl (nI z)] (ax_set h w (.inr (1, [.inr (some 2), .inl (nI rc), .inr (some o), .inl (nI (u.length + 2))]))) (some (.inl 1)) h2 ∧ mt (e + 6) 40 [.inr (some o), .inl (nI s)] h2 (some (.inl 1)) h3 ∧ mt (e + 6) 12 [.inr (some w), .inl (nI dp)] h3 (some (.inl 0)) h' ∧ tx h2 o c (b ++ [z]) ∧ tx h3 o c (b ++ [z] ++ [s]) ∧ wr h2 w o rc (u.length + 2) ∧ wr h3 w o rc (u.length + 2) ∧ wG w o c rc h' ∧ fr h h' (wA w o c)) := by
    intro z s hz hs
    obtain ⟨h2, e2, t2, f2⟩ := tx_append (d := e + 5) t1 (x := z) hz (by omega)
    have F2 := F1.tr (f2.wk (fun q z => Or.inr z) : fr _ h2 (wA w o c))
    have a2 := a1.fr f2 (hd.w (fun q z => z))
    obtain ⟨h3, e3, t3, f3⟩ := tx_append (d := e + 5) t2 (x := s) hs (by simp; omega)
    have F3 := F2.tr (f3.wk (fun q z => Or.inr z) : fr _ h3 (wA w o c))
    have a3 := a2.fr f3 (hd.w (fun q z => z))
    have T3 := t.fr F3 hd.n2 hd.n3
    have IH := ih1 123 (u ++ [k / 256, k % 256]) (125 :: v) (b ++ [z] ++ [s]) (e + 6) dp 0 none h3 hwb (by rw [hTe]; simp [rn]) (Or.inl rfl) (by rw [hul]; simp; omega) (by omega) (by omega) hdpe (by rw [hul]; exact a3) T3 t3
    rw [hul] at IH
    have ent : ∀ {h' : ax_H} {r : Int32}, Ev (e + 6) 12 2 [some (.inr (some w)), some (.inl (nI dp)), some (.inl (nI 0)), none] [] h3 (some (.inl r)) h' → mt (e + 6) 12 [.inr (some w), .inl (nI dp)] h3 (some (.inl r)) h' := by
      intro h' r q
      repeat (first | (exact q) | refine ax_st rfl ?_ | (apply ev_get rfl; assumption; rfl))
    refine ⟨fun l hl => ?_, fun hl => ?_⟩
    · obtain ⟨h', q1, q2, q3⟩ := IH.1 l hl 1 (fun h' => wr h' w o rc (u.length + (4 + (rn bs true).length)) ∧ tx h' o c (b ++ ([z, s, 123] ++ (rn l true ++ [125])))) (fun g1 n1 kx1 b1 b2 b3 b4 => by
        have T4 := T3.fr b4 hd.n2 hd.n3
        have hto4 := T4.ob
        have l1 := (lt_len rc bs 1 l hl).2.1 rfl hwb
        have b5 := b2.st (u.length + 2 + 1 + (rn bs true).length + 1)
        have t5 := wr_w (rc := rc) (p := o) (q := u.length + 2 + 1 + (rn bs true).length + 1) hd b3
        have F5 : fr g1 (ax_set g1 w (.inr (1, [.inr (some 2), .inl (nI rc), .inr (some o), .inl (nI (u.length + 2 + 1 + (rn bs true).length + 1))]))) (wA w o c) := fr.st (Or.inl rfl)
        obtain ⟨g6, e6, t6, f6⟩ := tx_append (d := e + 4) t5 (x := 125) (by decide) (by simp; omega)
        have a6 := b5.fr f6 (hd.w (fun q z => z))
        have hob5 := t5.ob
        refine ⟨g6, ?_, ⟨by rw [show u.length + (4 + (rn bs true).length) = u.length + 2 + 1 + (rn bs true).length + 1 by omega]; exact a6, ?_⟩, F5.tr (f6.wk (fun q z => Or.inr z))⟩
        · have hout : Ev (e + 6) 12 46 [some (.inr (some w)), some (.inl (nI dp)), some (.inl (nI n1)), kx1] [] g1 (some (.inl 1)) g6 := by
            unfold wr at b2 b5
            (repeat (first | refine ax_st rfl ?_ | (apply ev_get rfl; assumption; rfl))); try dsimp only
            refine ev_put rfl b2 ?_ ?_ ?_; exact Nat.le_of_ble_eq_true rfl; rfl
            rw [nI_1 (u.length + 2 + 1 + (rn bs true).length)]
            (repeat (first | refine ax_st rfl ?_ | (apply ev_get rfl; assumption; rfl))); try dsimp only
            refine ev_callV rfl hob5 ⟨rfl, rfl, Nat.le_of_ble_eq_true rfl, Nat.le_of_ble_eq_true rfl⟩ (e6) ?_
            exact ax_rt rfl
          unfold wr at b2
          (repeat (first | refine ax_st rfl ?_ | (apply ev_get rfl; assumption; rfl))); try dsimp only
          refine ev_if (fun c1 => ?_) (fun c1 => ?_)
          · exact hout
          · (repeat (first | refine ax_st rfl ?_ | (apply ev_get rfl; assumption; rfl))); try dsimp only
            refine ev_callV rfl hto4 ⟨rfl, rfl, Nat.le_of_ble_eq_true rfl, Nat.le_of_ble_eq_true rfl⟩ (tx_get T4 (nI (u.length + 2 + 1 + (rn bs true).length))) ?_
            rw [tg_nI T (by omega), cE]
            repeat (first | (exact hout) | refine ax_st rfl ?_ | (apply ev_get rfl; assumption; rfl))
        · have q : b ++ ([z, s, 123] ++ (rn l true ++ [125])) = b ++ [z] ++ [s] ++ 123 :: rn l true ++ [125] := by simp
          rw [q]
          exact t6)
      exact ⟨h2, h3, h', e2, e3, ent q1, t2, t3, a2, a3, q2.1, q2.2, F3.tr q3⟩
    · obtain ⟨h', q1, q2, q3⟩ := IH.2 hl
      exact ⟨h2, h3, h', e2, e3, ent q1, t2, t3, a2, a3, q2, F3.tr q3⟩
  have hltd : lt rc (.mulR bs k) 0 = if rc = k / 256 then (lt rc bs 1).map (fun l => .mulR l (k % 256 * 256 + 33)) else if rc = k % 256 then (lt rc bs 1).map (fun l => .mulR l (k / 256 * 256 + 63)) else lt rc bs 2 := rfl
  rw [hltd, hln]
  have hob1 := t1.ob
  have a1' := a1
  unfold wr at a1'
  have g256 : ∀ z s : Nat, s < 256 → ∀ l, rn (.mulR l (z * 256 + s)) false = [z, s, 123] ++ (rn l true ++ [125]) := by
    intro z s hs l
    simp only [rn]
    rw [show (z * 256 + s) / 256 = z by omega, show (z * 256 + s) % 256 = s by omega]
  by_cases h1 : rc = k / 256
  · rw [if_pos h1]
    obtain ⟨o1, o2⟩ := own (k % 256) 33 (by omega) (by decide)
    refine ⟨fun l hl => ?_, fun hl => ?_⟩
    · obtain ⟨x, hx, rfl⟩ := Option.map_eq_some_iff.mp hl
      obtain ⟨h2, h3, h', e2, e3, e4, t2, t3, a2, a3, q1, q2, q3⟩ := o1 x hx
      refine ⟨h', head rfl ?_, q1, by rw [g256 _ _ (by decide)]; exact q2, q3⟩
      have hob2 := t2.ob
      unfold wr at a2 a3
      (repeat (first | refine ax_st rfl ?_ | (apply ev_get rfl; assumption; rfl))); try dsimp only
      refine ev_f (fun q => q (by rw [h1])) ?_
      (repeat (first | refine ax_st rfl ?_ | (apply ev_get rfl; assumption; rfl))); try dsimp only
      refine ev_callV rfl hob1 ⟨rfl, rfl, Nat.le_of_ble_eq_true rfl, Nat.le_of_ble_eq_true rfl⟩ (e2) ?_
      (repeat (first | refine ax_st rfl ?_ | (apply ev_get rfl; assumption; rfl))); try dsimp only
      refine ev_callV rfl hob2 ⟨rfl, rfl, Nat.le_of_ble_eq_true rfl, Nat.le_of_ble_eq_true rfl⟩ (e3) ?_
      (repeat (first | refine ax_st rfl ?_ | (apply ev_get rfl; assumption; rfl))); try dsimp only
      refine ev_callV rfl a3 ⟨rfl, rfl, Nat.le_of_ble_eq_true rfl, Nat.le_of_ble_eq_true rfl⟩ (e4) ?_
      (repeat (first | refine ax_st rfl ?_ | (apply ev_get rfl; assumption; rfl))); try dsimp only
      exact ax_rt rfl
    · have hl := Option.map_eq_none_iff.mp hl
      obtain ⟨h2, h3, h', e2, e3, e4, t2, t3, a2, a3, q1, q3⟩ := o2 hl
      refine ⟨h', head rfl ?_, q1, q3⟩
      have hob2 := t2.ob
      unfold wr at a2 a3
      (repeat (first | refine ax_st rfl ?_ | (apply ev_get rfl; assumption; rfl))); try dsimp only
      refine ev_f (fun q => q (by rw [h1])) ?_
      (repeat (first | refine ax_st rfl ?_ | (apply ev_get rfl; assumption; rfl))); try dsimp only
      refine ev_callV rfl hob1 ⟨rfl, rfl, Nat.le_of_ble_eq_true rfl, Nat.le_of_ble_eq_true rfl⟩ (e2) ?_
      (repeat (first | refine ax_st rfl ?_ | (apply ev_get rfl; assumption; rfl))); try dsimp only
      refine ev_callV rfl hob2 ⟨rfl, rfl, Nat.le_of_ble_eq_true rfl, Nat.le_of_ble_eq_true rfl⟩ (e3) ?_
      (repeat (first | refine ax_st rfl ?_ | (apply ev_get rfl; assumption; rfl))); try dsimp only
      refine ev_callV rfl a3 ⟨rfl, rfl, Nat.le_of_ble_eq_true rfl, Nat.le_of_ble_eq_true rfl⟩ (e4) ?_
      (repeat (first | refine ax_st rfl ?_ | (apply ev_get rfl; assumption; rfl))); try dsimp only
      exact ax_rt rfl
  · rw [if_neg h1]
    have n1 : ¬ nI rc = nI (k / 256) := fun q => h1 ((nI_eq (by omega) (by omega)).mp q)
    by_cases h2 : rc = k % 256
    · rw [if_pos h2]
      obtain ⟨o1, o2⟩ := own (k / 256) 63 (by omega) (by decide)
      refine ⟨fun l hl => ?_, fun hl => ?_⟩
      · obtain ⟨x, hx, rfl⟩ := Option.map_eq_some_iff.mp hl
        obtain ⟨h2', h3, h', e2, e3, e4, t2, t3, a2, a3, q1, q2, q3⟩ := o1 x hx
        refine ⟨h', head rfl ?_, q1, by rw [g256 _ _ (by decide)]; exact q2, q3⟩
        have hob2 := t2.ob
        unfold wr at a2 a3
        (repeat (first | refine ax_st rfl ?_ | (apply ev_get rfl; assumption; rfl))); try dsimp only
        refine ev_t n1 ?_
        (repeat (first | refine ax_st rfl ?_ | (apply ev_get rfl; assumption; rfl))); try dsimp only
        refine ev_f (fun q => q (by rw [h2])) ?_
        (repeat (first | refine ax_st rfl ?_ | (apply ev_get rfl; assumption; rfl))); try dsimp only
        refine ev_callV rfl hob1 ⟨rfl, rfl, Nat.le_of_ble_eq_true rfl, Nat.le_of_ble_eq_true rfl⟩ (e2) ?_
        (repeat (first | refine ax_st rfl ?_ | (apply ev_get rfl; assumption; rfl))); try dsimp only
        refine ev_callV rfl hob2 ⟨rfl, rfl, Nat.le_of_ble_eq_true rfl, Nat.le_of_ble_eq_true rfl⟩ (e3) ?_
        (repeat (first | refine ax_st rfl ?_ | (apply ev_get rfl; assumption; rfl))); try dsimp only
        refine ev_callV rfl a3 ⟨rfl, rfl, Nat.le_of_ble_eq_true rfl, Nat.le_of_ble_eq_true rfl⟩ (e4) ?_
        (repeat (first | refine ax_st rfl ?_ | (apply ev_get rfl; assumption; rfl))); try dsimp only
        exact ax_rt rfl
      · have hl := Option.map_eq_none_iff.mp hl
        obtain ⟨h2', h3, h', e2, e3, e4, t2, t3, a2, a3, q1, q3⟩ := o2 hl
        refine ⟨h', head rfl ?_, q1, q3⟩
        have hob2 := t2.ob
        unfold wr at a2 a3
        (repeat (first | refine ax_st rfl ?_ | (apply ev_get rfl; assumption; rfl))); try dsimp only
        refine ev_t n1 ?_
        (repeat (first | refine ax_st rfl ?_ | (apply ev_get rfl; assumption; rfl))); try dsimp only
        refine ev_f (fun q => q (by rw [h2])) ?_
        (repeat (first | refine ax_st rfl ?_ | (apply ev_get rfl; assumption; rfl))); try dsimp only
        refine ev_callV rfl hob1 ⟨rfl, rfl, Nat.le_of_ble_eq_true rfl, Nat.le_of_ble_eq_true rfl⟩ (e2) ?_
        (repeat (first | refine ax_st rfl ?_ | (apply ev_get rfl; assumption; rfl))); try dsimp only
        refine ev_callV rfl hob2 ⟨rfl, rfl, Nat.le_of_ble_eq_true rfl, Nat.le_of_ble_eq_true rfl⟩ (e3) ?_
        (repeat (first | refine ax_st rfl ?_ | (apply ev_get rfl; assumption; rfl))); try dsimp only
        refine ev_callV rfl a3 ⟨rfl, rfl, Nat.le_of_ble_eq_true rfl, Nat.le_of_ble_eq_true rfl⟩ (e4) ?_
        (repeat (first | refine ax_st rfl ?_ | (apply ev_get rfl; assumption; rfl))); try dsimp only
        exact ax_rt rfl
    · rw [if_neg h2]
      have n2 : ¬ nI rc = nI (k % 256) := fun q => h2 ((nI_eq (by omega) (by omega)).mp q)
      have IH := ih2 123 (u ++ [k / 256, k % 256]) (125 :: v) b [] (e + 6) dp 0 _ hwb (by rw [hTe]; simp [rn]) (Or.inl rfl) (by rw [hul]; simp; omega) (by omega) (fun _ => rfl) (by omega) hdpe (by rw [hul]; exact a1) T1 (by rw [List.append_nil]; exact t1)
      rw [hul] at IH
      have ent : ∀ {h' : ax_H} {r : Int32}, ax_fit 1 (.inl r) = true → Ev (e + 6) 13 8 [some (.inr (some w)), some (.inl (nI dp)), some (.inl (nI b.length)), some (.inl (nI (b.length + ([] : List Nat).length))), some (.inl (nI 0))] [] (ax_set h w (.inr (1, [.inr (some 2), .inl (nI rc), .inr (some o), .inl (nI (u.length + 2))]))) (some (.inl r)) h' → Ev (e + 7) 11 20 [some (.inr (some w)), some (.inl (nI dp)), some (.inl (nI (k / 256))), some (.inl (nI (k % 256)))] [] (ax_set h w (.inr (1, [.inr (some 2), .inl (nI rc), .inr (some o), .inl (nI (u.length + 2))]))) (some (.inl r)) h' := by
        intro h' r hfit q
        have q2 : mt (e + 6) 13 [.inr (some w), .inl (nI dp)] (ax_set h w (.inr (1, [.inr (some 2), .inl (nI rc), .inr (some o), .inl (nI (u.length + 2))]))) (some (.inl r)) h' := by
          (repeat (first | refine ax_st rfl ?_ | (apply ev_get rfl; assumption; rfl))); try dsimp only
          refine ev_callV rfl hob1 ⟨rfl, rfl, Nat.le_of_ble_eq_true rfl, Nat.le_of_ble_eq_true rfl⟩ (tx_size t1) ?_
          repeat (first | (exact q) | refine ax_st rfl ?_ | (apply ev_get rfl; assumption; rfl))
        (repeat (first | refine ax_st rfl ?_ | (apply ev_get rfl; assumption; rfl))); try dsimp only
        refine ev_t n1 ?_
        (repeat (first | refine ax_st rfl ?_ | (apply ev_get rfl; assumption; rfl))); try dsimp only
        refine ev_t n2 ?_
        (repeat (first | refine ax_st rfl ?_ | (apply ev_get rfl; assumption; rfl))); try dsimp only
        refine ev_callV rfl a1' ⟨rfl, rfl, Nat.le_of_ble_eq_true rfl, Nat.le_of_ble_eq_true rfl⟩ (q2) ?_
        refine ax_rt ?_
        show (if ax_fit 1 (.inl r) = true then _ else _) = _
        rw [if_pos hfit]
      refine ⟨fun l hl => ?_, fun hl => ?_⟩
      · obtain ⟨h', q1, q2, q3⟩ := IH.1 l hl (Or.inl rfl) 1 (fun h' => wr h' w o rc (u.length + (4 + (rn bs true).length)) ∧ tx h' o c (b ++ rn l false)) (fun g1 m1 b0 b1 b2 b3 b4 => by
          have T4 := T1.fr b4 hd.n2 hd.n3
          have hto4 := T4.ob
          have b5 := b2.st (u.length + 2 + 1 + (rn bs true).length + 1)
          have t5 := wr_w (rc := rc) (p := o) (q := u.length + 2 + 1 + (rn bs true).length + 1) hd b3
          refine ⟨ax_set g1 w (.inr (1, [.inr (some 2), .inl (nI rc), .inr (some o), .inl (nI (u.length + 2 + 1 + (rn bs true).length + 1))])), ?_, ⟨by rw [show u.length + (4 + (rn bs true).length) = u.length + 2 + 1 + (rn bs true).length + 1 by omega]; exact b5, t5⟩, fr.st (Or.inl rfl)⟩
          have hout : Ev (e + 6) 13 53 [some (.inr (some w)), some (.inl (nI dp)), some (.inl (nI b.length)), some (.inl (nI (b.length + (rn l false).length))), some (.inl (nI m1))] [] g1 (some (.inl 1)) (ax_set g1 w (.inr (1, [.inr (some 2), .inl (nI rc), .inr (some o), .inl (nI (u.length + 2 + 1 + (rn bs true).length + 1))]))) := by
            unfold wr at b2
            (repeat (first | refine ax_st rfl ?_ | (apply ev_get rfl; assumption; rfl))); try dsimp only
            refine ev_put rfl b2 ?_ ?_ ?_; exact Nat.le_of_ble_eq_true rfl; rfl
            rw [nI_1 (u.length + 2 + 1 + (rn bs true).length)]
            (repeat (first | refine ax_st rfl ?_ | (apply ev_get rfl; assumption; rfl))); try dsimp only
            exact ax_rt rfl
          unfold wr at b2
          (repeat (first | refine ax_st rfl ?_ | (apply ev_get rfl; assumption; rfl))); try dsimp only
          refine ev_if (fun c1 => ?_) (fun c1 => ?_)
          · exact hout
          · (repeat (first | refine ax_st rfl ?_ | (apply ev_get rfl; assumption; rfl))); try dsimp only
            refine ev_callV rfl hto4 ⟨rfl, rfl, Nat.le_of_ble_eq_true rfl, Nat.le_of_ble_eq_true rfl⟩ (tx_get T4 (nI (u.length + 2 + 1 + (rn bs true).length))) ?_
            rw [tg_nI T (by omega), cE]
            repeat (first | (exact hout) | refine ax_st rfl ?_ | (apply ev_get rfl; assumption; rfl))
          )
        exact ⟨h', head rfl (ent rfl q1), q2.1, q2.2, F1.tr q3⟩
      · obtain ⟨h', q1, q2, q3⟩ := IH.2 (Or.inl hl)
        exact ⟨h', head rfl (ent rfl q1), q2, F1.tr q3⟩
theorem w_tree (hT : T.length ≤ 60) (hd : wD w o c) (hrc : rc < 65536) : ∀ t : Tr, wP0 T w o c rc t ∧ wP1 T w o c rc t ∧ wP2 T w o c rc t := by
  intro t
  induction t with
  | num m =>
    refine ⟨?_, fun _ _ _ _ _ _ _ _ _ hw => by simp [wf] at hw, fun _ _ _ _ _ _ _ _ _ hw => by simp [wf] at hw⟩
    intro u v b D dp h hw hTe hb hD hdp a t tb
    refine ⟨fun l hl => ?_, fun hl => by cases hl⟩
    cases hl
    exact w_one hT hd (x := 101) (v := v) (by rw [hTe]; rfl) (Or.inl rfl) hb (by omega) (by omega) a t tb
  | var x =>
    refine ⟨?_, fun _ _ _ _ _ _ _ _ _ hw => by simp [wf] at hw, fun _ _ _ _ _ _ _ _ _ hw => by simp [wf] at hw⟩
    intro u v b D dp h hw hTe hb hD hdp a t tb
    refine ⟨fun l hl => ?_, fun hl => by cases hl⟩
    cases hl
    exact w_one hT hd (x := x) (v := v) (by rw [hTe]; rfl) (Or.inr hw.2) hb (by omega) (by omega) a t tb
  | mulL k g ih => exact ⟨w_loop hT hd ih.1, w_own1 hT hd ih.1, w_com1 hT hd ih.1⟩
  | mulR bs k ih => exact ⟨w_msg hT hd hrc ih.2.1 ih.2.2, fun _ _ _ _ _ _ _ _ _ hw => by simp [wf] at hw, fun _ _ _ _ _ _ _ _ _ hw => by simp [wf] at hw⟩
  | add l r ihl ihr => exact ⟨fun _ _ _ _ _ _ hw => by simp [wf] at hw, w_own2 hT ihl.2.1 ihr.2.1 hd, w_com2 hT ihl.2.2 ihr.2.2 hd⟩
/-- writePart -/
theorem w_part {p : Nat} {b : List Nat} {t : Tr} {h : ax_H} (hd : wD w o c) (hrc : rc < 65536) (hw : wf t false) (a : wr h w o rc p) (tt : tx h 2 3 (rn t false)) (tb : tx h o c b) : ∃ h', mt 200 7 [.inr (some w)] h (some (.inl (bi (lt rc t 0).isSome))) h' ∧ wG w o c rc h' ∧ (∀ l, lt rc t 0 = some l → tx h' o c (rn l false)) ∧ fr h h' (wA w o c) := by
  have hh := rn_ht t false hw
  have hl := tt.len
  have a1 := a.st 0
  have F1 : fr h (ax_set h w (.inr (1, [.inr (some 2), .inl (nI rc), .inr (some o), .inl (nI 0)]))) (wA w o c) := fr.st (Or.inl rfl)
  have t1 := wr_w (rc := rc) (p := o) (q := 0) hd tb
  obtain ⟨h2, e2, t2, f2⟩ := tx_shorten (d := 199) t1 (k := 0) (Nat.zero_le _)
  rw [List.take_zero] at t2
  have a2 := a1.fr f2 (fun q => hd.1.1 q)
  have F2 := F1.tr (f2.wk (fun q z => Or.inr (Or.inl z)) : fr _ h2 (wA w o c))
  have hob1 := t1.ob
  have W := (w_tree (w := w) (o := o) (c := c) hl hd hrc t).1 [] [] [] 199 0 h2 hw (by simp) (Nat.le_refl _) (by omega) (by omega) a2 (tt.fr F2 hd.n2 hd.n3) t2
  have fin : ∀ {h' : ax_H} {r : Int32}, ax_fit 1 (.inl r) = true → mt 199 8 [.inr (some w), .inl (nI 0)] h2 (some (.inl r)) h' → mt 200 7 [.inr (some w)] h (some (.inl r)) h' := by
    intro h' r hfit q
    unfold wr at a a1 a2
    (repeat (first | refine ax_st rfl ?_ | (apply ev_get rfl; assumption; rfl))); try dsimp only
    refine ev_put rfl a ?_ ?_ ?_; exact Nat.le_of_ble_eq_true rfl; rfl
    (repeat (first | refine ax_st rfl ?_ | (apply ev_get rfl; assumption; rfl))); try dsimp only
    refine ev_callU rfl hob1 ⟨rfl, rfl, Nat.le_of_ble_eq_true rfl, Nat.le_of_ble_eq_true rfl⟩ (e2) ?_
    (repeat (first | refine ax_st rfl ?_ | (apply ev_get rfl; assumption; rfl))); try dsimp only
    refine ev_callV rfl a2 ⟨rfl, rfl, Nat.le_of_ble_eq_true rfl, Nat.le_of_ble_eq_true rfl⟩ (q) ?_
    refine ax_rt ?_
    show (if ax_fit 1 (.inl r) = true then _ else _) = _
    rw [if_pos hfit]
  cases hlt : lt rc t 0 with
  | none =>
    obtain ⟨h', q1, q2, q3⟩ := W.2 hlt
    exact ⟨h', fin rfl q1, q2, (fun l hl => by cases hl), F2.tr q3⟩
  | some l =>
    obtain ⟨h', q1, q2, q3, q4⟩ := W.1 l hlt
    exact ⟨h', fin rfl q1, ⟨_, _, q2, q3⟩, (fun l' hl' => by cases hl'; exact q3), F2.tr q4⟩
end WRW
