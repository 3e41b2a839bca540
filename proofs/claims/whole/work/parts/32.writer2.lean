/-! PartWriter over a tree's text. -/
def wG (w o c rc : Nat) (h : ax_H) : Prop := ∃ (p : Nat) (b : List Nat), wr h w o rc p ∧ tx h o c b
def OB (w o c D dp n : Nat) (kx : Option ax_V) (h : ax_H) (r : Int32) (Φ : ax_H → Prop) : Prop := ∃ h', Ev D 12 2 [some (.inr (some w)), some (.inl (nI dp)), some (.inl (nI n)), kx] [] h (some (.inl r)) h' ∧ Φ h' ∧ fr h h' (wA w o c)
def OC (w o c D dp st e n : Nat) (h : ax_H) (r : Int32) (Φ : ax_H → Prop) : Prop := ∃ h', Ev D 13 8 [some (.inr (some w)), some (.inl (nI dp)), some (.inl (nI st)), some (.inl (nI e)), some (.inl (nI n))] [] h (some (.inl r)) h' ∧ Φ h' ∧ fr h h' (wA w o c)
/-- where a writer's cells lie -/
def wD (w o c : Nat) : Prop := (w ≠ o ∧ w ≠ c ∧ o ≠ c) ∧ (w ≠ 2 ∧ w ≠ 3) ∧ (o ≠ 2 ∧ o ≠ 3) ∧ (c ≠ 2 ∧ c ≠ 3)
theorem wD.n2 {w o c : Nat} (h : wD w o c) : ¬ wA w o c 2 := fun q => q.elim (fun e => h.2.1.1 e.symm) (fun q => q.elim (fun e => h.2.2.1.1 e.symm) (fun e => h.2.2.2.1 e.symm))
theorem wD.n3 {w o c : Nat} (h : wD w o c) : ¬ wA w o c 3 := fun q => q.elim (fun e => h.2.1.2 e.symm) (fun q => q.elim (fun e => h.2.2.1.2 e.symm) (fun e => h.2.2.2.2 e.symm))
theorem wD.w {w o c : Nat} (h : wD w o c) {A : Nat → Prop} (hA : ∀ q, A q → q = o ∨ q = c) : ¬ A w := fun q => (hA _ q).elim h.1.1 h.1.2.1
/-- what the three methods do on a tree -/
def wP0 (T : List Nat) (w o c rc : Nat) (t : Tr) : Prop := ∀ (u v b : List Nat) (D dp : Nat) (h : ax_H), wf t false → T = u ++ (rn t false ++ v) → b.length ≤ u.length → 4 * ht t + 8 ≤ D → dp + ht t ≤ 40 → wr h w o rc u.length → tx h 2 3 T → tx h o c b →
  (∀ l, lt rc t 0 = some l → ∃ h', mt D 8 [.inr (some w), .inl (nI dp)] h (some (.inl 1)) h' ∧ wr h' w o rc (u.length + (rn t false).length) ∧ tx h' o c (b ++ rn l false) ∧ fr h h' (wA w o c)) ∧
  (lt rc t 0 = none → ∃ h', mt D 8 [.inr (some w), .inl (nI dp)] h (some (.inl 0)) h' ∧ wG w o c rc h' ∧ fr h h' (wA w o c))
def wP1 (T : List Nat) (w o c rc : Nat) (t : Tr) : Prop := ∀ (sep : Nat) (u v b : List Nat) (D dp n : Nat) (kx : Option ax_V) (h : ax_H), wf t true → T = u ++ (sep :: (rn t true ++ v)) → (sep = 123 ∨ sep = 44) → b.length ≤ u.length → n ≤ u.length → 4 * ht t + 6 ≤ D → dp + ht t ≤ 40 → wr h w o rc u.length → tx h 2 3 T → tx h o c b →
  (∀ l, lt rc t 1 = some l → ∀ (r : Int32) (Φ : ax_H → Prop), (∀ (h1 : ax_H) (n1 : Nat) (kx1 : Option ax_V), n1 ≤ u.length + 1 + (rn t true).length → wr h1 w o rc (u.length + 1 + (rn t true).length) → tx h1 o c (b ++ sep :: rn l true) → fr h h1 (wA w o c) → OB w o c D dp n1 kx1 h1 r Φ) → OB w o c D dp n kx h r Φ) ∧
  (lt rc t 1 = none → OB w o c D dp n kx h 0 (wG w o c rc))
def wP2 (T : List Nat) (w o c rc : Nat) (t : Tr) : Prop := ∀ (sep : Nat) (u v b x : List Nat) (D dp n : Nat) (h : ax_H), wf t true → T = u ++ (sep :: (rn t true ++ v)) → (sep = 123 ∨ sep = 44) → b.length + x.length ≤ u.length → n ≤ u.length → (n = 0 → x = []) → 4 * ht t + 6 ≤ D → dp + ht t ≤ 40 → wr h w o rc u.length → tx h 2 3 T → tx h o c (b ++ x) →
  (∀ l, lt rc t 2 = some l → (n = 0 ∨ rn l false = x) → ∀ (r : Int32) (Φ : ax_H → Prop), (∀ (h1 : ax_H) (n1 : Nat), 0 < n1 → n1 ≤ u.length + 1 + (rn t true).length → wr h1 w o rc (u.length + 1 + (rn t true).length) → tx h1 o c (b ++ rn l false) → fr h h1 (wA w o c) → OC w o c D dp b.length (b.length + (rn l false).length) n1 h1 r Φ) → OC w o c D dp b.length (b.length + x.length) n h r Φ) ∧
  ((lt rc t 2 = none ∨ (n ≠ 0 ∧ ∃ l, lt rc t 2 = some l ∧ rn l false ≠ x)) → OC w o c D dp b.length (b.length + x.length) n h 0 (wG w o c rc))
theorem OB.fr0 {w o c D dp n : Nat} {kx : Option ax_V} {h h1 : ax_H} {r : Int32} {Φ : ax_H → Prop} (f : fr h h1 (wA w o c)) {h' : ax_H} (b3 : fr h1 h' (wA w o c)) : fr h h' (wA w o c) := f.tr b3
section WRT
variable {T : List Nat} {w o c rc : Nat}
/-- one character that is no loop and no message -/
theorem w_one (hT : T.length ≤ 60) (hd : wD w o c) {u v b : List Nat} {x D dp : Nat} {h : ax_H} (hTe : T = u ++ (x :: v)) (hx : x = 101 ∨ isV x = true) (hb : b.length ≤ u.length) (hD : 8 ≤ D) (hdp : dp ≤ 40) (a : wr h w o rc u.length) (t : tx h 2 3 T) (tb : tx h o c b) : ∃ h', mt D 8 [.inr (some w), .inl (nI dp)] h (some (.inl 1)) h' ∧ wr h' w o rc (u.length + 1) ∧ tx h' o c (b ++ [x]) ∧ fr h h' (wA w o c) := by
  obtain ⟨e, rfl⟩ : ∃ e, D = e + 8 := ⟨D - 8, by omega⟩
  have hlen : T.length = u.length + (1 + v.length) := by rw [hTe]; simp; omega
  have c0 : T.getD u.length 0 = x := by rw [hTe]; have := gd_at u (x :: v) 0; simpa using this
  have hxb : x = 101 ∨ (88 ≤ x ∧ x < 91) := hx.imp id isV_b
  have hto := t.ob
  have a1 := a.st (u.length + 1)
  have f1 : fr h _ (wA w o c) := fr.st (c := .inr (1, [.inr (some 2), .inl (nI rc), .inr (some o), .inl (nI (u.length + 1))])) (Or.inl rfl)
  have tb1 : tx (ax_set h w (.inr (1, [.inr (some 2), .inl (nI rc), .inr (some o), .inl (nI (u.length + 1))]))) o c b := by
    exact tb.fr (A := fun q => q = w) (fr.st rfl) (fun q => hd.1.1 q.symm) (fun q => hd.1.2.1 q.symm)
  obtain ⟨h2, e2, t2, f2⟩ := tx_append (d := e + 6) tb1 (x := x) (by omega) (by omega)
  have a2 := a1.fr f2 (hd.w (fun q z => z))
  refine ⟨h2, ?_, a2, t2, f1.tr (f2.wk (fun q z => Or.inr z))⟩
  have hob := tb1.ob
  unfold wr at a a1
  (repeat (first | refine ax_st rfl ?_ | (apply ev_get rfl; assumption; rfl))); try dsimp only
  refine ev_t ((nI_leI (b := 40) (by omega) (by decide)).mpr hdp) ?_
  (repeat (first | refine ax_st rfl ?_ | (apply ev_get rfl; assumption; rfl))); try dsimp only
  refine ev_callV rfl hto ⟨rfl, rfl, Nat.le_of_ble_eq_true rfl, Nat.le_of_ble_eq_true rfl⟩ (tx_get t (nI u.length)) ?_
  rw [tg_nI T (by omega), c0]
  (repeat (first | refine ax_st rfl ?_ | (apply ev_get rfl; assumption; rfl))); try dsimp only
  refine ev_t (fun q => absurd ((nI_eq (b := 109) (by omega) (by decide)).mp q) (by omega)) ?_
  (repeat (first | refine ax_st rfl ?_ | (apply ev_get rfl; assumption; rfl))); try dsimp only
  refine ev_callS rfl ⟨rfl, rfl, Nat.le_of_ble_eq_true rfl, Nat.le_of_ble_eq_true rfl⟩ (p_isRole (by omega)) ?_
  rw [show isR x = false from decide_eq_false (by omega)]
  (repeat (first | refine ax_st rfl ?_ | (apply ev_get rfl; assumption; rfl))); try dsimp only
  refine ev_put rfl a ?_ ?_ ?_; exact Nat.le_of_ble_eq_true rfl; rfl
  rw [nI_1 u.length]
  (repeat (first | refine ax_st rfl ?_ | (apply ev_get rfl; assumption; rfl))); try dsimp only
  refine ev_callV rfl hob ⟨rfl, rfl, Nat.le_of_ble_eq_true rfl, Nat.le_of_ble_eq_true rfl⟩ (e2) ?_
  exact ax_rt rfl
/-- a loop -/
theorem w_loop (hT : T.length ≤ 60) (hd : wD w o c) {k : Nat} {g : Tr} (ih : wP0 T w o c rc g) : wP0 T w o c rc (.mulL k g) := by
  intro u v b D dp h hw hTe hb hD hdp a t tb
  obtain ⟨hk, hwg⟩ := hw
  have hk : isV k = true := hk
  have hkb := isV_b hk
  have hDe : 4 * (ht g + 1) + 8 ≤ D := hD
  have hdpe : dp + (ht g + 1) ≤ 40 := hdp
  obtain ⟨e, rfl⟩ : ∃ e, D = e + 8 := ⟨D - 8, by omega⟩
  have hpos := rn_pos g false hwg
  have hlen : T.length = u.length + (3 + (rn g false).length + v.length) := by rw [hTe]; simp [rn]; omega
  have hln : (rn (.mulL k g) false).length = 3 + (rn g false).length := by simp [rn]; omega
  have c0 : T.getD u.length 0 = 109 := by rw [hTe]; have := gd_at u (rn (.mulL k g) false ++ v) 0; simpa [rn] using this
  have c1 : T.getD (u.length + 1) 0 = k := by rw [hTe]; have := gd_at u (rn (.mulL k g) false ++ v) 1; simpa [rn] using this
  have hto := t.ob
  have hob := tb.ob
  have a1 := a.st (u.length + 3)
  have f1 : fr h (ax_set h w (.inr (1, [.inr (some 2), .inl (nI rc), .inr (some o), .inl (nI (u.length + 3))]))) (wA w o c) := fr.st (Or.inl rfl)
  have f1w : fr h (ax_set h w (.inr (1, [.inr (some 2), .inl (nI rc), .inr (some o), .inl (nI (u.length + 3))]))) (fun q => q = w) := fr.st rfl
  have t1 := t.fr f1 hd.n2 hd.n3
  have tb1 := tb.fr f1w (fun q => hd.1.1 q.symm) (fun q => hd.1.2.1 q.symm)
  have hul : (u ++ [109, k, 46]).length = u.length + 3 := by simp
  have IH := ih (u ++ [109, k, 46]) v b (e + 6) (dp + 1) _ hwg (by rw [hTe]; simp [rn]) (by rw [hul]; omega) (by omega) (by omega) (by rw [hul]; exact a1) t1 tb1
  rw [hul] at IH
  have head : ∀ {h' : ax_H} {r : Int32}, ax_fit 1 (.inl r) = true → mt (e + 7) 9 [.inr (some w), .inl (nI dp)] h (some (.inl r)) h' → mt (e + 8) 8 [.inr (some w), .inl (nI dp)] h (some (.inl r)) h' := by
    intro h' r hfit e1
    unfold wr at a
    (repeat (first | refine ax_st rfl ?_ | (apply ev_get rfl; assumption; rfl))); try dsimp only
    refine ev_t ((nI_leI (b := 40) (by omega) (by decide)).mpr (by omega)) ?_
    (repeat (first | refine ax_st rfl ?_ | (apply ev_get rfl; assumption; rfl))); try dsimp only
    refine ev_callV rfl hto ⟨rfl, rfl, Nat.le_of_ble_eq_true rfl, Nat.le_of_ble_eq_true rfl⟩ (tx_get t (nI u.length)) ?_
    rw [tg_nI T (by omega), c0]
    (repeat (first | refine ax_st rfl ?_ | (apply ev_get rfl; assumption; rfl))); try dsimp only
    refine ev_callV rfl a ⟨rfl, rfl, Nat.le_of_ble_eq_true rfl, Nat.le_of_ble_eq_true rfl⟩ (e1) ?_
    refine ax_rt ?_
    show (if ax_fit 1 (.inl r) = true then _ else _) = _
    rw [if_pos hfit]
  have body : ∀ {h1 h' : ax_H} {z : Int32}, mt (e + 6) 8 [.inr (some w), .inl (nI (dp + 1))] (ax_set h w (.inr (1, [.inr (some 2), .inl (nI rc), .inr (some o), .inl (nI (u.length + 3))]))) (some (.inl z)) h1 → ∀ r, Ev (e + 7) 9 23 [some (.inr (some w)), some (.inl (nI dp)), some (.inl (nI k)), some (.inl (nI b.length))] [.inl z] h1 (some (.inl r)) h' → mt (e + 7) 9 [.inr (some w), .inl (nI dp)] h (some (.inl r)) h' := by
    intro h1 h' z e1 r e2
    have a1' := a1
    unfold wr at a a1'
    (repeat (first | refine ax_st rfl ?_ | (apply ev_get rfl; assumption; rfl))); try dsimp only
    rw [nI_1 u.length]
    refine ev_callV rfl hto ⟨rfl, rfl, Nat.le_of_ble_eq_true rfl, Nat.le_of_ble_eq_true rfl⟩ (tx_get t (nI (u.length + 1))) ?_
    rw [tg_nI T (by omega), c1]
    (repeat (first | refine ax_st rfl ?_ | (apply ev_get rfl; assumption; rfl))); try dsimp only
    refine ev_callV rfl hob ⟨rfl, rfl, Nat.le_of_ble_eq_true rfl, Nat.le_of_ble_eq_true rfl⟩ (tx_size tb) ?_
    (repeat (first | refine ax_st rfl ?_ | (apply ev_get rfl; assumption; rfl))); try dsimp only
    refine ev_put rfl a ?_ ?_ ?_; exact Nat.le_of_ble_eq_true rfl; rfl
    rw [show nI u.length + 3 = nI (u.length + 3) from nI_add u.length 3]
    (repeat (first | refine ax_st rfl ?_ | (apply ev_get rfl; assumption; rfl))); try dsimp only
    rw [nI_1 dp]
    refine ev_callV rfl a1' ⟨rfl, rfl, Nat.le_of_ble_eq_true rfl, Nat.le_of_ble_eq_true rfl⟩ (e1) ?_
    exact e2
  refine ⟨fun l hl => ?_, fun hl => ?_⟩
  · have hl : (lt rc g 0).map (fun l => if rn l false = [k] then .num 0 else if k ∈ rn l false then .mulL k l else l) = some l := hl
    obtain ⟨x, hx, rfl⟩ := Option.map_eq_some_iff.mp hl
    obtain ⟨h1, e1, b1, b2, b3⟩ := IH.1 x hx
    have hxl := (lt_len rc g 0 x hx).1 rfl hwg
    by_cases hx0 : 0 < (rn x false).length
    · obtain ⟨h2, e2, d1, d2, d3⟩ := w_close (d := e + 3) hd.1 b1 b2 hk (by omega) hx0
      refine ⟨h2, head rfl (body e1 1 ?_), by rw [hln, show u.length + (3 + (rn g false).length) = u.length + 3 + (rn g false).length by omega]; exact d1, ?_, (f1.tr b3).tr d3⟩
      · have b1' := b1
        unfold wr at b1'
        (repeat (first | refine ax_st rfl ?_ | (apply ev_get rfl; assumption; rfl))); try dsimp only
        refine ev_callV rfl b1' ⟨rfl, rfl, Nat.le_of_ble_eq_true rfl, Nat.le_of_ble_eq_true rfl⟩ (e2) ?_
        (repeat (first | refine ax_st rfl ?_ | (apply ev_get rfl; assumption; rfl))); try dsimp only
        exact ax_rt rfl
      · have : rn (if rn x false = [k] then (.num 0 : Tr) else if k ∈ rn x false then .mulL k x else x) false = (if rn x false = [k] then [101] else if k ∈ rn x false then 109 :: k :: 46 :: rn x false else rn x false) := by
          split
          · rfl
          · split
            · simp [rn]
            · rfl
        rw [this]
        exact d2
    · exact absurd (lt_pos rc g x hwg hx) hx0
  · have hl : (lt rc g 0).map (fun l => if rn l false = [k] then .num 0 else if k ∈ rn l false then .mulL k l else l) = none := hl
    have hl : lt rc g 0 = none := Option.map_eq_none_iff.mp hl
    obtain ⟨h1, e1, b1, b2⟩ := IH.2 hl
    refine ⟨h1, head rfl (body e1 0 ?_), b1, f1.tr b2⟩
    (repeat (first | refine ax_st rfl ?_ | (apply ev_get rfl; assumption; rfl))); try dsimp only
    exact ax_rt rfl
end WRT
