/-! The pieces of a protocol, in the order of its text. -/
def sz : Tr → Bool → Nat
  | .num _, _ => 1
  | .var _, _ => 1
  | .mulL _ g, b => if b = true then sz g false else 1 + sz g false
  | .mulR bs _, _ => 1 + sz bs true
  | .add l r, _ => sz l true + sz r true
def Fl (F : Nat → Nat → Int32) : Tr → Bool → Nat → Int32 → Int32 → Prop
  | .num _, _, n, inn, br => F 61 n = 0 ∧ F 62 n = 101 ∧ F 64 n = inn ∧ F 65 n = br
  | .var x, _, n, inn, br => F 61 n = 1 ∧ F 62 n = nI x ∧ F 64 n = inn ∧ F 65 n = br
  | .mulL k g, b, n, inn, br => if b = true then Fl F g false n inn (nI k) else (F 61 n = 2 ∧ F 62 n = nI k ∧ F 64 n = inn ∧ F 65 n = br) ∧ Fl F g false (n + 1) (nI n) br
  | .mulR bs k, _, n, inn, br => (F 61 n = 3 ∧ F 62 n = nI (k / 256) ∧ F 63 n = nI (k % 256) ∧ F 64 n = inn ∧ F 65 n = br) ∧ Fl F bs true (n + 1) (nI n) br
  | .add l r, _, n, inn, br => Fl F l true n inn br ∧ Fl F r true (n + sz l true) inn br
theorem sz_pos : ∀ (t : Tr) (b : Bool), 0 < sz t b
  | .num _, _ => Nat.one_pos
  | .var _, _ => Nat.one_pos
  | .mulL _ g, b => by
    have := sz_pos g false
    unfold sz
    split <;> omega
  | .mulR bs _, _ => by unfold sz; omega
  | .add l r, _ => by
    have := sz_pos l true
    unfold sz
    omega
theorem sz_le : ∀ (t : Tr) (b : Bool), sz t b ≤ (rn t b).length
  | .num _, _ => Nat.le_refl _
  | .var _, _ => Nat.le_refl _
  | .mulL k g, b => by
    have := sz_le g false
    cases b <;> simp [rn, sz] <;> omega
  | .mulR bs _, b => by
    have := sz_le bs true
    simp [rn, sz]
    omega
  | .add l r, b => by
    have h1 := sz_le l true
    have h2 := sz_le r true
    simp [rn, sz]
    omega
theorem Fl_kp {F F' : Nat → Nat → Int32} {n' : Nat} (k : kp F F' n') : ∀ (t : Tr) (b : Bool) (n : Nat) (inn br : Int32), n + sz t b ≤ n' → Fl F t b n inn br → Fl F' t b n inn br
  | .num _, b, n, inn, br, hn, h => by
    have hn : n < n' := hn
    unfold Fl at h ⊢
    rw [k.2 61 n hn, k.2 62 n hn, k.2 64 n hn, k.2 65 n hn]
    exact h
  | .var _, b, n, inn, br, hn, h => by
    have hn : n < n' := hn
    unfold Fl at h ⊢
    rw [k.2 61 n hn, k.2 62 n hn, k.2 64 n hn, k.2 65 n hn]
    exact h
  | .mulL x g, b, n, inn, br, hn, h => by
    unfold sz at hn
    cases b with
    | true =>
      have hn : n + sz g false ≤ n' := hn
      exact Fl_kp k g false n inn (nI x) hn h
    | false =>
      have hn : n + (1 + sz g false) ≤ n' := hn
      refine ⟨?_, Fl_kp k g false (n + 1) (nI n) br (by omega) h.2⟩
      rw [k.2 61 n (by omega), k.2 62 n (by omega), k.2 64 n (by omega), k.2 65 n (by omega)]
      exact h.1
  | .mulR bs x, b, n, inn, br, hn, h => by
    unfold sz at hn
    refine ⟨?_, Fl_kp k bs true (n + 1) (nI n) br (by omega) h.2⟩
    rw [k.2 61 n (by omega), k.2 62 n (by omega), k.2 63 n (by omega), k.2 64 n (by omega), k.2 65 n (by omega)]
    exact h.1
  | .add l r, b, n, inn, br, hn, h => by
    unfold sz at hn
    exact ⟨Fl_kp k l true n inn br (by omega) h.1, Fl_kp k r true (n + sz l true) inn br (by omega) h.2⟩
section RD4
variable {d : Nat} {ms mv : Int32} {th ru : Bool} {tp : List Nat} {Φ : Int32 → ax_H → Prop}
def TG (d : Nat) (tp : List Nat) (th : Bool) (ms : Int32) (ru : Bool) (mv : Int32) (Φ : Int32 → ax_H → Prop) (t : Tr) : Prop := wf t false → ∀ (h : ax_H) (F : Nat → Nat → Int32) (n p : Nat) (inn le br lo : Int32) (ks : List (Nat × Bool)) (w : List Nat), RX h tp n th ms ru mv F → n ≤ p → tp.drop p = rn t false ++ w → ch F n ks inn → (∀ h1 F1 le1 br1 lo1, RX h1 tp (n + sz t false) th ms ru mv F1 → kp F F1 n → Fl F1 t false n inn br → RH d h1 (if dl ks = [] then 7 else 6) (hd (dl ks)) le1 br1 lo1 (p + (rn t false).length) Φ) → RH d h 0 inn le br lo p Φ
def TB (d : Nat) (tp : List Nat) (th : Bool) (ms : Int32) (ru : Bool) (mv : Int32) (Φ : Int32 → ax_H → Prop) (t : Tr) : Prop := wf t true → ∀ (h : ax_H) (F : Nat → Nat → Int32) (n p : Nat) (inn le br br0 lo : Int32) (k0 : Nat) (ks : List (Nat × Bool)) (w : List Nat), RX h tp n th ms ru mv F → n ≤ p → tp.drop p = rn t true ++ w → ch F n ((k0, true) :: ks) inn → (∀ h1 F1 le1 br1 lo1, RX h1 tp (n + sz t true) th ms ru mv F1 → kp F F1 n → Fl F1 t true n inn br0 → RH d h1 6 inn le1 br1 lo1 (p + (rn t true).length) Φ) → RH d h 5 inn le br lo p Φ
theorem dr_app {p : Nat} {u w : List Nat} (h : tp.drop p = u ++ w) : tp.drop (p + u.length) = w := by
  rw [← List.drop_drop, h, List.drop_left]
theorem rd_tree : ∀ (t : Tr), TG d tp th ms ru mv Φ t ∧ TB d tp th ms ru mv Φ t
  | .num x => by
    refine ⟨fun hw h F n p inn le br lo ks w X hn hd' ck K => ?_, fun hw => absurd hw.1 (by decide)⟩
    obtain ⟨hp, hc, hw'⟩ := dr_c (c := 101) (w := w) hd'
    refine rs_0a X hn hp hc (Or.inl rfl) ck (fun h1 X1 => K h1 _ _ _ _ X1 kp_pu ⟨?_, ?_, ?_, ?_⟩)
    · rw [pu_61, upd_s]; rfl
    · rw [pu_62, upd_s]; rfl
    · rw [pu_64, upd_s]
    · rw [pu_65, upd_s]
  | .var x => by
    refine ⟨fun hw h F n p inn le br lo ks w X hn hd' ck K => ?_, fun hw => absurd hw.1 (by decide)⟩
    obtain ⟨hp, hc, hw'⟩ := dr_c (c := x) (w := w) hd'
    have hb := isV_b hw.2
    refine rs_0a X hn hp hc (Or.inr hw.2) ck (fun h1 X1 => K h1 _ _ _ _ X1 kp_pu ⟨?_, ?_, ?_, ?_⟩)
    · rw [pu_61, upd_s, if_neg (by omega)]
    · rw [pu_62, upd_s]
    · rw [pu_64, upd_s]
    · rw [pu_65, upd_s]
  | .mulL x g => by
    have ih := (rd_tree g).1
    constructor
    · intro hw h F n p inn le br lo ks w X hn hd' ck K
      obtain ⟨hp, hc, hw1⟩ := dr_c (c := 109) (w := x :: 46 :: (rn g false ++ w)) hd'
      refine rs_0m X hp hc ?_
      obtain ⟨hp, hc, hw2⟩ := dr_c hw1
      refine rs_1 X (by omega) hp hc hw.1 (fun h1 X1 => ?_)
      obtain ⟨hp, hc, hw3⟩ := dr_c hw2
      refine rs_2 X1 hp hc ?_
      have ck1 : ch (pu F n 2 (nI x) 0 inn br) (n + 1) ((n, false) :: ks) (nI n) := ⟨rfl, by omega, by rw [pu_61, upd_s]; rfl, by rw [pu_64, upd_s]; exact ch_kp kp_pu (Nat.le_succ n) ks inn ck⟩
      refine ih hw.2 h1 _ (n + 1) (p + 1 + 1 + 1) (nI n) _ br _ _ w X1 (by omega) hw3 ck1 (fun h2 F2 le2 br2 lo2 X2 k2 f2 => ?_)
      have e1 : n + 1 + sz g false = n + sz (.mulL x g) false := by show n + 1 + sz g false = n + (1 + sz g false); omega
      have e2 : p + 1 + 1 + 1 + (rn g false).length = p + (rn (.mulL x g) false).length := by simp [rn]; omega
      rw [e1] at X2
      rw [e2]
      refine K h2 F2 le2 br2 lo2 X2 ((kp_pu (k := 2) (a := nI x) (b := 0) (i := inn) (l := br)).tr k2 (by omega)) ⟨⟨?_, ?_, ?_, ?_⟩, f2⟩
      · rw [k2.2 61 n (by omega), pu_61, upd_s]
      · rw [k2.2 62 n (by omega), pu_62, upd_s]
      · rw [k2.2 64 n (by omega), pu_64, upd_s]
      · rw [k2.2 65 n (by omega), pu_65, upd_s]
    · intro hw h F n p inn le br br0 lo k0 ks w X hn hd' ck K
      obtain ⟨hp, hc, hw1⟩ := dr_c (c := x) (w := 46 :: (rn g false ++ w)) hd'
      refine rs_5 X hp hc hw.1 ?_
      obtain ⟨hp, hc, hw2⟩ := dr_c hw1
      refine rs_2 X hp hc ?_
      refine ih hw.2 h F n (p + 1 + 1) inn _ (nI x) _ _ w X (by omega) hw2 ck (fun h2 F2 le2 br2 lo2 X2 k2 f2 => ?_)
      have e2 : p + 1 + 1 + (rn g false).length = p + (rn (.mulL x g) true).length := by simp [rn]; omega
      rw [e2, show hd (dl ((k0, true) :: ks)) = inn from ck.1.symm]
      exact K h2 F2 le2 br2 lo2 X2 k2 f2
  | .mulR bs x => by
    have ih := (rd_tree bs).2
    refine ⟨fun hw h F n p inn le br lo ks w X hn hd' ck K => ?_, fun hw => absurd hw.1 (by decide)⟩
    have hd2 : tp.drop p = x / 256 :: x % 256 :: 123 :: (rn bs true ++ 125 :: w) := by rw [hd']; simp [rn]
    obtain ⟨hp, hc, hw1⟩ := dr_c hd2
    refine rs_0r X hp hc hw.2.1 ?_
    obtain ⟨hp, hc, hw2⟩ := dr_c hw1
    refine rs_3 X (by omega) hp hc hw.2.2.1 (fun h1 X1 => ?_)
    obtain ⟨hp, hc, hw3⟩ := dr_c hw2
    refine rs_4 X1 hp hc ?_
    have ck1 : ch (pu F n 3 (nI (x / 256)) (nI (x % 256)) inn br) (n + 1) ((n, true) :: ks) (nI n) := ⟨rfl, by omega, by rw [pu_61, upd_s]; rfl, by rw [pu_64, upd_s]; exact ch_kp kp_pu (Nat.le_succ n) ks inn ck⟩
    refine ih hw.2.2.2 h1 _ (n + 1) (p + 1 + 1 + 1) (nI n) _ br br _ _ ks _ X1 (by omega) hw3 ck1 (fun h2 F2 le2 br2 lo2 X2 k2 f2 => ?_)
    obtain ⟨hp, hc, hw5⟩ := dr_c (dr_app hw3)
    have ck2 := ch_kp k2 (Nat.le_add_right (n + 1) (sz bs true)) _ _ ck1
    have hl := sz_le bs true
    refine rs_6e X2 (by omega) hp hc ck2 ?_
    have e1 : n + 1 + sz bs true = n + sz (.mulR bs x) false := by show n + 1 + sz bs true = n + (1 + sz bs true); omega
    have e2 : p + 1 + 1 + 1 + (rn bs true).length + 1 = p + (rn (.mulR bs x) false).length := by simp [rn]; omega
    rw [e1] at X2
    rw [e2]
    refine K h2 F2 le2 br2 lo2 X2 ((kp_pu (k := 3) (a := nI (x / 256)) (b := nI (x % 256)) (i := inn) (l := br)).tr k2 (by omega)) ⟨⟨?_, ?_, ?_, ?_, ?_⟩, f2⟩
    · rw [k2.2 61 n (by omega), pu_61, upd_s]
    · rw [k2.2 62 n (by omega), pu_62, upd_s]
    · rw [k2.2 63 n (by omega), pu_63, upd_s]
    · rw [k2.2 64 n (by omega), pu_64, upd_s]
    · rw [k2.2 65 n (by omega), pu_65, upd_s]
  | .add l r => by
    have ih1 := (rd_tree l).2
    have ih2 := (rd_tree r).2
    refine ⟨fun hw => absurd hw.1 (by decide), fun hw h F n p inn le br br0 lo k0 ks w X hn hd' ck K => ?_⟩
    have hd2 : tp.drop p = rn l true ++ (44 :: (rn r true ++ w)) := by rw [hd']; simp [rn]
    have hl := sz_le l true
    refine ih1 hw.2.1 h F n p inn le br br0 lo k0 ks _ X hn hd2 ck (fun h1 F1 le1 br1 lo1 X1 k1 f1 => ?_)
    obtain ⟨hp, hc, hw2⟩ := dr_c (dr_app hd2)
    refine rs_6c X1 hp hc ?_
    have ck1 := ch_kp k1 (Nat.le_add_right n (sz l true)) _ _ ck
    refine ih2 hw.2.2 h1 F1 (n + sz l true) _ inn _ _ br0 _ k0 ks w X1 (by omega) hw2 ck1 (fun h2 F2 le2 br2 lo2 X2 k2 f2 => ?_)
    have e1 : n + sz l true + sz r true = n + sz (.add l r) true := by show n + sz l true + sz r true = n + (sz l true + sz r true); omega
    have e2 : p + (rn l true).length + 1 + (rn r true).length = p + (rn (.add l r) true).length := by simp [rn]; omega
    rw [e1] at X2
    rw [e2]
    exact K h2 F2 le2 br2 lo2 X2 (k1.tr k2 (by omega)) ⟨Fl_kp k2 l true n inn br0 (Nat.le_refl _) f1, f2⟩
end RD4
section RD5
variable {d : Nat} {h : ax_H} {tp : List Nat} {mc mv ms pcs : Int32} {th ru : Bool} {F : Nat → Nat → Int32}
/-- read as a whole -/
theorem m_read0 {Φ : Int32 → ax_H → Prop} (m : mo h (nI tp.length) pcs th ms ru mv) (A : MA h F) (T : MT F tp) (K : ∀ h1, RX h1 tp 0 th ms ru mv F → RH d h1 0 (-1) 0 0 0 0 Φ) : ∃ res h', mt (d + 2) 83 [.inr (some 59)] h (some (.inl res)) h' ∧ Φ res h' ∧ fr h h' (fun q => 59 ≤ q) := by
  have m1 := m.o (nI tp.length) (nI 0) th ms ru mv
  have A1 := A.o (moC (nI tp.length) (nI 0) th ms ru mv)
  obtain ⟨res, h', e, f1, f2⟩ := K _ ⟨m1, A1, T⟩ none none
  refine ⟨res, h', ?_, f1, fr.tr (A := fun q => 59 ≤ q) (fr.st (by decide)) f2⟩
  unfold mo at m
  (repeat (first | refine ax_st rfl ?_ | (apply ev_get rfl; assumption; rfl))); try dsimp only
  refine ev_put rfl m ?_ ?_ ?_; exact Nat.le_of_ble_eq_true rfl; rfl
  repeat (first | (exact e) | refine ax_st rfl ?_ | (apply ev_get rfl; assumption; rfl))
theorem m_readF (m : mo h (nI tp.length) pcs th ms ru mv) (A : MA h F) (T : MT F tp) (hf : gfl tp 0 0 0 ≠ -1) : ∃ h' n' F', mt (d + 2) 83 [.inr (some 59)] h (some (.inl (gfl tp 0 0 0))) h' ∧ RX h' tp n' th ms ru mv F' ∧ (∀ q, q < 61 ∨ 65 < q → F' q = F q) ∧ fr h h' (fun q => 59 ≤ q) := by
  obtain ⟨res, h', e, ⟨rfl, n', F', X, q⟩, f⟩ := m_read0 (d := d) m A T (fun h1 X => rd_fault F _ hf tp 0 0 0 0 h1 F 0 (-1) 0 0 0 [] rfl (Nat.zero_le _) (Nat.le_refl _) X (fun _ _ => rfl) ⟨rfl, rfl, Or.inl ⟨rfl, rfl⟩⟩ rfl)
  exact ⟨h', n', F', e, X, q, f⟩
theorem m_readT {t : Tr} (hw : wf t false) (m : mo h (nI (rn t false).length) pcs th ms ru mv) (A : MA h F) (T : MT F (rn t false)) : ∃ h' F', mt (d + 2) 83 [.inr (some 59)] h (some (.inl (-1))) h' ∧ RX h' (rn t false) (sz t false) th ms ru mv F' ∧ (∀ q, q < 61 ∨ 65 < q → F' q = F q) ∧ Fl F' t false 0 (-1) 0 ∧ fr h h' (fun q => 59 ≤ q) := by
  obtain ⟨res, h', e, ⟨rfl, F', X, q, f1⟩, f⟩ := m_read0 (d := d) (Φ := fun res h' => res = -1 ∧ ∃ F', RX h' (rn t false) (sz t false) th ms ru mv F' ∧ (∀ q, q < 61 ∨ 65 < q → F' q = F q) ∧ Fl F' t false 0 (-1) 0) m A T (fun h1 X => (rd_tree t).1 hw h1 F 0 0 (-1) 0 0 0 [] [] X (Nat.le_refl _) (by simp) rfl (fun h2 F2 le2 br2 lo2 X2 k2 f2 => by
    rw [Nat.zero_add] at X2
    refine rh_end X2 (Nat.zero_add _) ⟨rfl, F2, X2, k2.1, f2⟩))
  exact ⟨h', F', e, X, q, f1, f⟩
end RD5
