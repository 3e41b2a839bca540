/-! The reference: the fault it finds; the pieces of a protocol. -/
theorem dr_c {tp : List Nat} {p c : Nat} {w : List Nat} (h : tp.drop p = c :: w) : p < tp.length ∧ tp.getD p 0 = c ∧ tp.drop (p + 1) = w := by
  have hp : p < tp.length := by
    apply Decidable.byContradiction
    intro z
    rw [List.drop_eq_nil_of_le (by omega)] at h
    cases h
  refine ⟨hp, ?_, ?_⟩
  · have := congrArg (fun l => l.getD 0 0) h
    simp only [List.getD_cons_zero] at this
    rw [← this]
    simp [List.getD]
  · have := congrArg List.tail h
    simpa using this
/-- the two automata side by side -/
def SR (F : Nat → Nat → Int32) (n : Nat) (e nm : Nat) (st inn : Int32) (ks : List (Nat × Bool)) : Prop := ch F n ks inn ∧ cm ks = nm + (if e = 3 then 1 else 0) ∧ ((e = 0 ∧ st = 0) ∨ (e = 1 ∧ st = 1) ∨ (e = 2 ∧ st = 3) ∨ (e = 3 ∧ st = 4) ∨ (e = 4 ∧ st = 5) ∨ (e = 5 ∧ st = 2) ∨ (e = 6 ∧ ((ks = [] ∧ st = 7) ∨ ∃ k ks', ks = (k, true) :: ks' ∧ st = 6)))
section RD3
variable {d : Nat} {ms mv : Int32} {th ru : Bool} {tp : List Nat}
theorem sr_dl {F : Nat → Nat → Int32} {n nm : Nat} {ks : List (Nat × Bool)} {x : Int32} (c : ch F n ks x) (hm : cm ks = nm) : SR F n 6 nm (if dl ks = [] then 7 else 6) (hd (dl ks)) (dl ks) := by
  refine ⟨ch_dl ks x c, by rw [cm_dl, hm, if_neg (by decide)]; rfl, Or.inr (Or.inr (Or.inr (Or.inr (Or.inr (Or.inr ⟨rfl, ?_⟩)))))⟩
  rcases dl_head ks with z | ⟨k, ks', z⟩
  · exact Or.inl ⟨z, by rw [if_pos z]⟩
  · exact Or.inr ⟨k, ks', z, by rw [if_neg (by rw [z]; simp)]⟩
theorem rd_fault (F0 : Nat → Nat → Int32) (r : Int32) (hr : r ≠ -1) : ∀ (w : List Nat) (e nm p n : Nat) (h : ax_H) (F : Nat → Nat → Int32) (st inn le br lo : Int32) (ks : List (Nat × Bool)), tp.drop p = w → p ≤ tp.length → n ≤ p → RX h tp n th ms ru mv F → (∀ q, q < 61 ∨ 65 < q → F q = F0 q) → SR F n e nm st inn ks → gfl w e nm p = r → RH d h st inn le br lo p (fun res h' => res = r ∧ ∃ n' F', RX h' tp n' th ms ru mv F' ∧ ∀ q, q < 61 ∨ 65 < q → F' q = F0 q) := by
  intro w
  induction w with
  | nil =>
    intro e nm p n h F st inn le br lo ks hw hp hn X hF S hg
    have hp2 : p = tp.length := by
      have := congrArg List.length hw
      simp at this
      omega
    refine rh_end X hp2 ⟨?_, n, F, X, hF⟩
    unfold gfl at hg
    obtain ⟨c1, c2, c3⟩ := S
    by_cases hh : e = 6 ∧ nm = 0
    · rw [if_pos hh] at hg
      exact absurd hg.symm hr
    · rw [if_neg hh] at hg
      have : st ≠ 7 := by
        rcases c3 with ⟨-, z⟩ | ⟨-, z⟩ | ⟨-, z⟩ | ⟨-, z⟩ | ⟨-, z⟩ | ⟨-, z⟩ | ⟨z1, z⟩
        all_goals try (rw [z]; decide)
        rcases z with ⟨z, z2⟩ | ⟨k, ks', z, z2⟩
        · exfalso
          apply hh
          refine ⟨z1, ?_⟩
          rw [z, z1] at c2
          simp [cm] at c2
          omega
        · rw [z2]; decide
      rw [if_neg this, ← hp2]
      exact hg
  | cons c w ih =>
    intro e nm p n h F st inn le br lo ks hw hp hn X hF S hg
    obtain ⟨hp', hc, hw'⟩ := dr_c hw
    obtain ⟨c1, c2, c3⟩ := S
    unfold gfl at hg
    have hG : ∀ {e' nm' : Nat}, gst e nm c = (e', nm') → e' ≠ 7 → gfl w e' nm' (p + 1) = r := by
      intro e' nm' h1 h2
      rw [h1] at hg
      rw [if_neg h2] at hg
      exact hg
    have hX : (gst e nm c).1 = 7 → nI p = r := by
      intro h1
      rw [if_pos h1] at hg
      exact hg
    have fin : (gst e nm c).1 = 7 → (nI p = r ∧ ∃ n' F', RX h tp n' th ms ru mv F' ∧ ∀ q, q < 61 ∨ 65 < q → F' q = F0 q) := fun z => ⟨hX z, n, F, X, hF⟩
    rcases c3 with ⟨rfl, rfl⟩ | ⟨rfl, rfl⟩ | ⟨rfl, rfl⟩ | ⟨rfl, rfl⟩ | ⟨rfl, rfl⟩ | ⟨rfl, rfl⟩ | ⟨rfl, z⟩
    · have c2 : cm ks = nm := c2
      by_cases h1 : c = 101 ∨ isV c = true
      · refine rs_0a X hn hp' hc h1 c1 (fun h1' X1 => ih 6 nm (p + 1) (n + 1) h1' _ _ _ _ _ _ (dl ks) hw' (by omega) (by omega) X1 (fun q hq => by rw [pu_ne hq]; exact hF q hq) ?_ (hG (by unfold gst; rw [if_pos rfl, if_pos h1]) (by decide)))
        exact sr_dl (ch_kp kp_pu (Nat.le_succ n) ks inn c1) c2
      · by_cases h2 : c = 109
        · rw [h2] at hc
          refine rs_0m X hp' hc (ih 1 nm (p + 1) n h F _ _ _ _ _ ks hw' (by omega) (by omega) X hF ⟨c1, c2, Or.inr (Or.inl ⟨rfl, rfl⟩)⟩ (hG (by unfold gst; rw [if_pos rfl, if_neg h1, if_pos h2]) (by decide)))
        · by_cases h3 : isR c = true
          · refine rs_0r X hp' hc h3 (ih 2 nm (p + 1) n h F _ _ _ _ _ ks hw' (by omega) (by omega) X hF ⟨c1, c2, Or.inr (Or.inr (Or.inl ⟨rfl, rfl⟩))⟩ (hG (by unfold gst; rw [if_pos rfl, if_neg h1, if_neg h2, if_pos h3]) (by decide)))
          · refine rs_0x X hp' hc (by unfold aSt; rw [if_neg h1, if_neg h2, if_neg h3]) (fin (by unfold gst; rw [if_pos rfl, if_neg h1, if_neg h2, if_neg h3]))
    · have c2 : cm ks = nm := c2
      cases h1 : isV c with
      | true =>
        refine rs_1 X hn hp' hc h1 (fun h1' X1 => ih 5 nm (p + 1) (n + 1) h1' _ _ _ _ _ _ ((n, false) :: ks) hw' (by omega) (by omega) X1 (fun q hq => by rw [pu_ne hq]; exact hF q hq) ⟨⟨rfl, by omega, by rw [pu_61, upd_s]; rfl, by rw [pu_64, upd_s]; exact ch_kp kp_pu (Nat.le_succ n) ks inn c1⟩, by show 0 + cm ks = nm; omega, by simp⟩ (hG (by unfold gst; rw [if_neg (by decide), if_pos rfl, if_pos h1]) (by decide)))
      | false => exact rs_1x X hp' hc h1 (fin (by unfold gst; rw [if_neg (by decide), if_pos rfl, h1]; rfl))
    · have c2 : cm ks = nm := c2
      cases h1 : isR c with
      | true =>
        refine rs_3 X hn hp' hc h1 (fun h1' X1 => ih 3 nm (p + 1) (n + 1) h1' _ _ _ _ _ _ ((n, true) :: ks) hw' (by omega) (by omega) X1 (fun q hq => by rw [pu_ne hq]; exact hF q hq) ⟨⟨rfl, by omega, by rw [pu_61, upd_s]; rfl, by rw [pu_64, upd_s]; exact ch_kp kp_pu (Nat.le_succ n) ks inn c1⟩, by show 1 + cm ks = nm + 1; omega, by simp⟩ (hG (by unfold gst; rw [if_neg (by decide), if_neg (by decide), if_pos rfl, if_pos h1]) (by decide)))
      | false => exact rs_3x X hp' hc h1 (fin (by unfold gst; rw [if_neg (by decide), if_neg (by decide), if_pos rfl, h1]; rfl))
    · have c2 : cm ks = nm + 1 := c2
      by_cases h1 : c = 123
      · rw [h1] at hc
        exact rs_4 X hp' hc (ih 4 (nm + 1) (p + 1) n h F _ _ _ _ _ ks hw' (by omega) (by omega) X hF ⟨c1, c2, by simp⟩ (hG (by unfold gst; rw [if_neg (by decide), if_neg (by decide), if_neg (by decide), if_pos rfl, if_pos h1]) (by decide)))
      · exact rs_4x X hp' hc h1 (fin (by unfold gst; rw [if_neg (by decide), if_neg (by decide), if_neg (by decide), if_pos rfl, if_neg h1]))
    · have c2 : cm ks = nm := c2
      cases h1 : isL c with
      | true => exact rs_5 X hp' hc h1 (ih 5 nm (p + 1) n h F _ _ _ _ _ ks hw' (by omega) (by omega) X hF ⟨c1, c2, by simp⟩ (hG (by unfold gst; rw [if_neg (by decide), if_neg (by decide), if_neg (by decide), if_neg (by decide), if_pos rfl, if_pos h1]) (by decide)))
      | false => exact rs_5x X hp' hc h1 (fin (by unfold gst; rw [if_neg (by decide), if_neg (by decide), if_neg (by decide), if_neg (by decide), if_pos rfl, h1]; rfl))
    · have c2 : cm ks = nm := c2
      by_cases h1 : c = 46
      · rw [h1] at hc
        exact rs_2 X hp' hc (ih 0 nm (p + 1) n h F _ _ _ _ _ ks hw' (by omega) (by omega) X hF ⟨c1, c2, by simp⟩ (hG (by unfold gst; rw [if_neg (by decide), if_neg (by decide), if_neg (by decide), if_neg (by decide), if_neg (by decide), if_pos rfl, if_pos h1]) (by decide)))
      · exact rs_2x X hp' hc h1 (fin (by unfold gst; rw [if_neg (by decide), if_neg (by decide), if_neg (by decide), if_neg (by decide), if_neg (by decide), if_pos rfl, if_neg h1]))
    · have c2 : cm ks = nm := c2
      have g6 : gst 6 nm c = (if nm = 0 then (7, nm) else if c = 44 then (4, nm) else if c = 125 then (6, nm - 1) else (7, nm)) := rfl
      rcases z with ⟨rfl, rfl⟩ | ⟨k, ks', rfl, rfl⟩
      · have : nm = 0 := c2.symm
        exact rs_7x X hp' (fin (by rw [g6, if_pos this]))
      · have c2' : 1 + cm ks' = nm := c2
        by_cases h1 : c = 44
        · rw [h1] at hc
          exact rs_6c X hp' hc (ih 4 nm (p + 1) n h F _ _ _ _ _ _ hw' (by omega) (by omega) X hF ⟨c1, c2, by simp⟩ (hG (by rw [g6, if_neg (by omega), if_pos h1]) (by decide)))
        · by_cases h2 : c = 125
          · rw [h2] at hc
            refine rs_6e X hn hp' hc c1 (ih 6 (nm - 1) (p + 1) n h F _ _ _ _ _ (dl ks') hw' (by omega) (by omega) X hF (sr_dl c1.2.2.2 (by omega)) (hG (by rw [g6, if_neg (by omega), if_neg h1, if_pos h2]) (by decide)))
          · exact rs_6x X hp' hc h1 h2 (fin (by rw [g6, if_neg (by omega), if_neg h1, if_neg h2]))
end RD3
