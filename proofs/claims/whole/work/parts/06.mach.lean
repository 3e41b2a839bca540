/-! A small machine over logical addresses: values, cells, heaps, steps. Address 0 is the script. -/
abbrev ax_V : Type := Int32 ⊕ Option Nat
abbrev ax_A : Type := (Nat → Int32) ⊕ (Nat → Option Nat)
abbrev ax_C : Type := (Nat × Nat × ax_A) ⊕ (Nat × List ax_V)
/-- a heap: how many cells, how many slots, and the cells -/
abbrev ax_H : Type := Nat × Nat × (Nat → ax_C)
abbrev ax_L : Type := List (Option ax_V)
/-- what one step gives: go on; call; return -/
abbrev ax_R : Type := (Nat × ax_L × List ax_V × ax_H) ⊕ ((Nat × List ax_V × Nat × ax_L × List ax_V) ⊕ Option ax_V)
abbrev ax_O : Type := ax_L → List ax_V → ax_H → Option ax_R
def ax_up (f : Nat → ax_C) (k : Nat) (c : ax_C) : Nat → ax_C := fun j => if j = k then c else f j
def ax_set (h : ax_H) (k : Nat) (c : ax_C) : ax_H := (h.1, h.2.1, ax_up h.2.2 k c)
def ax_push (h : ax_H) (n : Nat) (c : ax_C) : ax_H := (h.1 + 1, h.2.1 + n, ax_up h.2.2 h.1 c)
/-- an index within n -/
def ax_in (i : Int32) (n : Nat) : Bool := decide (¬ i < 0) && decide (i.toNatClampNeg < n)
/-- steps, by kinds -/
def ax_const (x : Int32) (nx : Nat) : ax_O := fun L st h => some (.inl (nx, L, .inl x :: st, h))
def ax_null (nx : Nat) : ax_O := fun L st h => some (.inl (nx, L, .inr none :: st, h))
def ax_iload (i nx : Nat) : ax_O := fun L st h => match L[i]? with
  | some (some (.inl x)) => some (.inl (nx, L, .inl x :: st, h))
  | _ => none
def ax_aload (i nx : Nat) : ax_O := fun L st h => match L[i]? with
  | some (some (.inr r)) => some (.inl (nx, L, .inr r :: st, h))
  | _ => none
def ax_istore (i nx : Nat) : ax_O := fun L st h => match st with
  | .inl x :: t => some (.inl (nx, L.set i (some (.inl x)), t, h))
  | _ => none
def ax_astore (i nx : Nat) : ax_O := fun L st h => match st with
  | .inr r :: t => some (.inl (nx, L.set i (some (.inr r)), t, h))
  | _ => none
def ax_iinc (i : Nat) (n : Int32) (nx : Nat) : ax_O := fun L st h => match L[i]? with
  | some (some (.inl x)) => some (.inl (nx, L.set i (some (.inl (x + n))), st, h))
  | _ => none
def ax_bin (f : Int32 → Int32 → Int32) (nx : Nat) : ax_O := fun L st h => match st with
  | .inl y :: .inl x :: t => some (.inl (nx, L, .inl (f x y) :: t, h))
  | _ => none
def ax_un (f : Int32 → Int32) (nx : Nat) : ax_O := fun L st h => match st with
  | .inl x :: t => some (.inl (nx, L, .inl (f x) :: t, h))
  | _ => none
def ax_dup (nx : Nat) : ax_O := fun L st h => match st with
  | v :: t => some (.inl (nx, L, v :: v :: t, h))
  | _ => none
def ax_dup2 (nx : Nat) : ax_O := fun L st h => match st with
  | v :: w :: t => some (.inl (nx, L, v :: w :: v :: w :: t, h))
  | _ => none
def ax_pop (nx : Nat) : ax_O := fun L st h => match st with
  | _ :: t => some (.inl (nx, L, t, h))
  | _ => none
def ax_goto (nx : Nat) : ax_O := fun L st h => some (.inl (nx, L, st, h))
/-- a branch on one number, on two -/
def ax_if (c : Int32 → Bool) (tg nx : Nat) : ax_O := fun L st h => match st with
  | .inl x :: t => some (.inl (bif c x then tg else nx, L, t, h))
  | _ => none
def ax_icmp (c : Int32 → Int32 → Bool) (tg nx : Nat) : ax_O := fun L st h => match st with
  | .inl y :: .inl x :: t => some (.inl (bif c x y then tg else nx, L, t, h))
  | _ => none
def ax_ifnull (tg nx : Nat) : ax_O := fun L st h => match st with
  | .inr none :: t => some (.inl (tg, L, t, h))
  | .inr (some _) :: t => some (.inl (nx, L, t, h))
  | _ => none
def ax_ifnonnull (tg nx : Nat) : ax_O := fun L st h => match st with
  | .inr none :: t => some (.inl (nx, L, t, h))
  | .inr (some _) :: t => some (.inl (tg, L, t, h))
  | _ => none
/-- a switch: the places by the keys, in their order -/
def ax_sel (x : Int32) : List (Int × Nat) → Nat → Nat
  | [], d => d
  | (k, t) :: l, d => if x.toInt = k then t else ax_sel x l d
def ax_sw (ks : List (Int × Nat)) (d : Nat) : ax_O := fun L st h => match st with
  | .inl x :: t => some (.inl (ax_sel x ks d, L, t, h))
  | _ => none
/-- fields -/
def ax_get (ci k nx : Nat) : ax_O := fun L st h => match st with
  | .inr (some o) :: t => (match h.2.2 o with
    | .inr (cj, fs) => (if cj = ci ∧ 0 < o ∧ o < h.1 then (match fs[k]? with
      | some v => some (.inl (nx, L, v :: t, h))
      | none => none) else none)
    | .inl _ => none)
  | _ => none
/-- what a field of a kind takes: 0 an int, 1 a boolean, 2 a char, 3 a reference -/
def ax_fit (ty : Nat) (v : ax_V) : Bool := match v with
  | .inl x => (match ty with
    | 0 => true
    | 1 => decide (x = 0 ∨ x = 1)
    | 2 => decide ((x.toUInt32 % 65536).toInt32 = x)
    | _ => false)
  | .inr _ => ty == 3
def ax_put (ci k ty nx : Nat) : ax_O := fun L st h => match st with
  | v :: .inr (some o) :: t => (match h.2.2 o with
    | .inr (cj, fs) => (if cj = ci ∧ 0 < o ∧ o < h.1 ∧ k < fs.length ∧ ax_fit ty v = true then some (.inl (nx, L, t, ax_set h o (.inr (ci, fs.set k v)))) else none)
    | .inl _ => none)
  | _ => none
/-- arrays of numbers: 0 int, 1 char; of references: 2 Player, 3 PartWriter, 4 Row; 9 the script -/
def ax_ald (ty nx : Nat) : ax_O := fun L st h => match st with
  | .inl i :: .inr (some o) :: t => (match h.2.2 o with
    | .inl (tz, n, .inl f) => (if tz = ty ∧ 0 < o ∧ o < h.1 ∧ ax_in i n = true then some (.inl (nx, L, .inl (f i.toNatClampNeg) :: t, h)) else none)
    | _ => none)
  | _ => none
def ax_sld (nx : Nat) : ax_O := fun L st h => match st with
  | .inl i :: .inr (some 0) :: t => (match h.2.2 0 with
    | .inl (9, n, .inl f) => (if ax_in i n = true then some (.inl (nx, L, .inl (f i.toNatClampNeg) :: t, h)) else none)
    | _ => none)
  | _ => none
def ax_slen (nx : Nat) : ax_O := fun L st h => match st with
  | .inr (some 0) :: t => (match h.2.2 0 with
    | .inl (9, n, .inl _) => some (.inl (nx, L, .inl (Int32.ofNat n) :: t, h))
    | _ => none)
  | _ => none
def ax_ast (ty nx : Nat) : ax_O := fun L st h => match st with
  | .inl x :: .inl i :: .inr (some o) :: t => (match h.2.2 o with
    | .inl (tz, n, .inl f) => (if tz = ty ∧ 0 < o ∧ o < h.1 ∧ ax_in i n = true then some (.inl (nx, L, t, ax_set h o (.inl (ty, n, .inl (upd f i.toNatClampNeg (if ty = 1 then vp_nar .char x else x)))))) else none)
    | _ => none)
  | _ => none
def ax_aald (nx : Nat) : ax_O := fun L st h => match st with
  | .inl i :: .inr (some o) :: t => (match h.2.2 o with
    | .inl (tz, n, .inr f) => (if 2 ≤ tz ∧ tz ≤ 4 ∧ 0 < o ∧ o < h.1 ∧ ax_in i n = true then some (.inl (nx, L, .inr (f i.toNatClampNeg) :: t, h)) else none)
    | _ => none)
  | _ => none
/-- the class whose objects an array of references of a kind takes -/
def ax_ec (ty : Nat) : Nat := match ty with
  | 2 => 2
  | 3 => 1
  | _ => 3
def ax_aast (nx : Nat) : ax_O := fun L st h => match st with
  | .inr (some v) :: .inl i :: .inr (some o) :: t => (match h.2.2 o, h.2.2 v with
    | .inl (tz, n, .inr f), .inr (cj, _) => (if 2 ≤ tz ∧ tz ≤ 4 ∧ 0 < o ∧ o < h.1 ∧ ax_in i n = true ∧ 0 < v ∧ v < h.1 ∧ cj = ax_ec tz then some (.inl (nx, L, t, ax_set h o (.inl (tz, n, .inr (va_up f i.toNatClampNeg (some v)))))) else none)
    | _, _ => none)
  | _ => none
/-- new cells -/
def ax_new (ci : Nat) (fs : List ax_V) (nx : Nat) : ax_O := fun L st h => some (.inl (nx, L, .inr (some h.1) :: st, ax_push h fs.length (.inr (ci, fs))))
def ax_newa (ty nx : Nat) : ax_O := fun L st h => match st with
  | .inl n :: t => (if ¬ n < 0 ∧ n.toNatClampNeg ≤ 20000 then some (.inl (nx, L, .inr (some h.1) :: t, ax_push h n.toNatClampNeg (.inl (ty, n.toNatClampNeg, .inl (fun _ => 0))))) else none)
  | _ => none
def ax_newq (ty nx : Nat) : ax_O := fun L st h => match st with
  | .inl n :: t => (if ¬ n < 0 ∧ n.toNatClampNeg ≤ 20000 then some (.inl (nx, L, .inr (some h.1) :: t, ax_push h n.toNatClampNeg (.inl (ty, n.toNatClampNeg, .inr (fun _ => none))))) else none)
  | _ => none
/-- Object.<init> -/
def ax_obj (nx : Nat) : ax_O := fun L st h => match st with
  | .inr (some _) :: t => (if t.length ≤ 8 then some (.inl (nx, L, t, h)) else none)
  | _ => none
/-- calls: of a static method with n arguments; of a constructor with a receiver and n arguments; of an instance method of class ci -/
def ax_callS (k n nx : Nat) : ax_O := fun L st _ => if n ≤ st.length ∧ st.length ≤ n + 8 then some (.inr (.inl (k, (st.take n).reverse, nx, L, st.drop n))) else none
def ax_callI (k n nx : Nat) : ax_O := fun L st _ => match st.drop n with
  | .inr (some o) :: t => (if n ≤ st.length ∧ t.length ≤ 8 then some (.inr (.inl (k, .inr (some o) :: (st.take n).reverse, nx, L, t))) else none)
  | _ => none
def ax_callV (ci k n nx : Nat) : ax_O := fun L st h => match st.drop n with
  | .inr (some o) :: t => (match h.2.2 o with
    | .inr (cj, _) => (if cj = ci ∧ 0 < o ∧ o < h.1 ∧ n ≤ st.length ∧ t.length ≤ 8 then some (.inr (.inl (k, .inr (some o) :: (st.take n).reverse, nx, L, t))) else none)
    | .inl _ => none)
  | _ => none
/-- returns: 0 an int, 1 a boolean, 2 a char, 3 a reference -/
def ax_ret (ty : Nat) : ax_O := fun _ st _ => match st with
  | [v] => (if ax_fit ty v = true then some (.inr (.inr (some v))) else none)
  | _ => none
def ax_retv : ax_O := fun _ st _ => match st with
  | [] => some (.inr (.inr none))
  | _ => none
def ax_no : ax_O := fun _ _ _ => none
/-- locals at a method's entry -/
def ax_ent (n : Nat) (as : List ax_V) : ax_L := as.map some ++ List.replicate (n - as.length) none
/-- running: fuel, depth, method, place -/
def ax_run (P : Nat → Nat → ax_O) (E : Nat → Nat) : Nat → Nat → Nat → Nat → ax_L → List ax_V → ax_H → Option (Option ax_V × ax_H)
  | 0, _, _, _, _, _, _ => none
  | n + 1, d, j, i, L, st, h => match P j i L st h with
    | none => none
    | some (.inl (i', L', st', h')) => ax_run P E n d j i' L' st' h'
    | some (.inr (.inl (k, as, i', L', st'))) => (match d with
      | 0 => none
      | d' + 1 => (match ax_run P E n d' k 0 (ax_ent (E k) as) [] h with
        | none => none
        | some (r, h') => ax_run P E n (d' + 1) j i' L' (r.toList ++ st') h'))
    | some (.inr (.inr r)) => some (r, h)
theorem ax_run_mono (P : Nat → Nat → ax_O) (E : Nat → Nat) : ∀ (n d j i : Nat) (L : ax_L) (st : List ax_V) (h : ax_H) (x : Option ax_V × ax_H), ax_run P E n d j i L st h = some x → ax_run P E (n + 1) d j i L st h = some x := by
  intro n
  induction n with
  | zero => intro d j i L st h x hx; simp [ax_run] at hx
  | succ n ih =>
    intro d j i L st h x hx
    rw [ax_run] at hx ⊢
    revert hx
    cases P j i L st h with
    | none => exact fun h => h
    | some o =>
      rcases o with ⟨i', L', st', h'⟩ | ⟨k, as, i', L', st'⟩ | r
      · exact fun hx => ih _ _ _ _ _ _ _ hx
      · cases d with
        | zero => exact fun h => h
        | succ d' =>
          intro hx
          dsimp only at hx ⊢
          cases hc : ax_run P E n d' k 0 (ax_ent (E k) as) [] h with
          | none => rw [hc] at hx; cases hx
          | some y =>
            rw [hc] at hx
            rw [ih _ _ _ _ _ _ _ hc]
            exact ih _ _ _ _ _ _ _ hx
      · exact fun h => h
theorem ax_run_le (P : Nat → Nat → ax_O) (E : Nat → Nat) {n n' d j i : Nat} {L : ax_L} {st : List ax_V} {h : ax_H} {x : Option ax_V × ax_H} (hn : n ≤ n') (hx : ax_run P E n d j i L st h = some x) : ax_run P E n' d j i L st h = some x := by
  induction hn with
  | refl => exact hx
  | step _ ih => exact ax_run_mono P E _ _ _ _ _ _ _ _ ih
theorem ax_run_deep (P : Nat → Nat → ax_O) (E : Nat → Nat) : ∀ (n d j i : Nat) (L : ax_L) (st : List ax_V) (h : ax_H) (x : Option ax_V × ax_H), ax_run P E n d j i L st h = some x → ax_run P E n (d + 1) j i L st h = some x := by
  intro n
  induction n with
  | zero => intro d j i L st h x hx; simp [ax_run] at hx
  | succ n ih =>
    intro d j i L st h x hx
    rw [ax_run] at hx ⊢
    revert hx
    cases P j i L st h with
    | none => exact fun h => h
    | some o =>
      rcases o with ⟨i', L', st', h'⟩ | ⟨k, as, i', L', st'⟩ | r
      · exact fun hx => ih _ _ _ _ _ _ _ hx
      · cases d with
        | zero => intro hx; cases hx
        | succ d' =>
          intro hx
          dsimp only at hx ⊢
          cases hc : ax_run P E n d' k 0 (ax_ent (E k) as) [] h with
          | none => rw [hc] at hx; cases hx
          | some y =>
            rw [hc] at hx
            rw [ih _ _ _ _ _ _ _ hc]
            exact ih _ _ _ _ _ _ _ hx
      · exact fun h => h
/-- some number of steps is enough -/
def ax_Ev (P : Nat → Nat → ax_O) (E : Nat → Nat) (d j i : Nat) (L : ax_L) (st : List ax_V) (h : ax_H) (r : Option ax_V) (h' : ax_H) : Prop := ∃ n, ax_run P E n d j i L st h = some (r, h')
section AXE
variable {P : Nat → Nat → ax_O} {E : Nat → Nat} {d j i : Nat} {L : ax_L} {st : List ax_V} {h : ax_H} {r : Option ax_V} {h' : ax_H}
theorem ax_st {i1 : Nat} {L1 : ax_L} {st1 : List ax_V} {h1 : ax_H} (hs : P j i L st h = some (.inl (i1, L1, st1, h1))) (k : ax_Ev P E d j i1 L1 st1 h1 r h') : ax_Ev P E d j i L st h r h' := by
  obtain ⟨n, hn⟩ := k
  refine ⟨n + 1, ?_⟩
  rw [ax_run, hs]
  exact hn
theorem ax_cl {f : Nat} {as : List ax_V} {i1 : Nat} {L1 : ax_L} {st1 : List ax_V} (hs : P j i L st h = some (.inr (.inl (f, as, i1, L1, st1)))) {r1 : Option ax_V} {h1 : ax_H} (kc : ax_Ev P E d f 0 (ax_ent (E f) as) [] h r1 h1) (k : ax_Ev P E (d + 1) j i1 L1 (r1.toList ++ st1) h1 r h') : ax_Ev P E (d + 1) j i L st h r h' := by
  obtain ⟨n, hn⟩ := k
  obtain ⟨n2, hn2⟩ := kc
  refine ⟨max n n2 + 1, ?_⟩
  rw [ax_run, hs]
  dsimp only
  rw [ax_run_le P E (Nat.le_max_right n n2) hn2]
  exact ax_run_le P E (Nat.le_max_left n n2) hn
theorem ax_rt (hs : P j i L st h = some (.inr (.inr r))) : ax_Ev P E d j i L st h r h := ⟨1, by rw [ax_run, hs]⟩
theorem ax_dp (k : ax_Ev P E d j i L st h r h') : ax_Ev P E (d + 1) j i L st h r h' := by
  obtain ⟨n, hn⟩ := k
  exact ⟨n, ax_run_deep P E _ _ _ _ _ _ _ _ hn⟩
theorem ax_dle {d2 : Nat} (hd : d ≤ d2) (k : ax_Ev P E d j i L st h r h') : ax_Ev P E d2 j i L st h r h' := by
  induction hd with
  | refl => exact k
  | step _ ih => exact ax_dp ih
/-- a branch -/
theorem ax_br {c : Bool} {a b : Nat} (ht : c = true → ax_Ev P E d j a L st h r h') (hf : c = false → ax_Ev P E d j b L st h r h') : ax_Ev P E d j (bif c then a else b) L st h r h' := by
  cases c with
  | true => exact ht rfl
  | false => exact hf rfl
end AXE
