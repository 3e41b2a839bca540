/-! The reference's cells: its object at 59, its arrays at 60 .. 72. -/
def mo (h : ax_H) (n pcs : Int32) (th : Bool) (ms : Int32) (ru : Bool) (mv : Int32) : Prop := ob h 59 7 [.inl n, .inr (some 60), .inl pcs, .inr (some 61), .inr (some 62), .inr (some 63), .inr (some 64), .inr (some 65), .inr (some 66), .inr (some 67), .inl (bi th), .inl ms, .inr (some 68), .inr (some 69), .inl (bi ru), .inr (some 70), .inr (some 71), .inr (some 72), .inl mv]
def moC (n pcs : Int32) (th : Bool) (ms : Int32) (ru : Bool) (mv : Int32) : ax_C := .inr (7, [.inl n, .inr (some 60), .inl pcs, .inr (some 61), .inr (some 62), .inr (some 63), .inr (some 64), .inr (some 65), .inr (some 66), .inr (some 67), .inl (bi th), .inl ms, .inr (some 68), .inr (some 69), .inl (bi ru), .inr (some 70), .inr (some 71), .inr (some 72), .inl mv])
def MA (h : ax_H) (F : Nat → Nat → Int32) : Prop := ar h 60 1 60 (F 60) ∧ ar h 61 0 60 (F 61) ∧ ar h 62 0 60 (F 62) ∧ ar h 63 0 60 (F 63) ∧ ar h 64 0 60 (F 64) ∧ ar h 65 0 60 (F 65) ∧ ar h 66 1 14400 (F 66) ∧ ar h 67 0 240 (F 67) ∧ ar h 68 1 240 (F 68) ∧ ar h 69 0 4 (F 69) ∧ ar h 70 0 4 (F 70) ∧ ar h 71 0 48 (F 71) ∧ ar h 72 0 16 (F 72)
theorem MA.a60 {h : ax_H} {F : Nat → Nat → Int32} (m : MA h F) : ar h 60 1 60 (F 60) := m.1
theorem MA.a61 {h : ax_H} {F : Nat → Nat → Int32} (m : MA h F) : ar h 61 0 60 (F 61) := m.2.1
theorem MA.a62 {h : ax_H} {F : Nat → Nat → Int32} (m : MA h F) : ar h 62 0 60 (F 62) := m.2.2.1
theorem MA.a63 {h : ax_H} {F : Nat → Nat → Int32} (m : MA h F) : ar h 63 0 60 (F 63) := m.2.2.2.1
theorem MA.a64 {h : ax_H} {F : Nat → Nat → Int32} (m : MA h F) : ar h 64 0 60 (F 64) := m.2.2.2.2.1
theorem MA.a65 {h : ax_H} {F : Nat → Nat → Int32} (m : MA h F) : ar h 65 0 60 (F 65) := m.2.2.2.2.2.1
theorem MA.a66 {h : ax_H} {F : Nat → Nat → Int32} (m : MA h F) : ar h 66 1 14400 (F 66) := m.2.2.2.2.2.2.1
theorem MA.a67 {h : ax_H} {F : Nat → Nat → Int32} (m : MA h F) : ar h 67 0 240 (F 67) := m.2.2.2.2.2.2.2.1
theorem MA.a68 {h : ax_H} {F : Nat → Nat → Int32} (m : MA h F) : ar h 68 1 240 (F 68) := m.2.2.2.2.2.2.2.2.1
theorem MA.a69 {h : ax_H} {F : Nat → Nat → Int32} (m : MA h F) : ar h 69 0 4 (F 69) := m.2.2.2.2.2.2.2.2.2.1
theorem MA.a70 {h : ax_H} {F : Nat → Nat → Int32} (m : MA h F) : ar h 70 0 4 (F 70) := m.2.2.2.2.2.2.2.2.2.2.1
theorem MA.a71 {h : ax_H} {F : Nat → Nat → Int32} (m : MA h F) : ar h 71 0 48 (F 71) := m.2.2.2.2.2.2.2.2.2.2.2.1
theorem MA.a72 {h : ax_H} {F : Nat → Nat → Int32} (m : MA h F) : ar h 72 0 16 (F 72) := m.2.2.2.2.2.2.2.2.2.2.2.2
theorem MA.s60 {h : ax_H} {F : Nat → Nat → Int32} (m : MA h F) (f : Nat → Int32) : MA (ax_set h 60 (.inl (1, 60, .inl f))) (va_up F 60 f) := ⟨by have := m.a60.st f; rw [va_up_self]; exact this, by rw [va_up_ne _ _ (by decide)]; exact m.a61.ne _ (by decide), by rw [va_up_ne _ _ (by decide)]; exact m.a62.ne _ (by decide), by rw [va_up_ne _ _ (by decide)]; exact m.a63.ne _ (by decide), by rw [va_up_ne _ _ (by decide)]; exact m.a64.ne _ (by decide), by rw [va_up_ne _ _ (by decide)]; exact m.a65.ne _ (by decide), by rw [va_up_ne _ _ (by decide)]; exact m.a66.ne _ (by decide), by rw [va_up_ne _ _ (by decide)]; exact m.a67.ne _ (by decide), by rw [va_up_ne _ _ (by decide)]; exact m.a68.ne _ (by decide), by rw [va_up_ne _ _ (by decide)]; exact m.a69.ne _ (by decide), by rw [va_up_ne _ _ (by decide)]; exact m.a70.ne _ (by decide), by rw [va_up_ne _ _ (by decide)]; exact m.a71.ne _ (by decide), by rw [va_up_ne _ _ (by decide)]; exact m.a72.ne _ (by decide)⟩
theorem MA.s61 {h : ax_H} {F : Nat → Nat → Int32} (m : MA h F) (f : Nat → Int32) : MA (ax_set h 61 (.inl (0, 60, .inl f))) (va_up F 61 f) := ⟨by rw [va_up_ne _ _ (by decide)]; exact m.a60.ne _ (by decide), by have := m.a61.st f; rw [va_up_self]; exact this, by rw [va_up_ne _ _ (by decide)]; exact m.a62.ne _ (by decide), by rw [va_up_ne _ _ (by decide)]; exact m.a63.ne _ (by decide), by rw [va_up_ne _ _ (by decide)]; exact m.a64.ne _ (by decide), by rw [va_up_ne _ _ (by decide)]; exact m.a65.ne _ (by decide), by rw [va_up_ne _ _ (by decide)]; exact m.a66.ne _ (by decide), by rw [va_up_ne _ _ (by decide)]; exact m.a67.ne _ (by decide), by rw [va_up_ne _ _ (by decide)]; exact m.a68.ne _ (by decide), by rw [va_up_ne _ _ (by decide)]; exact m.a69.ne _ (by decide), by rw [va_up_ne _ _ (by decide)]; exact m.a70.ne _ (by decide), by rw [va_up_ne _ _ (by decide)]; exact m.a71.ne _ (by decide), by rw [va_up_ne _ _ (by decide)]; exact m.a72.ne _ (by decide)⟩
theorem MA.s62 {h : ax_H} {F : Nat → Nat → Int32} (m : MA h F) (f : Nat → Int32) : MA (ax_set h 62 (.inl (0, 60, .inl f))) (va_up F 62 f) := ⟨by rw [va_up_ne _ _ (by decide)]; exact m.a60.ne _ (by decide), by rw [va_up_ne _ _ (by decide)]; exact m.a61.ne _ (by decide), by have := m.a62.st f; rw [va_up_self]; exact this, by rw [va_up_ne _ _ (by decide)]; exact m.a63.ne _ (by decide), by rw [va_up_ne _ _ (by decide)]; exact m.a64.ne _ (by decide), by rw [va_up_ne _ _ (by decide)]; exact m.a65.ne _ (by decide), by rw [va_up_ne _ _ (by decide)]; exact m.a66.ne _ (by decide), by rw [va_up_ne _ _ (by decide)]; exact m.a67.ne _ (by decide), by rw [va_up_ne _ _ (by decide)]; exact m.a68.ne _ (by decide), by rw [va_up_ne _ _ (by decide)]; exact m.a69.ne _ (by decide), by rw [va_up_ne _ _ (by decide)]; exact m.a70.ne _ (by decide), by rw [va_up_ne _ _ (by decide)]; exact m.a71.ne _ (by decide), by rw [va_up_ne _ _ (by decide)]; exact m.a72.ne _ (by decide)⟩
theorem MA.s63 {h : ax_H} {F : Nat → Nat → Int32} (m : MA h F) (f : Nat → Int32) : MA (ax_set h 63 (.inl (0, 60, .inl f))) (va_up F 63 f) := ⟨by rw [va_up_ne _ _ (by decide)]; exact m.a60.ne _ (by decide), by rw [va_up_ne _ _ (by decide)]; exact m.a61.ne _ (by decide), by rw [va_up_ne _ _ (by decide)]; exact m.a62.ne _ (by decide), by have := m.a63.st f; rw [va_up_self]; exact this, by rw [va_up_ne _ _ (by decide)]; exact m.a64.ne _ (by decide), by rw [va_up_ne _ _ (by decide)]; exact m.a65.ne _ (by decide), by rw [va_up_ne _ _ (by decide)]; exact m.a66.ne _ (by decide), by rw [va_up_ne _ _ (by decide)]; exact m.a67.ne _ (by decide), by rw [va_up_ne _ _ (by decide)]; exact m.a68.ne _ (by decide), by rw [va_up_ne _ _ (by decide)]; exact m.a69.ne _ (by decide), by rw [va_up_ne _ _ (by decide)]; exact m.a70.ne _ (by decide), by rw [va_up_ne _ _ (by decide)]; exact m.a71.ne _ (by decide), by rw [va_up_ne _ _ (by decide)]; exact m.a72.ne _ (by decide)⟩
theorem MA.s64 {h : ax_H} {F : Nat → Nat → Int32} (m : MA h F) (f : Nat → Int32) : MA (ax_set h 64 (.inl (0, 60, .inl f))) (va_up F 64 f) := ⟨by rw [va_up_ne _ _ (by decide)]; exact m.a60.ne _ (by decide), by rw [va_up_ne _ _ (by decide)]; exact m.a61.ne _ (by decide), by rw [va_up_ne _ _ (by decide)]; exact m.a62.ne _ (by decide), by rw [va_up_ne _ _ (by decide)]; exact m.a63.ne _ (by decide), by have := m.a64.st f; rw [va_up_self]; exact this, by rw [va_up_ne _ _ (by decide)]; exact m.a65.ne _ (by decide), by rw [va_up_ne _ _ (by decide)]; exact m.a66.ne _ (by decide), by rw [va_up_ne _ _ (by decide)]; exact m.a67.ne _ (by decide), by rw [va_up_ne _ _ (by decide)]; exact m.a68.ne _ (by decide), by rw [va_up_ne _ _ (by decide)]; exact m.a69.ne _ (by decide), by rw [va_up_ne _ _ (by decide)]; exact m.a70.ne _ (by decide), by rw [va_up_ne _ _ (by decide)]; exact m.a71.ne _ (by decide), by rw [va_up_ne _ _ (by decide)]; exact m.a72.ne _ (by decide)⟩
theorem MA.s65 {h : ax_H} {F : Nat → Nat → Int32} (m : MA h F) (f : Nat → Int32) : MA (ax_set h 65 (.inl (0, 60, .inl f))) (va_up F 65 f) := ⟨by rw [va_up_ne _ _ (by decide)]; exact m.a60.ne _ (by decide), by rw [va_up_ne _ _ (by decide)]; exact m.a61.ne _ (by decide), by rw [va_up_ne _ _ (by decide)]; exact m.a62.ne _ (by decide), by rw [va_up_ne _ _ (by decide)]; exact m.a63.ne _ (by decide), by rw [va_up_ne _ _ (by decide)]; exact m.a64.ne _ (by decide), by have := m.a65.st f; rw [va_up_self]; exact this, by rw [va_up_ne _ _ (by decide)]; exact m.a66.ne _ (by decide), by rw [va_up_ne _ _ (by decide)]; exact m.a67.ne _ (by decide), by rw [va_up_ne _ _ (by decide)]; exact m.a68.ne _ (by decide), by rw [va_up_ne _ _ (by decide)]; exact m.a69.ne _ (by decide), by rw [va_up_ne _ _ (by decide)]; exact m.a70.ne _ (by decide), by rw [va_up_ne _ _ (by decide)]; exact m.a71.ne _ (by decide), by rw [va_up_ne _ _ (by decide)]; exact m.a72.ne _ (by decide)⟩
theorem MA.s66 {h : ax_H} {F : Nat → Nat → Int32} (m : MA h F) (f : Nat → Int32) : MA (ax_set h 66 (.inl (1, 14400, .inl f))) (va_up F 66 f) := ⟨by rw [va_up_ne _ _ (by decide)]; exact m.a60.ne _ (by decide), by rw [va_up_ne _ _ (by decide)]; exact m.a61.ne _ (by decide), by rw [va_up_ne _ _ (by decide)]; exact m.a62.ne _ (by decide), by rw [va_up_ne _ _ (by decide)]; exact m.a63.ne _ (by decide), by rw [va_up_ne _ _ (by decide)]; exact m.a64.ne _ (by decide), by rw [va_up_ne _ _ (by decide)]; exact m.a65.ne _ (by decide), by have := m.a66.st f; rw [va_up_self]; exact this, by rw [va_up_ne _ _ (by decide)]; exact m.a67.ne _ (by decide), by rw [va_up_ne _ _ (by decide)]; exact m.a68.ne _ (by decide), by rw [va_up_ne _ _ (by decide)]; exact m.a69.ne _ (by decide), by rw [va_up_ne _ _ (by decide)]; exact m.a70.ne _ (by decide), by rw [va_up_ne _ _ (by decide)]; exact m.a71.ne _ (by decide), by rw [va_up_ne _ _ (by decide)]; exact m.a72.ne _ (by decide)⟩
theorem MA.s67 {h : ax_H} {F : Nat → Nat → Int32} (m : MA h F) (f : Nat → Int32) : MA (ax_set h 67 (.inl (0, 240, .inl f))) (va_up F 67 f) := ⟨by rw [va_up_ne _ _ (by decide)]; exact m.a60.ne _ (by decide), by rw [va_up_ne _ _ (by decide)]; exact m.a61.ne _ (by decide), by rw [va_up_ne _ _ (by decide)]; exact m.a62.ne _ (by decide), by rw [va_up_ne _ _ (by decide)]; exact m.a63.ne _ (by decide), by rw [va_up_ne _ _ (by decide)]; exact m.a64.ne _ (by decide), by rw [va_up_ne _ _ (by decide)]; exact m.a65.ne _ (by decide), by rw [va_up_ne _ _ (by decide)]; exact m.a66.ne _ (by decide), by have := m.a67.st f; rw [va_up_self]; exact this, by rw [va_up_ne _ _ (by decide)]; exact m.a68.ne _ (by decide), by rw [va_up_ne _ _ (by decide)]; exact m.a69.ne _ (by decide), by rw [va_up_ne _ _ (by decide)]; exact m.a70.ne _ (by decide), by rw [va_up_ne _ _ (by decide)]; exact m.a71.ne _ (by decide), by rw [va_up_ne _ _ (by decide)]; exact m.a72.ne _ (by decide)⟩
theorem MA.s68 {h : ax_H} {F : Nat → Nat → Int32} (m : MA h F) (f : Nat → Int32) : MA (ax_set h 68 (.inl (1, 240, .inl f))) (va_up F 68 f) := ⟨by rw [va_up_ne _ _ (by decide)]; exact m.a60.ne _ (by decide), by rw [va_up_ne _ _ (by decide)]; exact m.a61.ne _ (by decide), by rw [va_up_ne _ _ (by decide)]; exact m.a62.ne _ (by decide), by rw [va_up_ne _ _ (by decide)]; exact m.a63.ne _ (by decide), by rw [va_up_ne _ _ (by decide)]; exact m.a64.ne _ (by decide), by rw [va_up_ne _ _ (by decide)]; exact m.a65.ne _ (by decide), by rw [va_up_ne _ _ (by decide)]; exact m.a66.ne _ (by decide), by rw [va_up_ne _ _ (by decide)]; exact m.a67.ne _ (by decide), by have := m.a68.st f; rw [va_up_self]; exact this, by rw [va_up_ne _ _ (by decide)]; exact m.a69.ne _ (by decide), by rw [va_up_ne _ _ (by decide)]; exact m.a70.ne _ (by decide), by rw [va_up_ne _ _ (by decide)]; exact m.a71.ne _ (by decide), by rw [va_up_ne _ _ (by decide)]; exact m.a72.ne _ (by decide)⟩
theorem MA.s69 {h : ax_H} {F : Nat → Nat → Int32} (m : MA h F) (f : Nat → Int32) : MA (ax_set h 69 (.inl (0, 4, .inl f))) (va_up F 69 f) := ⟨by rw [va_up_ne _ _ (by decide)]; exact m.a60.ne _ (by decide), by rw [va_up_ne _ _ (by decide)]; exact m.a61.ne _ (by decide), by rw [va_up_ne _ _ (by decide)]; exact m.a62.ne _ (by decide), by rw [va_up_ne _ _ (by decide)]; exact m.a63.ne _ (by decide), by rw [va_up_ne _ _ (by decide)]; exact m.a64.ne _ (by decide), by rw [va_up_ne _ _ (by decide)]; exact m.a65.ne _ (by decide), by rw [va_up_ne _ _ (by decide)]; exact m.a66.ne _ (by decide), by rw [va_up_ne _ _ (by decide)]; exact m.a67.ne _ (by decide), by rw [va_up_ne _ _ (by decide)]; exact m.a68.ne _ (by decide), by have := m.a69.st f; rw [va_up_self]; exact this, by rw [va_up_ne _ _ (by decide)]; exact m.a70.ne _ (by decide), by rw [va_up_ne _ _ (by decide)]; exact m.a71.ne _ (by decide), by rw [va_up_ne _ _ (by decide)]; exact m.a72.ne _ (by decide)⟩
theorem MA.s70 {h : ax_H} {F : Nat → Nat → Int32} (m : MA h F) (f : Nat → Int32) : MA (ax_set h 70 (.inl (0, 4, .inl f))) (va_up F 70 f) := ⟨by rw [va_up_ne _ _ (by decide)]; exact m.a60.ne _ (by decide), by rw [va_up_ne _ _ (by decide)]; exact m.a61.ne _ (by decide), by rw [va_up_ne _ _ (by decide)]; exact m.a62.ne _ (by decide), by rw [va_up_ne _ _ (by decide)]; exact m.a63.ne _ (by decide), by rw [va_up_ne _ _ (by decide)]; exact m.a64.ne _ (by decide), by rw [va_up_ne _ _ (by decide)]; exact m.a65.ne _ (by decide), by rw [va_up_ne _ _ (by decide)]; exact m.a66.ne _ (by decide), by rw [va_up_ne _ _ (by decide)]; exact m.a67.ne _ (by decide), by rw [va_up_ne _ _ (by decide)]; exact m.a68.ne _ (by decide), by rw [va_up_ne _ _ (by decide)]; exact m.a69.ne _ (by decide), by have := m.a70.st f; rw [va_up_self]; exact this, by rw [va_up_ne _ _ (by decide)]; exact m.a71.ne _ (by decide), by rw [va_up_ne _ _ (by decide)]; exact m.a72.ne _ (by decide)⟩
theorem MA.s71 {h : ax_H} {F : Nat → Nat → Int32} (m : MA h F) (f : Nat → Int32) : MA (ax_set h 71 (.inl (0, 48, .inl f))) (va_up F 71 f) := ⟨by rw [va_up_ne _ _ (by decide)]; exact m.a60.ne _ (by decide), by rw [va_up_ne _ _ (by decide)]; exact m.a61.ne _ (by decide), by rw [va_up_ne _ _ (by decide)]; exact m.a62.ne _ (by decide), by rw [va_up_ne _ _ (by decide)]; exact m.a63.ne _ (by decide), by rw [va_up_ne _ _ (by decide)]; exact m.a64.ne _ (by decide), by rw [va_up_ne _ _ (by decide)]; exact m.a65.ne _ (by decide), by rw [va_up_ne _ _ (by decide)]; exact m.a66.ne _ (by decide), by rw [va_up_ne _ _ (by decide)]; exact m.a67.ne _ (by decide), by rw [va_up_ne _ _ (by decide)]; exact m.a68.ne _ (by decide), by rw [va_up_ne _ _ (by decide)]; exact m.a69.ne _ (by decide), by rw [va_up_ne _ _ (by decide)]; exact m.a70.ne _ (by decide), by have := m.a71.st f; rw [va_up_self]; exact this, by rw [va_up_ne _ _ (by decide)]; exact m.a72.ne _ (by decide)⟩
theorem MA.s72 {h : ax_H} {F : Nat → Nat → Int32} (m : MA h F) (f : Nat → Int32) : MA (ax_set h 72 (.inl (0, 16, .inl f))) (va_up F 72 f) := ⟨by rw [va_up_ne _ _ (by decide)]; exact m.a60.ne _ (by decide), by rw [va_up_ne _ _ (by decide)]; exact m.a61.ne _ (by decide), by rw [va_up_ne _ _ (by decide)]; exact m.a62.ne _ (by decide), by rw [va_up_ne _ _ (by decide)]; exact m.a63.ne _ (by decide), by rw [va_up_ne _ _ (by decide)]; exact m.a64.ne _ (by decide), by rw [va_up_ne _ _ (by decide)]; exact m.a65.ne _ (by decide), by rw [va_up_ne _ _ (by decide)]; exact m.a66.ne _ (by decide), by rw [va_up_ne _ _ (by decide)]; exact m.a67.ne _ (by decide), by rw [va_up_ne _ _ (by decide)]; exact m.a68.ne _ (by decide), by rw [va_up_ne _ _ (by decide)]; exact m.a69.ne _ (by decide), by rw [va_up_ne _ _ (by decide)]; exact m.a70.ne _ (by decide), by rw [va_up_ne _ _ (by decide)]; exact m.a71.ne _ (by decide), by have := m.a72.st f; rw [va_up_self]; exact this⟩
theorem MA.o {h : ax_H} {F : Nat → Nat → Int32} (m : MA h F) (c : ax_C) : MA (ax_set h 59 c) F := ⟨m.a60.ne _ (by decide), m.a61.ne _ (by decide), m.a62.ne _ (by decide), m.a63.ne _ (by decide), m.a64.ne _ (by decide), m.a65.ne _ (by decide), m.a66.ne _ (by decide), m.a67.ne _ (by decide), m.a68.ne _ (by decide), m.a69.ne _ (by decide), m.a70.ne _ (by decide), m.a71.ne _ (by decide), m.a72.ne _ (by decide)⟩
theorem MA.fr {h h1 : ax_H} {F : Nat → Nat → Int32} {A : Nat → Prop} (m : MA h F) (f : fr h h1 A) (hA : ∀ q, 60 ≤ q → ¬ A q) : MA h1 F := ⟨m.a60.fr f (hA _ (by decide)), m.a61.fr f (hA _ (by decide)), m.a62.fr f (hA _ (by decide)), m.a63.fr f (hA _ (by decide)), m.a64.fr f (hA _ (by decide)), m.a65.fr f (hA _ (by decide)), m.a66.fr f (hA _ (by decide)), m.a67.fr f (hA _ (by decide)), m.a68.fr f (hA _ (by decide)), m.a69.fr f (hA _ (by decide)), m.a70.fr f (hA _ (by decide)), m.a71.fr f (hA _ (by decide)), m.a72.fr f (hA _ (by decide))⟩
theorem mo.o {h : ax_H} {n pcs ms mv : Int32} {th ru : Bool} (m : mo h n pcs th ms ru mv) (n' pcs' : Int32) (th' : Bool) (ms' : Int32) (ru' : Bool) (mv' : Int32) : mo (ax_set h 59 (moC n' pcs' th' ms' ru' mv')) n' pcs' th' ms' ru' mv' := ob.st m _ _
theorem mo.s {h : ax_H} {n pcs ms mv : Int32} {th ru : Bool} (m : mo h n pcs th ms ru mv) (q : Nat) (hq : 59 ≠ q) (c : ax_C) : mo (ax_set h q c) n pcs th ms ru mv := ob.ne m c hq
def MT (F : Nat → Nat → Int32) (tp : List Nat) : Prop := tp.length ≤ 60 ∧ (∀ x ∈ tp, x < 65536) ∧ ∀ k, k < tp.length → F 60 k = nI (tp.getD k 0)
/-- a part as the reference keeps it -/
def MP1 (F : Nat → Nat → Int32) (r : Nat) (Q : Option Tr) : Prop := match Q with
  | some l => F 69 r = nI (rn l false).length ∧ (rn l false).length ≤ 60 ∧ (∀ x ∈ rn l false, x < 65536) ∧ ∀ i, i < (rn l false).length → F 68 (60 * r + i) = nI ((rn l false).getD i 0)
  | none => F 69 r = -1
def MW1 (F : Nat → Nat → Int32) (k : Nat) (row : List Int32) : Prop := F 72 k = nI row.length ∧ row.length ≤ 3 ∧ ∀ i, i < row.length → F 71 (3 * k + i) = row.getD i 0
def RM (h : ax_H) (tp : List Nat) (mc : Int32) (P : Nat → Option Tr) (run : Bool) (pc : Nat → Nat) (rws : Nat → List Int32) (mv : Int32) : Prop := ∃ (pcs ms : Int32) (th : Bool) (F : Nat → Nat → Int32), mo h (nI tp.length) pcs th ms run mv ∧ MA h F ∧ MT F tp ∧ (mc = if th = true then ms else -1) ∧ (∀ r, r < 4 → if th = true then MP1 F r (P r) else P r = none) ∧ (∀ r, r < 4 → F 70 r = nI (pc r)) ∧ ∀ k, k < 16 → MW1 F k (rws k)
theorem m_isRole {d x : Nat} {h : ax_H} (hx : x < 65536) : mt d 78 [.inl (nI x)] h (some (.inl (bi (isR x)))) h := by
  (repeat (first | refine ax_st rfl ?_ | (apply ev_get rfl; assumption; rfl))); try dsimp only
  refine ev_if (fun c1 => ?_) (fun c1 => ?_)
  · have c1 := (nI_ltI (b := 65) (by omega) (by decide)).mp c1
    rw [show isR x = false from decide_eq_false (by omega)]
    (repeat (first | refine ax_st rfl ?_ | (apply ev_get rfl; assumption; rfl))); try dsimp only
    exact ax_rt rfl
  · have c1 : ¬ x < 65 := fun q => c1 ((nI_ltI (b := 65) (by omega) (by decide)).mpr q)
    (repeat (first | refine ax_st rfl ?_ | (apply ev_get rfl; assumption; rfl))); try dsimp only
    refine ev_if (fun c2 => ?_) (fun c2 => ?_)
    · have c2 := (nI_ltI (a := 68) (by decide) (by omega)).mp c2
      rw [show isR x = false from decide_eq_false (by omega)]
      (repeat (first | refine ax_st rfl ?_ | (apply ev_get rfl; assumption; rfl))); try dsimp only
      exact ax_rt rfl
    · have c2 : ¬ 68 < x := fun q => c2 ((nI_ltI (a := 68) (by decide) (by omega)).mpr q)
      rw [show isR x = true from decide_eq_true (by omega)]
      (repeat (first | refine ax_st rfl ?_ | (apply ev_get rfl; assumption; rfl))); try dsimp only
      exact ax_rt rfl
theorem m_isLabel {d x : Nat} {h : ax_H} (hx : x < 65536) : mt d 79 [.inl (nI x)] h (some (.inl (bi (isL x)))) h := by
  (repeat (first | refine ax_st rfl ?_ | (apply ev_get rfl; assumption; rfl))); try dsimp only
  refine ev_if (fun c1 => ?_) (fun c1 => ?_)
  · have c1 := (nI_ltI (b := 112) (by omega) (by decide)).mp c1
    rw [show isL x = false from decide_eq_false (by omega)]
    (repeat (first | refine ax_st rfl ?_ | (apply ev_get rfl; assumption; rfl))); try dsimp only
    exact ax_rt rfl
  · have c1 : ¬ x < 112 := fun q => c1 ((nI_ltI (b := 112) (by omega) (by decide)).mpr q)
    (repeat (first | refine ax_st rfl ?_ | (apply ev_get rfl; assumption; rfl))); try dsimp only
    refine ev_if (fun c2 => ?_) (fun c2 => ?_)
    · have c2 := (nI_ltI (a := 117) (by decide) (by omega)).mp c2
      rw [show isL x = false from decide_eq_false (by omega)]
      (repeat (first | refine ax_st rfl ?_ | (apply ev_get rfl; assumption; rfl))); try dsimp only
      exact ax_rt rfl
    · have c2 : ¬ 117 < x := fun q => c2 ((nI_ltI (a := 117) (by decide) (by omega)).mpr q)
      rw [show isL x = true from decide_eq_true (by omega)]
      (repeat (first | refine ax_st rfl ?_ | (apply ev_get rfl; assumption; rfl))); try dsimp only
      exact ax_rt rfl
theorem m_isVariable {d x : Nat} {h : ax_H} (hx : x < 65536) : mt d 77 [.inl (nI x)] h (some (.inl (bi (isV x)))) h := by
  (repeat (first | refine ax_st rfl ?_ | (apply ev_get rfl; assumption; rfl))); try dsimp only
  refine ev_if (fun c1 => ?_) (fun c1 => ?_)
  · have c1 := (nI_ltI (b := 88) (by omega) (by decide)).mp c1
    rw [show isV x = false from decide_eq_false (by omega)]
    (repeat (first | refine ax_st rfl ?_ | (apply ev_get rfl; assumption; rfl))); try dsimp only
    exact ax_rt rfl
  · have c1 : ¬ x < 88 := fun q => c1 ((nI_ltI (b := 88) (by omega) (by decide)).mpr q)
    (repeat (first | refine ax_st rfl ?_ | (apply ev_get rfl; assumption; rfl))); try dsimp only
    refine ev_if (fun c2 => ?_) (fun c2 => ?_)
    · have c2 := (nI_ltI (a := 90) (by decide) (by omega)).mp c2
      rw [show isV x = false from decide_eq_false (by omega)]
      (repeat (first | refine ax_st rfl ?_ | (apply ev_get rfl; assumption; rfl))); try dsimp only
      exact ax_rt rfl
    · have c2 : ¬ 90 < x := fun q => c2 ((nI_ltI (a := 90) (by decide) (by omega)).mpr q)
      rw [show isV x = true from decide_eq_true (by omega)]
      (repeat (first | refine ax_st rfl ?_ | (apply ev_get rfl; assumption; rfl))); try dsimp only
      exact ax_rt rfl
theorem m_isNumber {d : Nat} {h : ax_H} (x : Int32) : mt d 95 [.inl x] h (some (.inl (bi (isN x)))) h := by
  (repeat (first | refine ax_st rfl ?_ | (apply ev_get rfl; assumption; rfl))); try dsimp only
  refine ev_if (fun c1 => ?_) (fun c1 => ?_)
  · rw [show isN x = false from decide_eq_false (fun q => q.1 c1)]
    (repeat (first | refine ax_st rfl ?_ | (apply ev_get rfl; assumption; rfl))); try dsimp only
    exact ax_rt rfl
  · obtain ⟨n, hn, rfl⟩ := nI_of c1
    (repeat (first | refine ax_st rfl ?_ | (apply ev_get rfl; assumption; rfl))); try dsimp only
    refine ev_if (fun c2 => ?_) (fun c2 => ?_)
    · have c2 := (nI_ltI (a := 3) (by decide) hn).mp c2
      rw [show isN (nI n) = false from decide_eq_false (fun q => q.2 ((nI_leI (a := 4) (by decide) hn).mpr (by omega)))]
      (repeat (first | refine ax_st rfl ?_ | (apply ev_get rfl; assumption; rfl))); try dsimp only
      exact ax_rt rfl
    · have c2 : ¬ 3 < n := fun q => c2 ((nI_ltI (a := 3) (by decide) hn).mpr q)
      rw [isN_iff.mpr ⟨n, by omega, rfl⟩]
      (repeat (first | refine ax_st rfl ?_ | (apply ev_get rfl; assumption; rfl))); try dsimp only
      exact ax_rt rfl
