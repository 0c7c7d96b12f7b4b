/-! small numbers, sets as bits -/
def b2i (b : Bool) : Int32 := match b with
  | true => 1
  | false => 0
theorem b2i_01 (b : Bool) : b2i b = 0 ∨ b2i b = 1 := by cases b; exact Or.inl rfl; exact Or.inr rfl
theorem b2i_eq0 {b : Bool} : b2i b = 0 ↔ b = false := by cases b <;> decide
theorem b2i_ne0 {b : Bool} : ¬ b2i b = 0 ↔ b = true := by cases b <;> decide
/-- some place below n -/
def bx (P : Nat → Bool) : Nat → Bool
  | 0 => false
  | n + 1 => bx P n || P n
theorem bx_iff {P : Nat → Bool} : ∀ {n : Nat}, bx P n = true ↔ ∃ k, k < n ∧ P k = true
  | 0 => by simp [bx]
  | n + 1 => by
    unfold bx
    rw [Bool.or_eq_true, bx_iff]
    constructor
    · rintro (⟨k, h1, h2⟩ | h)
      · exact ⟨k, by omega, h2⟩
      · exact ⟨n, by omega, h⟩
    · rintro ⟨k, h1, h2⟩
      by_cases e : k = n
      · subst e; exact Or.inr h2
      · exact Or.inl ⟨k, by omega, h2⟩
theorem bx_false {P : Nat → Bool} {n : Nat} : bx P n = false ↔ ∀ k, k < n → P k = false := by
  rw [← Bool.not_eq_true, bx_iff]
  constructor
  · intro h k hk
    cases hp : P k with
    | false => rfl
    | true => exact absurd ⟨k, hk, hp⟩ h
  · rintro h ⟨k, h1, h2⟩
    rw [h k h1] at h2
    cases h2
theorem bx_congr {P Q : Nat → Bool} {n : Nat} (h : ∀ k, k < n → P k = Q k) : bx P n = bx Q n := by
  induction n with
  | zero => rfl
  | succ n ih =>
    unfold bx
    rw [ih (fun k hk => h k (by omega)), h n (by omega)]
/-- going on over 0 .. n less 1 -/
def fo {β : Type} (f : Nat → β → β) (b : β) : Nat → β
  | 0 => b
  | n + 1 => f n (fo f b n)
theorem fo_congr {β : Type} {f g : Nat → β → β} {b : β} {n : Nat} (h : ∀ k, k < n → ∀ x, f k x = g k x) : fo f b n = fo g b n := by
  induction n with
  | zero => rfl
  | succ n ih =>
    unfold fo
    rw [ih (fun k hk => h k (by omega)), h n (by omega)]
/-- how many places below n -/
def cn (P : Nat → Bool) : Nat → Nat
  | 0 => 0
  | n + 1 => cn P n + (if P n = true then 1 else 0)
theorem cn_le (P : Nat → Bool) : ∀ n, cn P n ≤ n
  | 0 => Nat.le_refl _
  | n + 1 => by
    have := cn_le P n
    unfold cn
    split <;> omega
theorem cn_congr {P Q : Nat → Bool} {n : Nat} (h : ∀ k, k < n → P k = Q k) : cn P n = cn Q n := by
  induction n with
  | zero => rfl
  | succ n ih =>
    unfold cn
    rw [ih (fun k hk => h k (by omega)), h n (by omega)]
theorem nI_and (x y : Nat) : nI x &&& nI y = nI (x &&& y) := by
  apply Int32.toBitVec_inj.mp
  simp [nI, Int32.toBitVec_and, Int32.toBitVec_ofNat', BitVec.ofNat_and]
theorem nI_or (x y : Nat) : nI x ||| nI y = nI (x ||| y) := by
  apply Int32.toBitVec_inj.mp
  simp [nI, Int32.toBitVec_or, Int32.toBitVec_ofNat', BitVec.ofNat_or]
theorem nI_xor (x y : Nat) : nI x ^^^ nI y = nI (x ^^^ y) := by
  apply Int32.toBitVec_inj.mp
  simp [nI, Int32.toBitVec_xor, Int32.toBitVec_ofNat', BitVec.ofNat_xor]
theorem nI_m1 : (-1 : Int32) = nI 4294967295 := by decide +kernel
/-- a part of -/
def sb (g s : Nat) : Bool := Nat.beq (g &&& s) g
theorem sb_tab : ∀ g, g < 128 → ∀ s, s < 128 → ((nI g &&& (nI s ^^^ (-1)) = 0) ↔ sb g s = true) := by decide +kernel
def pc7 (x : Nat) : Nat := x % 2 + x / 2 % 2 + x / 4 % 2 + x / 8 % 2 + x / 16 % 2 + x / 32 % 2 + x / 64 % 2
theorem all_tab : ∀ n, n < 8 → (1 : Int32) <<< (nI n &&& 31) - 1 = nI (2 ^ n - 1) := by decide +kernel
theorem shl_tab : ∀ n, n < 16 → (1 : Int32) <<< (nI n &&& 31) = nI (2 ^ n) := by decide +kernel
theorem pow_le7 {n : Nat} (h : n < 8) : 1 ≤ 2 ^ n ∧ 2 ^ n ≤ 128 := (by decide : ∀ n, n < 8 → 1 ≤ 2 ^ n ∧ 2 ^ n ≤ 128) n h
