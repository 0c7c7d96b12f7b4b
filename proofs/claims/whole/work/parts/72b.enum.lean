/-! masks and their members one by one -/
theorem tb_msk (p : Nat → Bool) : ∀ N u, u < N → tb (msk p N) u = p u
  | 0, u, hu => by omega
  | N + 1, u, hu => by
    by_cases e : u = N
    · subst e
      have h := msk_lt p u
      unfold tb msk
      cases hp : p u with
      | false => simp [Nat.div_eq_of_lt h]
      | true =>
        rw [if_pos rfl, Nat.add_div_right _ (Nat.two_pow_pos u), Nat.div_eq_of_lt h]
        rfl
    · have ih := tb_msk p N u (by omega)
      rw [← ih]
      unfold tb
      rw [show msk p (N + 1) = msk p N + (if p N = true then 2 ^ N else 0) from rfl]
      cases hp : p N with
      | false => simp
      | true =>
        have e2 : 2 ^ N = 2 ^ u * (2 * 2 ^ (N - u - 1)) := by
          rw [← Nat.pow_succ', ← Nat.pow_add]
          congr 1
          omega
        rw [if_pos rfl, e2, Nat.add_mul_div_left _ _ (Nat.two_pow_pos u), Nat.add_mul_mod_self_left]
theorem tb_out {s n u : Nat} (hs : s < 2 ^ n) (hu : n ≤ u) : tb s u = false := by
  unfold tb
  rw [Nat.div_eq_of_lt (Nat.lt_of_lt_of_le hs (Nat.pow_le_pow_right (by omega) hu))]
  rfl
theorem zb_tb (g e : Nat) : zb g e = if tb g e = true then 1 else 0 := by
  unfold zb tb
  have := Nat.mod_two_eq_zero_or_one (g / 2 ^ e)
  rcases this with h | h <;> rw [h] <;> rfl
theorem cn_out {p : Nat → Bool} {a : Nat} : ∀ {b : Nat}, a ≤ b → (∀ u, a ≤ u → u < b → p u = false) → cn p b = cn p a := by
  intro b
  induction b with
  | zero => intro h _; rw [show a = 0 by omega]
  | succ b ih =>
    intro h hp
    by_cases e : a = b + 1
    · rw [e]
    · rw [cn_no (hp b (by omega) (by omega))]
      exact ih (by omega) (fun u h1 h2 => hp u h1 (by omega))
theorem zs_cut {F : Nat → Int} {a : Nat} : ∀ {b : Nat}, a ≤ b → (∀ u, a ≤ u → u < b → F u = 0) → zs F b = zs F a := by
  intro b
  induction b with
  | zero => intro h _; rw [show a = 0 by omega]
  | succ b ih =>
    intro h hp
    by_cases e : a = b + 1
    · rw [e]
    · rw [zs_s, hp b (by omega) (by omega), Int.add_zero]
      exact ih (by omega) (fun u h1 h2 => hp u h1 (by omega))
theorem zs_app (F : Nat → Int) (a : Nat) : ∀ b, zs F (a + b) = zs F a + zs (fun i => F (a + i)) b
  | 0 => (Int.add_zero _).symm
  | b + 1 => by
    rw [show a + (b + 1) = a + b + 1 by omega, zs_s, zs_app F a b, zs_s]
    omega
theorem cn_uniq {p : Nat → Bool} {u v : Nat} (hu : p u = true) (hv : p v = true) (h : cn p u = cn p v) : u = v := by
  have key : ∀ {a b : Nat}, p a = true → a < b → cn p a < cn p b := fun {a b} ha hab => by
    have := cn_mono (P := p) (a := a + 1) (b := b) hab
    rw [cn_yes ha] at this
    omega
  rcases Nat.lt_trichotomy u v with q | q | q
  · have := key hu q; omega
  · exact q
  · have := key hv q; omega
/-- the members of p below N, by their numbers -/
def Enm (p : Nat → Bool) (N : Nat) (e : Nat → Nat) : Prop := ∀ k, k < cn p N → e k < N ∧ p (e k) = true ∧ cn p (e k) = k
theorem Enm.hit {p : Nat → Bool} {N : Nat} {e : Nat → Nat} (h : Enm p N e) {u : Nat} (hu : u < N) (hp : p u = true) : cn p u < cn p N ∧ e (cn p u) = u := by
  have h1 : cn p u < cn p N := by
    have := cn_mono (P := p) (a := u + 1) (b := N) hu
    rw [cn_yes hp] at this
    omega
  obtain ⟨a, b, c⟩ := h _ h1
  exact ⟨h1, cn_uniq b hp c⟩
theorem zs_enum {p : Nat → Bool} {F : Nat → Int} {e : Nat → Nat} : ∀ {N : Nat}, Enm p N e → zs (fun u => if p u = true then F u else 0) N = zs (fun k => F (e k)) (cn p N) := by
  intro N
  induction N with
  | zero => intro _; rfl
  | succ N ih =>
    intro h
    cases hp : p N with
    | false =>
      rw [cn_no hp, zs_s, hp, if_neg (by decide), Int.add_zero]
      refine ih (fun k hk => ?_)
      obtain ⟨a, b, c⟩ := h k (by rw [cn_no hp]; exact hk)
      refine ⟨?_, b, c⟩
      by_cases q : e k = N
      · rw [q, hp] at b; cases b
      · omega
    | true =>
      rw [cn_yes hp, zs_s, zs_s, hp, if_pos rfl, (h.hit (Nat.lt_succ_self N) hp).2]
      congr 1
      refine ih (fun k hk => ?_)
      obtain ⟨a, b, c⟩ := h k (by rw [cn_yes hp]; omega)
      refine ⟨?_, b, c⟩
      by_cases q : e k = N
      · rw [q] at c; omega
      · omega
theorem cn_inj {B : Nat → Nat} {N : Nat} : ∀ {n : Nat}, (∀ r, r < n → B r < N) → (∀ r r', r < n → r' < n → B r = B r' → r = r') → cn (fun u => bx (fun r => decide (B r = u)) n) N = n
  | 0, _, _ => by
    have := cn_img B N 0
    omega
  | n + 1, h1, h2 => by
    have ih := cn_inj (n := n) (fun r hr => h1 r (by omega)) (fun r r' a b => h2 r r' (by omega) (by omega))
    have c := cn_or (P := fun u => bx (fun r => decide (B r = u)) n) (p := B n) N (h1 n (by omega))
    have e : bx (fun r => decide (B r = B n)) n = false := bx_false.mpr (fun k hk => decide_eq_false (fun q => by have := h2 k n (by omega) (by omega) q; omega))
    rw [ih, if_neg (by rw [e]; decide)] at c
    exact c
/-- a part of a mask -/
theorem sbt_iff {a b : Nat} : a &&& b = a ↔ ∀ u, tb a u = true → tb b u = true := by
  constructor
  · intro h u hu
    rw [tb_bit] at hu ⊢
    rw [← h, Nat.testBit_and, Bool.and_eq_true] at hu
    exact hu.2
  · intro h
    apply Nat.eq_of_testBit_eq
    intro i
    rw [Nat.testBit_and]
    have := h i
    rw [tb_bit, tb_bit] at this
    cases ha : a.testBit i with
    | false => rfl
    | true => rw [this ha]; rfl
theorem sb12 {a b : Nat} (ha : a < 4096) (hb : b < 4096) : (nI a &&& (nI b ^^^ (-1)) = 0) ↔ a &&& b = a := by
  rw [nI_m1, nI_xor, nI_and]
  have hle : a &&& (b ^^^ 4294967295) ≤ a := Nat.and_le_left
  have h0 : nI (a &&& (b ^^^ 4294967295)) = 0 ↔ a &&& (b ^^^ 4294967295) = 0 := by
    rw [show (0 : Int32) = nI 0 from rfl, nI_eq (by omega) (by omega)]
  rw [h0]
  have bit : ∀ i, (4294967295 : Nat).testBit i = decide (i < 32) := fun i => by
    rw [show (4294967295 : Nat) = 2 ^ 32 - 1 from rfl, Nat.testBit_two_pow_sub_one]
  constructor
  · intro h
    apply Nat.eq_of_testBit_eq
    intro i
    have := congrArg (fun x => x.testBit i) h
    simp only [Nat.testBit_and, Nat.testBit_xor, bit, Nat.zero_testBit] at this
    rw [Nat.testBit_and]
    cases hA : a.testBit i with
    | false => rfl
    | true =>
      rw [hA] at this
      by_cases hi : i < 32
      · rw [decide_eq_true hi] at this
        cases hB : b.testBit i with
        | false => rw [hB] at this; cases this
        | true => rfl
      · have : a.testBit i = false := Nat.testBit_lt_two_pow (Nat.lt_of_lt_of_le ha (Nat.le_trans (show 4096 ≤ 2 ^ 32 by decide) (Nat.pow_le_pow_right (by omega) (by omega))))
        rw [this] at hA
        cases hA
  · intro h
    apply Nat.eq_of_testBit_eq
    intro i
    have := congrArg (fun x => x.testBit i) h
    simp only [Nat.testBit_and] at this
    rw [Nat.testBit_and, Nat.testBit_xor, bit, Nat.zero_testBit]
    cases hA : a.testBit i with
    | false => rfl
    | true =>
      rw [hA] at this
      have hB : b.testBit i = true := this
      have hi : i < 32 := by
        rcases Nat.lt_or_ge i 32 with q | q
        · exact q
        · have : a.testBit i = false := Nat.testBit_lt_two_pow (Nat.lt_of_lt_of_le ha (Nat.le_trans (show 4096 ≤ 2 ^ 32 by decide) (Nat.pow_le_pow_right (by omega) q)))
          rw [this] at hA
          cases hA
      rw [hB, decide_eq_true hi]
      rfl
