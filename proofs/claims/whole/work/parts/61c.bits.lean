/-! sets as bits, for the game of probing -/
theorem beq_iff {x y : Nat} : Nat.beq x y = true ↔ x = y := ⟨Nat.eq_of_beq_eq_true, fun h => by rw [h]; exact Nat.beq_refl _⟩
theorem sb_iff {a b : Nat} : sb a b = true ↔ ∀ i, a.testBit i = true → b.testBit i = true := by
  unfold sb
  rw [beq_iff]
  constructor
  · intro h i hi
    have q := congrArg (fun z => z.testBit i) h
    simp only [Nat.testBit_and] at q
    rw [hi, Bool.true_and] at q
    exact q
  · intro h
    apply Nat.eq_of_testBit_eq
    intro i
    rw [Nat.testBit_and]
    cases e : a.testBit i with
    | false => rfl
    | true => rw [h i e]; rfl
theorem an_tab : ∀ a, a < 128 → ∀ b, b < 128 → nI a &&& (nI b ^^^ (-1)) = nI (a &&& (127 ^^^ b)) := by decide +kernel
/-- a state of the game from what is known at first -/
def Vd (n w l u d : Nat) : Prop := u < 2 ^ n ∧ d < 2 ^ n ∧ u &&& d = 0 ∧ sb w u = true ∧ sb l d = true
def op0 (n w l : Nat) : Nat := (2 ^ n - 1) ^^^ (w ||| l)
section BITS
variable {n w l u d : Nat}
theorem bit_lt {x i : Nat} (h : x < 2 ^ n) (hi : x.testBit i = true) : i < n := by
  rcases Nat.lt_or_ge i n with q | q
  · exact q
  · rw [Nat.testBit_lt_two_pow (Nat.lt_of_lt_of_le h (Nat.pow_le_pow_right (by omega) q))] at hi
    cases hi
theorem dis_bit {x y : Nat} (h : x &&& y = 0) (i : Nat) : (x.testBit i && y.testBit i) = false := by
  have q := congrArg (fun z => z.testBit i) h
  simp only [Nat.testBit_and, Nat.zero_testBit] at q
  exact q
theorem Vd.lost (h : Vd n w l u d) (hl : l < 2 ^ n) : sb (d ^^^ l) (op0 n w l) = true := by
  obtain ⟨h1, h2, h3, h4, h5⟩ := h
  rw [sb_iff] at h4 h5 ⊢
  intro i hi
  rw [Nat.testBit_xor] at hi
  unfold op0
  rw [Nat.testBit_xor, Nat.testBit_two_pow_sub_one, Nat.testBit_or]
  have a := h4 i
  have b := h5 i
  have c := dis_bit h3 i
  have e1 := bit_lt (i := i) h2
  cases q1 : d.testBit i <;> cases q2 : l.testBit i <;> cases q3 : w.testBit i <;> cases q4 : u.testBit i <;> simp_all
theorem Vd.found (h : Vd n w l u d) (hn : n < 8) (hw : w < 2 ^ n) : sb (u ^^^ w) (op0 n w l &&& (127 ^^^ (d ^^^ l))) = true := by
  obtain ⟨h1, h2, h3, h4, h5⟩ := h
  rw [sb_iff] at h4 h5 ⊢
  intro i hi
  rw [Nat.testBit_xor] at hi
  unfold op0
  rw [show (127 : Nat) = 2 ^ 7 - 1 from rfl]
  simp only [Nat.testBit_and, Nat.testBit_xor, Nat.testBit_two_pow_sub_one, Nat.testBit_or]
  have a := h4 i
  have b := h5 i
  have c := dis_bit h3 i
  have e1 := bit_lt (i := i) h1
  have e2 := bit_lt (i := i) hw
  have e3 : u.testBit i = true → i < 7 := fun q => by have := e1 q; omega
  have e4 : w.testBit i = true → i < 7 := fun q => by have := e2 q; omega
  cases q1 : d.testBit i <;> cases q2 : l.testBit i <;> cases q3 : w.testBit i <;> cases q4 : u.testBit i <;> simp_all
theorem Vd.u_eq (h : Vd n w l u d) : w ||| (u ^^^ w) = u := by
  obtain ⟨h1, h2, h3, h4, h5⟩ := h
  rw [sb_iff] at h4
  apply Nat.eq_of_testBit_eq
  intro i
  rw [Nat.testBit_or, Nat.testBit_xor]
  have a := h4 i
  cases q3 : w.testBit i <;> cases q4 : u.testBit i <;> simp_all
theorem Vd.d_eq (h : Vd n w l u d) : l ||| (d ^^^ l) = d := by
  obtain ⟨h1, h2, h3, h4, h5⟩ := h
  rw [sb_iff] at h5
  apply Nat.eq_of_testBit_eq
  intro i
  rw [Nat.testBit_or, Nat.testBit_xor]
  have a := h5 i
  cases q3 : l.testBit i <;> cases q4 : d.testBit i <;> simp_all
theorem Vd.mk {a k : Nat} (hn : n < 8) (hw : w < 2 ^ n) (hl : l < 2 ^ n) (hx : w &&& l = 0) (ha : sb a (op0 n w l) = true) (hk : sb k (op0 n w l &&& (127 ^^^ a)) = true) : Vd n w l (w ||| k) (l ||| a) ∧ (w ||| k) ^^^ w = k ∧ (l ||| a) ^^^ l = a := by
  rw [sb_iff] at ha hk
  have hop : op0 n w l < 2 ^ n := xor_lt (Nat.or_lt_two_pow hw hl)
  have lt_of : ∀ x, (∀ i, x.testBit i = true → (op0 n w l).testBit i = true) → x < 2 ^ n := fun x hx => by
    apply Nat.lt_pow_two_of_testBit
    intro i hi
    cases q : x.testBit i with
    | false => rfl
    | true =>
      have := bit_lt hop (hx i q)
      omega
  have hk' : ∀ i, k.testBit i = true → (op0 n w l).testBit i = true := fun i hi => by
    have := hk i hi
    rw [Nat.testBit_and, Bool.and_eq_true] at this
    exact this.1
  have hka : ∀ i, k.testBit i = true → a.testBit i = false := fun i hi => by
    have := hk i hi
    rw [Nat.testBit_and, Bool.and_eq_true, show (127 : Nat) = 2 ^ 7 - 1 from rfl, Nat.testBit_xor, Nat.testBit_two_pow_sub_one] at this
    cases q : a.testBit i with
    | false => rfl
    | true =>
      have hi7 : i < 7 := by have := bit_lt hop this.1; omega
      rw [decide_eq_true hi7, q] at this
      exact absurd this.2 (by decide)
  have hop0 : ∀ i, (op0 n w l).testBit i = true → w.testBit i = false ∧ l.testBit i = false := fun i hi => by
    unfold op0 at hi
    rw [Nat.testBit_xor, Nat.testBit_two_pow_sub_one, Nat.testBit_or] at hi
    have e1 := bit_lt (i := i) hw
    have e2 := bit_lt (i := i) hl
    cases q1 : w.testBit i <;> cases q2 : l.testBit i <;> simp_all
  refine ⟨⟨Nat.or_lt_two_pow hw (lt_of k hk'), Nat.or_lt_two_pow hl (lt_of a ha), ?_, ?_, ?_⟩, ?_, ?_⟩
  · apply Nat.eq_of_testBit_eq
    intro i
    simp only [Nat.testBit_and, Nat.testBit_or, Nat.zero_testBit]
    have c := dis_bit hx i
    have b1 := ha i
    have b2 := hk' i
    have b3 := hka i
    have b4 := hop0 i
    cases q1 : w.testBit i <;> cases q2 : l.testBit i <;> cases q3 : k.testBit i <;> cases q4 : a.testBit i <;> simp_all
  · rw [sb_iff]
    intro i hi
    rw [Nat.testBit_or, hi, Bool.true_or]
  · rw [sb_iff]
    intro i hi
    rw [Nat.testBit_or, hi, Bool.true_or]
  · apply Nat.eq_of_testBit_eq
    intro i
    rw [Nat.testBit_xor, Nat.testBit_or]
    have b2 := hk' i
    have b4 := hop0 i
    cases q1 : w.testBit i <;> cases q3 : k.testBit i <;> simp_all
  · apply Nat.eq_of_testBit_eq
    intro i
    rw [Nat.testBit_xor, Nat.testBit_or]
    have b2 := ha i
    have b4 := hop0 i
    cases q1 : l.testBit i <;> cases q3 : a.testBit i <;> simp_all
theorem Vd.up {e : Nat} (h : Vd n w l u d) (hO : opn n u d e = true) : Vd n w l (u ||| 2 ^ e) d ∧ (u ^^^ w) < ((u ||| 2 ^ e) ^^^ w) := by
  obtain ⟨o1, o2, o3⟩ := opn_iff.mp hO
  obtain ⟨h1, h2, h3, h4, h5⟩ := h
  rw [tb_bit] at o2
  have hwe : w.testBit e = false := by
    cases q : w.testBit e with
    | false => rfl
    | true => rw [sb_iff] at h4; rw [h4 e q] at o2; cases o2
  refine ⟨⟨or_lt h1 o1, h2, or_dis h3 o3, ?_, h5⟩, ?_⟩
  · rw [sb_iff] at h4 ⊢
    intro i hi
    rw [Nat.testBit_or, h4 i hi, Bool.true_or]
  · have e1 : (u ||| 2 ^ e) ^^^ w = (u ^^^ w) ||| 2 ^ e := by
      apply Nat.eq_of_testBit_eq
      intro i
      simp only [Nat.testBit_xor, Nat.testBit_or, Nat.testBit_two_pow]
      by_cases qe : e = i
      · subst qe
        rw [hwe, o2, decide_eq_true rfl]
        rfl
      · rw [decide_eq_false qe, Bool.or_false, Bool.or_false]
    rw [e1]
    refine Nat.lt_of_le_of_ne Nat.left_le_or (fun q => ?_)
    have := congrArg (fun z => z.testBit e) q
    simp only [Nat.testBit_or, Nat.testBit_two_pow, Nat.testBit_xor, decide_true, Bool.or_true] at this
    rw [o2, hwe] at this
    cases this
theorem Vd.dn {e : Nat} (h : Vd n w l u d) (hO : opn n u d e = true) : Vd n w l u (d ||| 2 ^ e) ∧ (d ^^^ l) < ((d ||| 2 ^ e) ^^^ l) := by
  obtain ⟨o1, o2, o3⟩ := opn_iff.mp hO
  obtain ⟨h1, h2, h3, h4, h5⟩ := h
  rw [tb_bit] at o3
  have hwe : l.testBit e = false := by
    cases q : l.testBit e with
    | false => rfl
    | true => rw [sb_iff] at h5; rw [h5 e q] at o3; cases o3
  refine ⟨⟨h1, or_lt h2 o1, or_dis2 h3 o2, h4, ?_⟩, ?_⟩
  · rw [sb_iff] at h5 ⊢
    intro i hi
    rw [Nat.testBit_or, h5 i hi, Bool.true_or]
  · have e1 : (d ||| 2 ^ e) ^^^ l = (d ^^^ l) ||| 2 ^ e := by
      apply Nat.eq_of_testBit_eq
      intro i
      simp only [Nat.testBit_xor, Nat.testBit_or, Nat.testBit_two_pow]
      by_cases qe : e = i
      · subst qe
        rw [hwe, o3, decide_eq_true rfl]
        rfl
      · rw [decide_eq_false qe, Bool.or_false, Bool.or_false]
    rw [e1]
    refine Nat.lt_of_le_of_ne Nat.left_le_or (fun q => ?_)
    have := congrArg (fun z => z.testBit e) q
    simp only [Nat.testBit_or, Nat.testBit_two_pow, Nat.testBit_xor, decide_true, Bool.or_true] at this
    rw [o3, hwe] at this
    cases this
theorem sb_le {a b : Nat} (h : sb a b = true) : a ≤ b := by
  unfold sb at h
  rw [beq_iff] at h
  rw [← h]
  exact Nat.and_le_right
end BITS
