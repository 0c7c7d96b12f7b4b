/-! what all have in common, and how many may fail: the same on both sides -/
section T12
theorem com_step {G : Nat → Int32} {gs : Nat → Nat} {k j c : Nat} (hk : G k = nI (gs k) ∧ gs k < 128) (hj : G j = nI (gs j) ∧ gs j < 128) (hc : c ≤ 7) : ∃ c', c' ≤ 7 ∧ cmf G k j (nI c) = nI c' ∧ cof gs k j (nI c) = nI c' := by
  have hb : bc (G k &&& G j) = nI (pc7 (gs j &&& gs k)) := by
    rw [hk.1, hj.1, bc_and hk.2, Nat.and_comm]
  have h7 : pc7 (gs j &&& gs k) ≤ 7 := pc7_le _ (and_lt hj.2)
  unfold cmf cof
  rw [hb]
  by_cases h : nI (pc7 (gs j &&& gs k)) < nI c
  · rw [if_pos h, if_pos (Or.inr h)]
    exact ⟨_, h7, rfl, rfl⟩
  · rw [if_neg h, if_neg (fun q => q.elim (fun q => absurd q (nI_pos (by omega))) h)]
    exact ⟨c, hc, rfl, rfl⟩
theorem com_row {G : Nat → Int32} {gs : Nat → Nat} {k M : Nat} (hG : ∀ k, k < M → G k = nI (gs k) ∧ gs k < 128) (hk : k < M) : ∀ j, j ≤ k + 1 → ∀ c, c ≤ 7 → ∃ c', c' ≤ 7 ∧ fo (cmf G k) (nI c) j = nI c' ∧ fo (cof gs k) (nI c) j = nI c' := by
  intro j
  induction j with
  | zero => intro _ c hc; exact ⟨c, hc, rfl, rfl⟩
  | succ j ih =>
    intro hj c hc
    obtain ⟨c1, a1, a2, a3⟩ := ih (by omega) c hc
    rw [fo_s, fo_s, a2, a3]
    exact com_step (hG k hk) (hG j (by omega)) a1
theorem com_eq {G : Nat → Int32} {gs : Nat → Nat} : ∀ M, (∀ k, k < M → G k = nI (gs k) ∧ gs k < 128) → 1 ≤ M → ∃ c, c ≤ 7 ∧ fo (cmg G) 7 M = nI c ∧ fo (cog gs) (-4) M = nI c
  | 0, _, h => by omega
  | M + 1, hG, _ => by
    rw [fo_s, fo_s]
    by_cases h0 : M = 0
    · subst h0
      obtain ⟨h1, h2⟩ := hG 0 (by omega)
      have h7 : pc7 (gs 0 &&& gs 0) ≤ 7 := pc7_le _ (and_lt h2)
      refine ⟨pc7 (gs 0 &&& gs 0), h7, ?_, ?_⟩
      · show cmf G 0 0 7 = _
        unfold cmf
        rw [h1, bc_and h2]
        by_cases h : nI (pc7 (gs 0 &&& gs 0)) < 7
        · rw [if_pos h]
        · rw [if_neg h]
          have : ¬ pc7 (gs 0 &&& gs 0) < 7 := fun q => h (nI_lt (b := 7) q (by omega))
          rw [show pc7 (gs 0 &&& gs 0) = 7 by omega]
          rfl
      · show cof gs 0 0 (-4) = _
        unfold cof
        rw [if_pos (Or.inl (by decide))]
    · obtain ⟨c, c1, c2, c3⟩ := com_eq M (fun k hk => hG k (by omega)) (by omega)
      rw [c2, c3]
      exact com_row hG (by omega) (M + 1) (by omega) c c1
/-- the least number of elements whose failing leaves no group -/
def fmn (n : Nat) (hs : Nat → Bool) (s x : Nat) : Nat := if hs ((2 ^ n - 1) ^^^ s) = true then x else if pc7 s < x then pc7 s else x
theorem ftf_fmn {n : Nat} {hs hs' : Nat → Bool} {a : Nat} (h8 : n < 8) (ha : a ≤ 8) (hh : ∀ s, s < 2 ^ n → hs s = hs' s) : ∀ t, t ≤ 2 ^ n → fo (ftf n hs) (nI a) t = nI (fo (fmn n hs') a t) ∧ fo (fmn n hs') a t ≤ 8 := by
  have h7 := pow_le7 h8
  intro t
  induction t with
  | zero => intro _; exact ⟨rfl, ha⟩
  | succ t ih =>
    intro ht
    obtain ⟨h1, h2⟩ := ih (by omega)
    rw [fo_s, fo_s, h1]
    generalize fo (fmn n hs') a t = x at h2
    have hp := pc7_le t (by omega)
    unfold ftf fmn
    rw [hh _ (xor_lt (by omega)), bc_tab t (by omega)]
    by_cases e : hs' ((2 ^ n - 1) ^^^ t) = true
    · rw [if_pos e, if_pos e]
      exact ⟨rfl, h2⟩
    · rw [if_neg e, if_neg e]
      by_cases e2 : pc7 t < x
      · rw [if_pos e2, if_pos (nI_lt e2 (by omega))]
        exact ⟨rfl, by omega⟩
      · rw [if_neg e2, if_neg (nI_nlt (by omega) (by omega))]
        exact ⟨rfl, h2⟩
theorem mff_fmn {n : Nat} {hs : Nat → Bool} {a : Nat} (h8 : n < 8) (ha : a ≤ 8) : ∀ t, t ≤ 2 ^ n → fo (mff n hs) (nI a) t = nI (fo (fmn n hs) a t) ∧ fo (fmn n hs) a t ≤ 8 := by
  have h7 := pow_le7 h8
  intro t
  induction t with
  | zero => intro _; exact ⟨rfl, ha⟩
  | succ t ih =>
    intro ht
    obtain ⟨h1, h2⟩ := ih (by omega)
    rw [fo_s, fo_s, h1]
    generalize fo (fmn n hs) a t = x at h2
    have hp := pc7_le t (by omega)
    unfold mff fmn
    by_cases e : hs ((2 ^ n - 1) ^^^ t) = true
    · rw [if_neg (fun q => q.1 e), if_pos e]
      exact ⟨rfl, h2⟩
    · rw [if_neg e]
      by_cases e2 : pc7 t < x
      · rw [if_pos e2, if_pos ⟨e, nI_lt e2 (by omega)⟩]
        exact ⟨rfl, by omega⟩
      · rw [if_neg e2, if_neg (fun q => nI_nlt (a := pc7 t) (b := x) (by omega) (by omega) q.2)]
        exact ⟨rfl, h2⟩
theorem fmn_min {n : Nat} {hs : Nat → Bool} {a b : Nat} (hab : a ≤ b) : ∀ t, fo (fmn n hs) a t = if fo (fmn n hs) b t < a then fo (fmn n hs) b t else a
  | 0 => by
    show a = if b < a then b else a
    rw [if_neg (by omega)]
  | t + 1 => by
    rw [fo_s, fo_s, fmn_min hab t]
    generalize fo (fmn n hs) b t = x
    unfold fmn
    by_cases e : hs ((2 ^ n - 1) ^^^ t) = true
    · rw [if_pos e, if_pos e]
    · rw [if_neg e, if_neg e]
      by_cases h1 : x < a <;> by_cases h2 : pc7 t < x
      · simp only [if_pos h1, if_pos h2]
        rw [if_pos (by omega)]
      · simp only [if_pos h1, if_neg h2]
      · simp only [if_neg h1, if_pos h2]
      · simp only [if_neg h1, if_neg h2]
        rw [if_neg (by omega)]
theorem fmn_le {n : Nat} {hs : Nat → Bool} {a s : Nat} (hh : hs ((2 ^ n - 1) ^^^ s) = false) : ∀ t, s < t → fo (fmn n hs) a t ≤ pc7 s
  | 0, h => by omega
  | t + 1, h => by
    rw [fo_s]
    by_cases e : s = t
    · subst e
      unfold fmn
      rw [if_neg (by rw [hh]; decide)]
      split <;> omega
    · have := fmn_le (a := a) hh t (by omega)
      generalize fo (fmn n hs) a t = x at this
      unfold fmn
      split
      · exact this
      · split <;> omega
theorem fmn_pos {n : Nat} {hs : Nat → Bool} {a : Nat} (ha : 1 ≤ a) (hh : hs (2 ^ n - 1) = true) (h8 : n < 8) : ∀ t, t ≤ 2 ^ n → 1 ≤ fo (fmn n hs) a t
  | 0, _ => ha
  | t + 1, h => by
    have h7 := pow_le7 h8
    rw [fo_s]
    have := fmn_pos ha hh h8 t (by omega)
    generalize fo (fmn n hs) a t = x at this
    unfold fmn
    by_cases e : t = 0
    · subst e
      rw [Nat.xor_zero, if_pos hh]
      exact this
    · have : 1 ≤ pc7 t := (by decide +kernel : ∀ t, t < 128 → t ≠ 0 → 1 ≤ pc7 t) t (by omega) e
      split
      · omega
      · split <;> omega
theorem pc_all : ∀ n, n < 8 → pc7 (2 ^ n - 1) = n := by decide
end T12
