/-! the reference's own steps back: notes -/
theorem nI_mul (a b : Nat) : nI a * nI b = nI (a * b) := by
  unfold nI
  exact (Int32.ofNat_mul a b).symm
theorem nI_sub {a b : Nat} (h : b ≤ a) : nI a - nI b = nI (a - b) := by
  have e : nI a = nI (a - b) + nI b := by rw [nI_add, Nat.sub_add_cancel h]
  rw [e, Int32.add_sub_cancel]
def shA (G : Nat → Int32) (k : Nat) : Nat → Int32 := fun j => if j + 116 < k then G (j + 116) else G j
def wrA (G : Nat → Int32) (v : Nat → Int32) (p k : Nat) : Nat → Int32 := fun j => if p ≤ j ∧ j < p + k then v (j - p) else G j
theorem shA_up {G : Nat → Int32} {k : Nat} (h : 116 ≤ k) : upd (shA G k) (k - 116) (shA G k k) = shA G (k + 1) := by
  funext j
  by_cases e : j = k - 116
  · subst e
    unfold upd shA
    rw [if_pos rfl, if_neg (by omega), if_pos (by omega), show k - 116 + 116 = k by omega]
  · unfold upd shA
    rw [if_neg e]
    by_cases h1 : j + 116 < k
    · rw [if_pos h1, if_pos (by omega)]
    · rw [if_neg h1, if_neg (by omega)]
theorem wrA_up {G v : Nat → Int32} {p k : Nat} : upd (wrA G v p k) (p + k) (v k) = wrA G v p (k + 1) := by
  funext j
  by_cases e : j = p + k
  · subst e
    unfold upd wrA
    rw [if_pos rfl, if_pos (by omega), show p + k - p = k by omega]
  · unfold upd wrA
    rw [if_neg e]
    by_cases h1 : p ≤ j ∧ j < p + k
    · rw [if_pos h1, if_pos (by omega)]
    · rw [if_neg h1, if_neg (by omega)]
theorem wrA_0 {G v : Nat → Int32} {p : Nat} : wrA G v p 0 = G := by
  funext j
  unfold wrA
  rw [if_neg (by omega)]
section NOTES
variable {f g : Nat → Nat} {I : Nat → Nat → Int32} {J : Nat → Nat → Int64}
/-- what notes does to the reference's cells: N steps were kept, N' + 1 are -/
def NtR (I' I : Nat → Nat → Int32) (N N' : Nat) : Prop := I' 236 19 = nI (N' + 1) ∧ (∀ i, i < 116 → I' 248 (116 * N' + i) = I 237 i) ∧ (∀ k, k < 116 * N' → I' 248 k = I 248 (k + 116 * (N - N'))) ∧ (∀ c, c ≠ 236 → c ≠ 248 → I' c = I c) ∧ ∀ k, k ≠ 19 → I' 236 k = I 236 k
theorem lp_notes2 {N : Nat} {q : am_Q} (hN : I 236 19 = nI N) (h6 : N < 6) (hq : q none (am_up (am_row I 248 (wrA (I 248) (I 237) (116 * N) 116)) 236 19 (nI (N + 1)), J, am_Rf f g)) : ∀ n k, n + k = 116 → am_u am_sh m_MD_notes q (am_at am_c_MD_notes 47) 47 [some (.ref 236), some (.int (nI k))] [] (am_row I 248 (wrA (I 248) (I 237) (116 * N) k), J, am_Rf f g) := by
  have e : ∀ k, am_row I 248 (wrA (I 248) (I 237) (116 * N) k) 236 19 = nI N := fun k => by rw [am_row_ne (by omega), hN]
  intro n
  induction n with
  | zero =>
    intro k hk
    obtain rfl : k = 116 := by omega
    refine br_t (nI_le (a := 116) (by omega) (by omega)) (j_MD_notes ⟨rfl, rfl, ?_⟩)
    show q none (am_up _ 236 19 (am_row I 248 _ 236 19 + 1), _, _)
    rw [e, nI_1]
    exact hq
  | succ n ih =>
    intro k hk
    refine br_f (nI_ge (b := 116) (by omega) (by omega)) ⟨248, rfl, rfl, rfl, 237, rfl, rfl, 116, k, rfl, by omega, rfl, 696, 116 * N + k, rfl, by omega, ?_, j_MD_notes ?_⟩
    · show nI 116 * (am_row I 248 _ 236 19) + nI k = _
      rw [e, nI_mul, nI_add]
    · rw [show nI k + 1 = nI (k + 1) from nI_1 k, am_up_row, am_row_ne (by omega), wrA_up]
      exact ih (k + 1) (by omega)
theorem rn_notes {N : Nat} {q : am_Q} {w : Option Value} (hN : I 236 19 = nI N) (h6 : N < 6) (hq : q none (am_up (am_row I 248 (wrA (I 248) (I 237) (116 * N) 116)) 236 19 (nI (N + 1)), J, am_Rf f g)) : am_u am_sh m_MD_notes q (am_at am_c_MD_notes 45) 45 [some (.ref 236), w] [] (I, J, am_Rf f g) := by
  have h := lp_notes2 (f := f) (g := g) hN h6 hq 116 0 rfl
  rw [wrA_0, am_row_id] at h
  exact j_MD_notes h
theorem lp_notes1 {q : am_Q} (hq : am_run am_sh m_MD_notes q 40 [some (.ref 236), some (.int (nI 696))] [] (am_row I 248 (shA (I 248) 696), J, am_Rf f g)) : ∀ n k, n + k = 696 → 116 ≤ k → am_u am_sh m_MD_notes q (am_at am_c_MD_notes 12) 12 [some (.ref 236), some (.int (nI k))] [] (am_row I 248 (shA (I 248) k), J, am_Rf f g) := by
  intro n
  induction n with
  | zero =>
    intro k hk h1
    obtain rfl : k = 696 := by omega
    exact br_t (nI_le (a := 696) (by omega) (by omega)) hq
  | succ n ih =>
    intro k hk h1
    refine br_f (nI_ge (b := 696) (by omega) (by omega)) ⟨248, rfl, rfl, 248, rfl, rfl, 696, k, rfl, by omega, rfl, 696, k - 116, rfl, by omega, nI_sub h1, j_MD_notes ?_⟩
    rw [show nI k + 1 = nI (k + 1) from nI_1 k, am_up_row, am_row_eq, shA_up h1]
    exact ih (k + 1) (by omega) (by omega)
theorem ev_notes {N : Nat} (hN : I 236 19 = nI N) (h6 : N ≤ 6) : am_ev am_sh m_MD_notes [.ref 236] (I, J, am_Rf f g) (fun r σ' => r = none ∧ ∃ I' N', σ' = (I', J, am_Rf f g) ∧ NtR I' I N N' ∧ ((N < 6 ∧ N' = N) ∨ (N = 6 ∧ N' = 5))) := by
  refine s_MD_notes ⟨rfl, fun hc => j_MD_notes ?_, fun hc => ?_⟩
  · have hlt : N < 6 := by
      rcases Nat.lt_or_ge N 6 with h | h
      · exact h
      · exact absurd (by show I 236 19 = 6; rw [hN, show N = 6 by omega]; rfl) hc
    refine rn_notes hN hlt ⟨rfl, _, N, rfl, ⟨am_up_eq, fun i hi => ?_, fun k hk => ?_, fun c c1 c2 => ?_, fun k hk => ?_⟩, Or.inl ⟨hlt, rfl⟩⟩
    · rw [am_up_ne (by omega), am_row_eq]
      unfold wrA
      rw [if_pos (by omega), show 116 * N + i - 116 * N = i by omega]
    · rw [am_up_ne (by omega), am_row_eq]
      unfold wrA
      rw [if_neg (by omega), show k + 116 * (N - N) = k by omega]
    · rw [up_cell c1, row_cell c2]
    · rw [am_up_ne (by omega), am_row_ne (by omega)]
  · have h6' : N = 6 := (nI_eq (by omega) (by omega)).mp (hN.symm.trans hc)
    subst h6'
    have h := lp_notes1 (f := f) (g := g) (J := J) (I := I) (q := fun r σ' => r = none ∧ ∃ I' N', σ' = (I', J, am_Rf f g) ∧ NtR I' I 6 N' ∧ ((6 < 6 ∧ N' = 6) ∨ (6 = 6 ∧ N' = 5))) ?_ (696 - 116) 116 (by omega) (by omega)
    · have e : shA (I 248) 116 = I 248 := by
        funext j
        unfold shA
        rw [if_neg (by omega)]
      rw [e, am_row_id] at h
      exact j_MD_notes h
    · refine j_MD_notes ⟨rfl, ?_⟩
      refine rn_notes (N := 5) am_up_eq (by omega) ⟨rfl, _, 5, rfl, ⟨am_up_eq, fun i hi => ?_, fun k hk => ?_, fun c c1 c2 => ?_, fun k hk => ?_⟩, Or.inr ⟨rfl, rfl⟩⟩
      · rw [am_up_ne (by omega), am_row_eq]
        unfold wrA
        rw [if_pos (by omega), show 116 * 5 + i - 116 * 5 = i by omega, am_up_ne (by omega), am_row_ne (by omega)]
      · rw [am_up_ne (by omega), am_row_eq]
        unfold wrA
        rw [if_neg (by omega), am_up_ne (by omega), am_row_eq]
        unfold shA
        rw [if_pos (by omega)]
      · rw [up_cell c1, row_cell c2, up_cell c1, row_cell c2]
      · rw [am_up_ne (by omega), am_row_ne (by omega), am_up_ne (by omega), am_row_ne (by omega)]
end NOTES
