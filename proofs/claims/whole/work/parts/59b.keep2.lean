/-! keep on both -/
section T20
variable {f g : Nat → Nat} {I : Nat → Nat → Int32} {J : Nat → Nat → Int64}
theorem lp_keep1 {t i M : Nat} {x y w6 : Int32} {v9 v10 : Option Value} {q : am_Q} (ht : t < 4) (hi : i + M ≤ 24) (h12 : M ≤ 12) (hq : ∀ w, am_run am_sh m_MD_keep q 126 [some (.ref 236), some (.int x), some (.int (nI t)), some (.int y), some (.int (nI i)), some (.int (nI M)), some (.int w6), some (.int (b2i (decide (0 < M) && ba (okn (J 253) (24 * t + i) 0 99) M))), w, v9, v10] [] (I, J, am_Rf f g)) : ∀ n k v, n + k = M → v = b2i (decide (0 < M) && ba (okn (J 253) (24 * t + i) 0 99) k) → am_u am_sh m_MD_keep q (am_at am_c_MD_keep 76) 76 [some (.ref 236), some (.int x), some (.int (nI t)), some (.int y), some (.int (nI i)), some (.int (nI M)), some (.int w6), some (.int v), some (.int (nI k)), v9, v10] [] (I, J, am_Rf f g) := by
  intro n
  induction n with
  | zero =>
    intro k v hk hv
    obtain rfl : k = M := by omega
    subst hv
    exact br_t (nI_le (by omega) (by omega)) (hq _)
  | succ n ih =>
    intro k v hk hv
    have nx : ∀ v', v' = b2i (decide (0 < M) && ba (okn (J 253) (24 * t + i) 0 99) (k + 1)) → am_u am_sh m_MD_keep q (am_at am_c_MD_keep 76) 76 [some (.ref 236), some (.int x), some (.int (nI t)), some (.int y), some (.int (nI i)), some (.int (nI M)), some (.int w6), some (.int v'), some (.int (nI k + 1)), v9, v10] [] (I, J, am_Rf f g) := fun v' hv' => by
      rw [nI_1]
      exact ih (k + 1) v' (by omega) hv'
    refine br_f (nI_ge (by omega) (by omega)) ⟨fun h1 => j_MD_keep (j_MD_keep (nx 0 ?_)), fun h1 => ⟨253, rfl, rfl, 96, 24 * t + i + k, rfl, by omega, by show nI 24 * nI t + nI i + nI k = _; rw [nI_mul, nI_add, nI_add], (ev_in _ _ _ _).rt ⟨fun h2 => j_MD_keep (j_MD_keep (nx 0 ?_)), fun h2 => j_MD_keep (j_MD_keep (nx 1 ?_))⟩⟩⟩
    · have h1 : v = 0 := h1
      rw [hv, b2i_eq0] at h1
      rw [ba_s, ← Bool.and_assoc, h1]
      rfl
    · have h2 := b2i_eq0.mp h2
      have e : okn (J 253) (24 * t + i) 0 99 k = false := h2
      rw [ba_s, e, Bool.and_false, Bool.and_false]
      rfl
    · have h1 : ¬ v = 0 := h1
      rw [hv, b2i_ne0] at h1
      have e : okn (J 253) (24 * t + i) 0 99 k = true := b2i_ne0.mp h2
      rw [ba_s, ← Bool.and_assoc, h1, e]
      rfl
def kr (G : Nat → Int32) (p : Nat) (sv wv : Nat → Int32) (k : Nat) : Nat → Int32 := fun j => if p + 1 ≤ j ∧ j < p + 1 + k then sv (j - (p + 1)) else if p + 13 ≤ j ∧ j < p + 13 + k then wv (j - (p + 13)) else G j
theorem kr_up {G sv wv : Nat → Int32} {p k : Nat} (h : k < 12) : upd (upd (kr G p sv wv k) (p + 1 + k) (sv k)) (p + 13 + k) (wv k) = kr G p sv wv (k + 1) := by
  funext j
  unfold upd kr
  by_cases e1 : j = p + 13 + k
  · subst e1
    rw [if_pos rfl, if_neg (by omega), if_pos (by omega), show p + 13 + k - (p + 13) = k by omega]
  · rw [if_neg e1]
    by_cases e2 : j = p + 1 + k
    · subst e2
      rw [if_pos rfl, if_pos (by omega), show p + 1 + k - (p + 1) = k by omega]
    · rw [if_neg e2]
      by_cases h1 : p + 1 ≤ j ∧ j < p + 1 + k
      · rw [if_pos h1, if_pos (by omega)]
      · rw [if_neg h1, if_neg (show ¬ (p + 1 ≤ j ∧ j < p + 1 + (k + 1)) by omega)]
        by_cases h2 : p + 13 ≤ j ∧ j < p + 13 + k
        · rw [if_pos h2, if_pos (by omega)]
        · rw [if_neg h2, if_neg (by omega)]
theorem lp_keep2 {t i M K : Nat} {x y w6 w7 w8 : Int32} {q : am_Q} (ht : t < 4) (hi : i + M ≤ 24) (h12 : M ≤ 12) (hK : K < 4) (h3 : I 237 3 = nI K) (hq : q (some (.int (nI (K + 1)))) (am_up (am_row I 237 (kr (I 237) (16 + 25 * K) (fun k => if k < M then I 237 (4 + k) else 0) (fun k => if k < M then (J 253 (24 * t + i + k)).toInt32 else 0) 12)) 237 3 (nI (K + 1)), J, am_Rf f g)) : ∀ n k, n + k = 12 → am_u am_sh m_MD_keep q (am_at am_c_MD_keep 200) 200 [some (.ref 236), some (.int x), some (.int (nI t)), some (.int y), some (.int (nI i)), some (.int (nI M)), some (.int w6), some (.int w7), some (.int w8), some (.int (nI (16 + 25 * K))), some (.int (nI k))] [] (am_row I 237 (kr (I 237) (16 + 25 * K) (fun k => if k < M then I 237 (4 + k) else 0) (fun k => if k < M then (J 253 (24 * t + i + k)).toInt32 else 0) k), J, am_Rf f g) := by
  intro n
  induction n with
  | zero =>
    intro k hk
    obtain rfl : k = 12 := by omega
    refine br_t (nI_le (a := 12) (by omega) (by omega)) (j_MD_keep ⟨237, rfl, rfl, 116, 3, rfl, by omega, rfl, 116, 3, rfl, by omega, rfl, 237, rfl, rfl, 116, 3, rfl, by omega, rfl, ?_⟩)
    have e3 : am_row I 237 (kr (I 237) (16 + 25 * K) (fun k => if k < M then I 237 (4 + k) else 0) (fun k => if k < M then (J 253 (24 * t + i + k)).toInt32 else 0) 12) 237 3 + 1 = nI (K + 1) := by
      rw [am_row_eq]
      unfold kr
      rw [if_neg (by omega), if_neg (by omega), h3, nI_1]
    rw [e3]
    show q (some (.int (am_up _ 237 3 (nI (K + 1)) 237 3))) _
    rw [am_up_eq]
    exact hq
  | succ n ih =>
    intro k hk
    have fin : am_u am_sh m_MD_keep q (am_at am_c_MD_keep 200) 200 [some (.ref 236), some (.int x), some (.int (nI t)), some (.int y), some (.int (nI i)), some (.int (nI M)), some (.int w6), some (.int w7), some (.int w8), some (.int (nI (16 + 25 * K))), some (.int (nI k + 1))] [] (am_up (am_up (am_row I 237 (kr (I 237) (16 + 25 * K) (fun k => if k < M then I 237 (4 + k) else 0) (fun k => if k < M then (J 253 (24 * t + i + k)).toInt32 else 0) k)) 237 (16 + 25 * K + 1 + k) (if k < M then I 237 (4 + k) else 0)) 237 (16 + 25 * K + 13 + k) (if k < M then (J 253 (24 * t + i + k)).toInt32 else 0), J, am_Rf f g) := by
      have e := kr_up (G := I 237) (sv := fun k => if k < M then I 237 (4 + k) else 0) (wv := fun k => if k < M then (J 253 (24 * t + i + k)).toInt32 else 0) (p := 16 + 25 * K) (k := k) (by omega)
      rw [nI_1, am_up_row, am_up_row, e]
      exact ih (k + 1) (by omega)
    have e4 : am_row I 237 (kr (I 237) (16 + 25 * K) (fun k => if k < M then I 237 (4 + k) else 0) (fun k => if k < M then (J 253 (24 * t + i + k)).toInt32 else 0) k) 237 (4 + k) = I 237 (4 + k) := by
      rw [am_row_eq]
      unfold kr
      rw [if_neg (by omega), if_neg (by omega)]
    refine br_f (nI_ge (b := 12) (by omega) (by omega)) ⟨237, rfl, rfl, ?_⟩
    rcases Nat.lt_or_ge k M with h | h
    · rw [if_pos h, if_pos h] at fin
      refine br_f (nI_ge h (by omega)) ⟨rfl, (ev_mat (by omega)).rt (j_MD_keep ⟨116, 16 + 25 * K + 1 + k, rfl, by omega, by show nI (16 + 25 * K) + nI 1 + nI k = _; rw [nI_add, nI_add], 237, rfl, rfl, ?_⟩)⟩
      refine br_f (nI_ge h (by omega)) ⟨253, rfl, rfl, 96, 24 * t + i + k, rfl, by omega, by show nI 24 * nI t + nI i + nI k = _; rw [nI_mul, nI_add, nI_add], j_MD_keep ⟨116, 16 + 25 * K + 13 + k, rfl, by omega, by show nI (16 + 25 * K) + nI 13 + nI k = _; rw [nI_add, nI_add], j_MD_keep ?_⟩⟩
      rw [e4]
      exact fin
    · rw [if_neg (by omega), if_neg (by omega)] at fin
      refine br_t (nI_le h (by omega)) (j_MD_keep ⟨116, 16 + 25 * K + 1 + k, rfl, by omega, by show nI (16 + 25 * K) + nI 1 + nI k = _; rw [nI_add, nI_add], 237, rfl, rfl, ?_⟩)
      exact br_t (nI_le h (by omega)) (j_MD_keep ⟨116, 16 + 25 * K + 13 + k, rfl, by omega, by show nI (16 + 25 * K) + nI 13 + nI k = _; rw [nI_add, nI_add], j_MD_keep fin⟩)
theorem okn_nat {r : Nat → Int64} {p k : Nat} (h : okn r p 0 99 k = true) : ∃ w, (r (p + k)).toInt32 = nI w ∧ w ≤ 99 := by
  have h := of_decide_eq_true h
  obtain ⟨w, hw, e⟩ := pk_lOf (x := r (p + k)) (Int64.not_lt.mpr h.1)
  have h2 := h.2
  rw [e, show (99 : Int32).toInt64 = lN 99 from rfl, pk_lLE hw (by omega)] at h2
  exact ⟨w, by rw [e, lN_i], h2⟩
/-- what keep does to the reference's row behind the note -/
theorem rn_keep {t i M K n : Nat} {C : Nat → Nat → Int32} {gs : Nat → Nat} {x y w6 w7 : Int32} {v8 v9 v10 : Option Value} {q : am_Q} (ht : t < 4) (hi : i + M ≤ 24) (h12 : M ≤ 12) (hR : Rr C 1 (I 237) n M K gs) (hq : ∀ (ρ ρ' : Nat → Int32) (K' : Nat), K' < 4 → ρ' 3 = nI (K' + 1) → ρ' (16 + 25 * K') = x → (∀ i', i' < 12 → ρ' (16 + 25 * K' + 1 + i') = (if i' < M then nI (gs i') else 0) ∧ ρ' (16 + 25 * K' + 13 + i') = (if i' < M then (J 253 (24 * t + i + i')).toInt32 else 0)) → (∀ i, i < 16 + 25 * K' → i ≠ 3 → ρ' i = ρ i) → (∀ i, i < 16 → i ≠ 3 → ρ i = I 237 i) → ρ 3 = nI K' → ((∃ p, fi (fun k => decide (C 4 k = x)) K = some p ∧ K = K' + 1 ∧ p ≤ K' ∧ ∀ t j, t < K' → j < 25 → ρ (16 + 25 * t + j) = I 237 (16 + 25 * (if p ≤ t then t + 1 else t) + j)) ∨ (fi (fun k => decide (C 4 k = x)) K = none ∧ K = 4 ∧ K' = 3 ∧ ∀ t j, t < K' → j < 25 → ρ (16 + 25 * t + j) = I 237 (16 + 25 * (if 0 ≤ t then t + 1 else t) + j)) ∨ (fi (fun k => decide (C 4 k = x)) K = none ∧ K < 4 ∧ K' = K ∧ ρ = I 237)) → q (some (.int (nI (K' + 1)))) (am_row I 237 ρ', J, am_Rf f g)) : am_u am_sh m_MD_keep q (am_at am_c_MD_keep 138) 138 [some (.ref 236), some (.int x), some (.int (nI t)), some (.int y), some (.int (nI i)), some (.int (nI M)), some (.int w6), some (.int w7), v8, v9, v10] [] (I, J, am_Rf f g) := by
  obtain ⟨k1, k2, k3⟩ := hR.2.2.2.2.2.1
  have rr : ∀ (G H : Nat → Int32), am_row (am_row I 237 G) 237 H = am_row I 237 H := fun G H => by
    funext c j
    unfold am_row
    by_cases h : c = 237 <;> simp [h]
  have rc : ∀ (G : Nat → Int32), am_row I 237 G 237 = G := fun G => by
    funext j
    rw [am_row_eq]
  -- the last part, over a row ρ
  have lastp : ∀ (ρ : Nat → Int32) (K' : Nat) (w8 : Int32) (v9 v10 : Option Value), K' < 4 → ρ 3 = nI K' → (∀ i, i < 16 → i ≠ 3 → ρ i = I 237 i) → (∀ ρ', ρ' 3 = nI (K' + 1) → ρ' (16 + 25 * K') = x → (∀ i', i' < 12 → ρ' (16 + 25 * K' + 1 + i') = (if i' < M then nI (gs i') else 0) ∧ ρ' (16 + 25 * K' + 13 + i') = (if i' < M then (J 253 (24 * t + i + i')).toInt32 else 0)) → (∀ i, i < 16 + 25 * K' → i ≠ 3 → ρ' i = ρ i) → q (some (.int (nI (K' + 1)))) (am_row I 237 ρ', J, am_Rf f g)) → am_u am_sh m_MD_keep q (am_at am_c_MD_keep 175) 175 [some (.ref 236), some (.int x), some (.int (nI t)), some (.int y), some (.int (nI i)), some (.int (nI M)), some (.int w6), some (.int w7), some (.int w8), v9, v10] [] (am_row I 237 ρ, J, am_Rf f g) := by
    intro ρ K' w8 v9 v10 hK' h3 h0 hq
    have e9 : (16 : Int32) + 25 * am_row I 237 ρ 237 3 = nI (16 + 25 * K') := by
      rw [am_row_eq, h3]
      show nI 16 + nI 25 * nI K' = _
      rw [nI_mul, nI_add]
    refine ⟨237, rfl, rfl, 116, 3, rfl, by omega, rfl, 237, rfl, rfl, 116, 16 + 25 * K', rfl, by omega, e9, j_MD_keep ?_⟩
    rw [e9, am_up_row]
    have hl := lp_keep2 (I := am_row I 237 (upd ρ (16 + 25 * K') x)) (J := J) (f := f) (g := g) (t := t) (i := i) (M := M) (K := K') (x := x) (y := y) (w6 := w6) (w7 := w7) (w8 := w8) (q := q) ht hi h12 hK' ?_ ?_ 12 0 rfl
    · have e0 : ∀ sv wv : Nat → Int32, kr (am_row I 237 (upd ρ (16 + 25 * K') x) 237) (16 + 25 * K') sv wv 0 = upd ρ (16 + 25 * K') x := fun sv wv => by
        funext j
        unfold kr
        rw [if_neg (by omega), if_neg (by omega), am_row_eq]
      rw [e0, rr] at hl
      exact hl
    · rw [am_row_eq]
      unfold upd
      rw [if_neg (by omega)]
      exact h3
    · rw [rr, am_up_row, rc]
      refine hq _ (if_pos rfl) ?_ (fun i' hi' => ⟨?_, ?_⟩) (fun i' hi' hn => ?_)
      · unfold upd kr
        rw [if_neg (by omega), if_neg (by omega), if_neg (by omega)]
        exact if_pos rfl
      · unfold upd kr
        rw [if_neg (by omega), if_pos (by omega), show 16 + 25 * K' + 1 + i' - (16 + 25 * K' + 1) = i' by omega]
        dsimp only
        by_cases q1 : i' < M
        · rw [if_pos q1, if_pos q1, if_neg (by omega), h0 _ (by omega) (by omega)]
          exact (hR.2.2.1 i' q1).2.1
        · rw [if_neg q1, if_neg q1]
      · unfold upd kr
        rw [if_neg (by omega), if_neg (by omega), if_pos (by omega), show 16 + 25 * K' + 13 + i' - (16 + 25 * K' + 13) = i' by omega]
      · unfold upd kr
        rw [if_neg hn, if_neg (by omega), if_neg (by omega)]
        exact if_neg (by omega)
  have dr : ∀ p K', K = K' + 1 → p ≤ K' → (∀ i, i < 16 → i ≠ 3 → drp (upd (I 237) 3 (nI K')) p (25 * K') i = I 237 i) ∧ drp (upd (I 237) 3 (nI K')) p (25 * K') 3 = nI K' ∧ ∀ t j, t < K' → j < 25 → drp (upd (I 237) 3 (nI K')) p (25 * K') (16 + 25 * t + j) = I 237 (16 + 25 * (if p ≤ t then t + 1 else t) + j) := by
    intro p K' hK hp
    refine ⟨fun i hi hn => ?_, ?_, fun t j ht hj => ?_⟩
    · unfold drp upd
      rw [if_neg (by omega), if_neg hn]
    · unfold drp upd
      rw [if_neg (by omega), if_pos rfl]
    · unfold drp upd
      by_cases e : p ≤ t
      · rw [if_pos (by omega), if_neg (by omega), if_pos e, show 16 + 25 * t + j + 25 = 16 + 25 * (t + 1) + j by omega]
      · rw [if_neg (by omega), if_neg (by omega), if_neg e]
  refine ⟨rfl, (ev_planAt hR).rt ?_⟩
  cases hfi : fi (fun k => decide (C (1 + 3) k = x)) K with
  | some p =>
    have hp := (fi_some hfi).1
    obtain ⟨K', rfl⟩ : ∃ K', K = K' + 1 := ⟨K - 1, by omega⟩
    obtain ⟨d1, d2, d3⟩ := dr p K' rfl (by omega)
    refine br_t (nI_pos' (n := p) (by omega)) (j_MD_keep (br_f (nI_pos (n := p) (by omega)) (j_MD_keep ⟨rfl, (ev_drops k2 (by omega) (by omega)).rv ?_⟩)))
    exact lastp _ K' _ _ _ (by omega) d2 d1 (fun ρ' a1 a2 a3 a4 => hq _ ρ' K' (by omega) a1 a2 a3 a4 d1 d2 (Or.inl ⟨p, hfi, rfl, by omega, d3⟩))
  | none =>
    refine br_f (by decide) ⟨237, rfl, rfl, 116, 3, rfl, by omega, rfl, ?_⟩
    rcases Nat.lt_or_ge K 4 with h | h
    · refine ⟨fun _ => j_MD_keep ?_, fun e => ?_⟩
      · have := lastp (I 237) K (-4) v9 v10 h k2 (fun _ _ _ => rfl) (fun ρ' a1 a2 a3 a4 => hq (I 237) ρ' K h a1 a2 a3 a4 (fun _ _ _ => rfl) k2 (Or.inr (Or.inr ⟨hfi, h, rfl, rfl⟩)))
        rw [am_row_id] at this
        exact this
      · have := (nI_eq (by omega) (by omega)).mp (k2.symm.trans e : nI K = nI 4)
        omega
    · obtain rfl : K = 3 + 1 := by omega
      obtain ⟨d1, d2, d3⟩ := dr 0 3 rfl (by omega)
      refine ⟨fun q => absurd k2 q, fun _ => br_t (by decide) (j_MD_keep ⟨rfl, (ev_drops (p := 0) k2 (by omega) (by omega)).rv ?_⟩)⟩
      exact lastp _ 3 _ _ _ (by omega) d2 d1 (fun ρ' a1 a2 a3 a4 => hq _ ρ' 3 (by omega) a1 a2 a3 a4 d1 d2 (Or.inr (Or.inl ⟨hfi, rfl, rfl, d3⟩)))
end T20
