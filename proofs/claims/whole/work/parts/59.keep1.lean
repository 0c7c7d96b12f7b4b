/-! plans kept on both: the rows -/
section T19
variable {f g : Nat → Nat} {I : Nat → Nat → Int32} {J : Nat → Nat → Int64}
theorem Rr.pl {C C' : Nat → Nat → Int32} {a : Nat} {ρ ρ' : Nat → Int32} {n M K K' : Nat} {gs : Nat → Nat} (h : Rr C a ρ n M K gs) (hK : C' (a + 2) 0 = nI K' ∧ ρ' 3 = nI K' ∧ K' ≤ 4) (h7 : ∀ p, p < K' → C' (a + 3) p = ρ' (16 + 25 * p) ∧ ∀ i, i < 12 → C' (a + 5 + p) i = ρ' (16 + 25 * p + 1 + i) ∧ C' (a + 10 + p) i = ρ' (16 + 25 * p + 13 + i)) (h8 : ∀ p i, p < K' → i < 12 → ∃ s w, ρ' (16 + 25 * p + 1 + i) = nI s ∧ s < 128 ∧ ρ' (16 + 25 * p + 13 + i) = nI w ∧ w ≤ 99) (h9 : ∀ p q, p < K' → q < K' → ρ' (16 + 25 * p) = ρ' (16 + 25 * q) → p = q) (hC0 : C' a = C a) (hC1 : C' (a + 1) = C (a + 1)) (hρ : ∀ i, i < 16 → i ≠ 3 → ρ' i = ρ i) : Rr C' a ρ' n M K' gs := by
  obtain ⟨g1, g2, g3, g4, g5, g6, _⟩ := h
  refine ⟨?_, ?_, fun k hk => ?_, g4, ?_, hK, h7, h8, h9⟩
  · rw [hC0, hρ 0 (by omega) (by omega)]; exact g1
  · rw [hC0, hρ 1 (by omega) (by omega)]; exact g2
  · rw [hC1, hρ (4 + k) (by omega) (by omega)]; exact g3 k hk
  · rw [hC0, hρ 2 (by omega) (by omega)]; exact g5
/-- a plan is gone -/
theorem Rr.lose {C C' : Nat → Nat → Int32} {a : Nat} {ρ ρ' : Nat → Int32} {n M K p : Nat} {gs : Nat → Nat} (h : Rr C a ρ n M (K + 1) gs) (hp : p ≤ K) (hL : Ls C' C a p K) (hK : ρ' 3 = nI K) (hρ : ∀ t j, t < K → j < 25 → ρ' (16 + 25 * t + j) = ρ (16 + 25 * (if p ≤ t then t + 1 else t) + j)) (hρ0 : ∀ i, i < 16 → i ≠ 3 → ρ' i = ρ i) : Rr (am_up C' (a + 2) 0 (nI K)) a ρ' n M K gs := by
  have hh := h
  obtain ⟨g1, g2, g3, g4, g5, ⟨_, _, k4⟩, g7, g8, g9⟩ := h
  have ix : ∀ t, t < K → (if p ≤ t then t + 1 else t) < K + 1 := fun t ht => by split <;> omega
  have e : ∀ t, t < K → C' (a + 3) t = C (a + 3) (if p ≤ t then t + 1 else t) ∧ ∀ i, i < 12 → C' (a + 5 + t) i = C (a + 5 + (if p ≤ t then t + 1 else t)) i ∧ C' (a + 10 + t) i = C (a + 10 + (if p ≤ t then t + 1 else t)) i := by
    intro t ht
    obtain ⟨l1, l2⟩ := hL.1 t (by omega)
    by_cases q : p ≤ t
    · rw [if_pos ⟨q, ht⟩] at l1
      simp only [if_pos (show p ≤ t ∧ t < K from ⟨q, ht⟩)] at l2
      rw [if_pos q]
      exact ⟨l1, l2⟩
    · rw [if_neg (fun z => q z.1)] at l1
      simp only [if_neg (show ¬ (p ≤ t ∧ t < K) from fun z => q z.1)] at l2
      rw [if_neg q]
      exact ⟨l1, l2⟩
  have r0 : ∀ t, t < K → ρ' (16 + 25 * t) = ρ (16 + 25 * (if p ≤ t then t + 1 else t)) := fun t ht => hρ t 0 ht (by omega)
  have rs : ∀ t i, t < K → i < 12 → ρ' (16 + 25 * t + 1 + i) = ρ (16 + 25 * (if p ≤ t then t + 1 else t) + 1 + i) := fun t i ht hi => by
    have := hρ t (1 + i) ht (by omega)
    rw [← Nat.add_assoc, ← Nat.add_assoc] at this
    exact this
  have rw' : ∀ t i, t < K → i < 12 → ρ' (16 + 25 * t + 13 + i) = ρ (16 + 25 * (if p ≤ t then t + 1 else t) + 13 + i) := fun t i ht hi => by
    have := hρ t (13 + i) ht (by omega)
    rw [← Nat.add_assoc, ← Nat.add_assoc] at this
    exact this
  refine hh.pl ⟨am_up_eq, hK, by omega⟩ (fun t ht => ⟨?_, fun i hi => ?_⟩) (fun t i ht hi => ?_) (fun t u ht hu q => ?_) ?_ ?_ hρ0
  · rw [up_cell (by omega), (e t ht).1, r0 t ht]
    exact (g7 _ (ix t ht)).1
  · rw [up_cell (by omega), up_cell (by omega), ((e t ht).2 i hi).1, ((e t ht).2 i hi).2, rs t i ht hi, rw' t i ht hi]
    exact (g7 _ (ix t ht)).2 i hi
  · rw [rs t i ht hi, rw' t i ht hi]
    exact g8 _ i (ix t ht) hi
  · rw [r0 t ht, r0 u hu] at q
    have := g9 _ _ (ix t ht) (ix u hu) q
    split at this <;> split at this <;> omega
  · rw [up_cell (by omega)]; exact hL.2 a (by omega)
  · rw [up_cell (by omega)]; exact hL.2 (a + 1) (by omega)
/-- a plan comes -/
theorem Rr.plan {C C1 C2 : Nat → Nat → Int32} {a : Nat} {ρ ρ' : Nat → Int32} {n M K : Nat} {gs : Nat → Nat} {x : Int32} {w : Nat → Nat} (h : Rr C a ρ n M K gs) (hK : K < 4) (hno : ∀ p, p < K → ρ (16 + 25 * p) ≠ x) (hB : Bk C2 C a K M 12 x) (hw : ∀ i, i < M → C 226 i = nI (w i) ∧ w i ≤ 99) (hr : ρ' 3 = nI (K + 1)) (hr0 : ρ' (16 + 25 * K) = x) (hrs : ∀ i, i < 12 → ρ' (16 + 25 * K + 1 + i) = (if i < M then nI (gs i) else 0) ∧ ρ' (16 + 25 * K + 13 + i) = (if i < M then nI (w i) else 0)) (hρ : ∀ i, i < 16 + 25 * K → i ≠ 3 → ρ' i = ρ i) : Rr (am_up C2 (a + 2) 0 (nI (K + 1))) a ρ' n M (K + 1) gs := by
  have hh := h
  have hgs := h.gs
  obtain ⟨g1, g2, g3, g4, g5, ⟨_, _, k4⟩, g7, g8, g9⟩ := h
  obtain ⟨b1, b2, b3⟩ := hB
  have row : ∀ i, i < 12 → C2 (a + 5 + K) i = ρ' (16 + 25 * K + 1 + i) ∧ C2 (a + 10 + K) i = ρ' (16 + 25 * K + 13 + i) := fun i hi => by
    obtain ⟨s1, s2⟩ := b2 i hi
    obtain ⟨t1, t2⟩ := hrs i hi
    rw [s1, s2, t1, t2]
    by_cases q : i < M
    · rw [if_pos q, if_pos q, if_pos q, if_pos q]
      exact ⟨(hgs i q).1, (hw i q).1⟩
    · rw [if_neg q, if_neg q, if_neg q, if_neg q]
      exact ⟨rfl, rfl⟩
  refine hh.pl ⟨am_up_eq, hr, by omega⟩ (fun t ht => ?_) (fun t i ht hi => ?_) (fun t u ht hu q => ?_) ?_ ?_ (fun i hi hn => hρ i (by omega) hn)
  · by_cases e : t = K
    · subst e
      refine ⟨by rw [up_cell (by omega), b1, hr0], fun i hi => ?_⟩
      rw [up_cell (by omega), up_cell (by omega)]
      exact row i hi
    · obtain ⟨q1, q2⟩ := g7 t (by omega)
      refine ⟨by rw [up_cell (by omega), b3 _ _ (by omega) (by omega) (by omega), hρ _ (by omega) (by omega)]; exact q1, fun i hi => ?_⟩
      rw [up_cell (by omega), up_cell (by omega), b3 _ _ (by omega) (by omega) (by omega), b3 _ _ (by omega) (by omega) (by omega), hρ _ (by omega) (by omega), hρ _ (by omega) (by omega)]
      exact q2 i hi
  · by_cases e : t = K
    · subst e
      obtain ⟨t1, t2⟩ := hrs i hi
      rw [t1, t2]
      by_cases q : i < M
      · rw [if_pos q, if_pos q]
        exact ⟨gs i, w i, rfl, (hgs i q).2, rfl, (hw i q).2⟩
      · rw [if_neg q, if_neg q]
        exact ⟨0, 0, rfl, by omega, rfl, by omega⟩
    · rw [hρ _ (by omega) (by omega), hρ _ (by omega) (by omega)]
      exact g8 t i (by omega) hi
  · by_cases e1 : t = K <;> by_cases e2 : u = K
    · omega
    · rw [e1, hr0, hρ _ (by omega) (by omega)] at q
      exact absurd q.symm (hno u (by omega))
    · rw [e2, hr0, hρ _ (by omega) (by omega)] at q
      exact absurd q (hno t (by omega))
    · rw [hρ _ (by omega) (by omega), hρ _ (by omega) (by omega)] at q
      exact g9 t u (by omega) (by omega) q
  · rw [up_cell (by omega)]
    funext k
    exact b3 a k (by omega) (by omega) (by omega)
  · rw [up_cell (by omega)]
    funext k
    exact b3 (a + 1) k (by omega) (by omega) (by omega)
theorem lp_planAt {K : Nat} {x : Int32} (hK : I 237 3 = nI K) (h4 : K ≤ 4) : ∀ n k s, n + k = K → s = fo (lst (fun k => I 237 (16 + 25 * k)) x) (-4) k → am_u am_sh m_MD_planAt (Rt (.int (fo (lst (fun k => I 237 (16 + 25 * k)) x) (-4) K)) (I, J, am_Rf f g)) (am_at am_c_MD_planAt 5) 5 [some (.ref 236), some (.int x), some (.int s), some (.int (nI k))] [] (I, J, am_Rf f g) := by
  intro n
  induction n with
  | zero =>
    intro k s hk hs
    obtain rfl : k = K := by omega
    subst hs
    exact ⟨237, rfl, rfl, 116, 3, rfl, by omega, rfl, br_t (by rw [hK]; exact nI_le (by omega) (by omega)) (j_MD_planAt ⟨rfl, rfl⟩)⟩
  | succ n ih =>
    intro k s hk hs
    refine ⟨237, rfl, rfl, 116, 3, rfl, by omega, rfl, br_f (by rw [hK]; exact nI_ge (by omega) (by omega)) ⟨237, rfl, rfl, 116, 16 + 25 * k, rfl, by omega, by show nI 16 + nI 25 * nI k = _; rw [nI_mul, nI_add], fun h1 => j_MD_planAt (j_MD_planAt ?_), fun h1 => j_MD_planAt (j_MD_planAt ?_)⟩⟩
    · rw [show nI k + 1 = nI (k + 1) from nI_1 k]
      refine ih (k + 1) _ (by omega) ?_
      rw [fo_s, ← hs]
      unfold lst
      rw [if_neg h1]
    · rw [show nI k + 1 = nI (k + 1) from nI_1 k]
      refine ih (k + 1) _ (by omega) ?_
      rw [fo_s, ← hs]
      unfold lst
      rw [if_pos h1]
theorem ev_planAt {C : Nat → Nat → Int32} {a n M K : Nat} {gs : Nat → Nat} {x : Int32} (h : Rr C a (I 237) n M K gs) : am_ev am_sh m_MD_planAt [.ref 236, .int x] (I, J, am_Rf f g) (Rt (.int (oi4 (fi (fun k => decide (C (a + 3) k = x)) K))) (I, J, am_Rf f g)) := by
  obtain ⟨k1, k2, k3⟩ := h.2.2.2.2.2.1
  have e : fo (lst (fun k => I 237 (16 + 25 * k)) x) (-4) K = oi4 (fi (fun k => decide (C (a + 3) k = x)) K) := by
    rw [lst_fi]
    · congr 1
      have : ∀ m, m ≤ K → fi (fun k => decide (I 237 (16 + 25 * k) = x)) m = fi (fun k => decide (C (a + 3) k = x)) m := by
        intro m
        induction m with
        | zero => intro _; rfl
        | succ m ih =>
          intro hm
          simp only [fi, ih (by omega), (h.2.2.2.2.2.2.1 m (by omega)).1]
      exact this K (Nat.le_refl _)
    · intro i j hi hj e1 e2
      exact h.2.2.2.2.2.2.2.2 i j hi hj (e1.trans e2.symm)
  rw [← e]
  exact s_MD_planAt (j_MD_planAt (lp_planAt k2 k3 K 0 _ rfl rfl))
def drp (G : Nat → Int32) (p k : Nat) : Nat → Int32 := fun j => if 16 + 25 * p ≤ j ∧ j < 16 + k then G (j + 25) else G j
theorem lp_drops {K p : Nat} {q : am_Q} (hK : I 237 3 = nI K) (h4 : K < 4) (hp : p ≤ K) (hq : q none (am_row I 237 (drp (I 237) p (25 * K)), J, am_Rf f g)) : ∀ n k, n + k = 25 * K → 25 * p ≤ k → am_u am_sh m_MD_drops q (am_at am_c_MD_drops 15) 15 [some (.ref 236), some (.int (nI p)), some (.int (nI k))] [] (am_row I 237 (drp (I 237) p k), J, am_Rf f g) := by
  have e1 : ∀ k, am_row I 237 (drp (I 237) p k) 237 3 = nI K := fun k => by
    rw [am_row_eq]
    unfold drp
    rw [if_neg (by omega), hK]
  have e25 : ∀ k, (25 : Int32) * am_row I 237 (drp (I 237) p k) 237 3 = nI (25 * K) := fun k => by rw [e1]; exact nI_mul 25 K
  intro n
  induction n with
  | zero =>
    intro k hk hpk
    obtain rfl : k = 25 * K := by omega
    exact ⟨237, rfl, rfl, 116, 3, rfl, by omega, rfl, br_t (by rw [e25]; exact nI_le (by omega) (by omega)) (j_MD_drops hq)⟩
  | succ n ih =>
    intro k hk hpk
    refine ⟨237, rfl, rfl, 116, 3, rfl, by omega, rfl, br_f (by rw [e25]; exact nI_ge (by omega) (by omega)) ⟨237, rfl, rfl, 237, rfl, rfl, 116, 16 + k + 25, rfl, by omega, by show nI 16 + nI k + nI 25 = _; rw [nI_add, nI_add], 116, 16 + k, rfl, by omega, nI_add 16 k, j_MD_drops ?_⟩⟩
    have e : upd (drp (I 237) p k) (16 + k) (drp (I 237) p k (16 + k + 25)) = drp (I 237) p (k + 1) := by
      funext j
      by_cases e : j = 16 + k
      · subst e
        unfold upd drp
        rw [if_pos rfl, if_neg (by omega), if_pos (by omega)]
      · unfold upd drp
        rw [if_neg e]
        by_cases h1 : 16 + 25 * p ≤ j ∧ j < 16 + k
        · rw [if_pos h1, if_pos (by omega)]
        · rw [if_neg h1, if_neg (by omega)]
    rw [show nI k + 1 = nI (k + 1) from nI_1 k, am_up_row, am_row_eq, e]
    exact ih (k + 1) (by omega) (by omega)
theorem ev_drops {K p : Nat} (hK : I 237 3 = nI (K + 1)) (h4 : K < 4) (hp : p ≤ K) : am_ev am_sh m_MD_drops [.ref 236, .int (nI p)] (I, J, am_Rf f g) (Rv (am_row I 237 (drp (upd (I 237) 3 (nI K)) p (25 * K)), J, am_Rf f g)) := by
  refine s_MD_drops ⟨237, rfl, rfl, 116, 3, rfl, by omega, rfl, 116, 3, rfl, by omega, rfl, ?_⟩
  have e : (am_up I 237 3 (I 237 3 - 1)) = am_row I 237 (upd (I 237) 3 (nI K)) := by
    rw [hK, nI_pred, ← am_up_row, am_row_id]
  refine j_MD_drops ?_
  show am_u _ _ _ _ _ [_, _, some (.int (nI 25 * nI p))] _ (am_up I 237 3 (I 237 3 - 1), _, _)
  rw [e, nI_mul]
  have h := lp_drops (I := am_row I 237 (upd (I 237) 3 (nI K))) (f := f) (g := g) (J := J) (K := K) (p := p) (q := Rv (am_row I 237 (drp (upd (I 237) 3 (nI K)) p (25 * K)), J, am_Rf f g)) ?_ h4 hp ?_ (25 * K - 25 * p) (25 * p) (by omega) (Nat.le_refl _)
  · have e2 : drp (am_row I 237 (upd (I 237) 3 (nI K)) 237) p (25 * p) = am_row I 237 (upd (I 237) 3 (nI K)) 237 := by
      funext j
      unfold drp
      rw [if_neg (by omega)]
    rw [e2, am_row_id] at h
    exact h
  · rw [am_row_eq]
    exact if_pos rfl
  · refine ⟨rfl, ?_⟩
    have : ∀ G H : Nat → Int32, am_row (am_row I 237 G) 237 H = am_row I 237 H := fun G H => by
      funext c j
      unfold am_row
      by_cases h : c = 237 <;> simp [h]
    rw [this]
    have e3 : am_row I 237 (upd (I 237) 3 (nI K)) 237 = upd (I 237) 3 (nI K) := by
      funext j
      rw [am_row_eq]
    rw [e3]
end T19
