/-! a group comes, a group goes -/
section T3
variable {f g : Nat → Nat} {I : Nat → Nat → Int32} {J : Nat → Nat → Int64}
theorem Rr.grp {C C' : Nat → Nat → Int32} {a : Nat} {ρ ρ' : Nat → Int32} {n M K n' M' : Nat} {gs gs' : Nat → Nat} (h : Rr C a ρ n M K gs) (hn : C' a 0 = nI n' ∧ ρ' 0 = nI n' ∧ 1 ≤ n' ∧ n' ≤ 7) (hM : C' a 1 = nI M' ∧ ρ' 1 = nI M' ∧ M' ≤ 12) (hg : ∀ k, k < M' → C' (a + 1) k = nI (gs' k) ∧ ρ' (4 + k) = nI (gs' k) ∧ 1 ≤ gs' k ∧ gs' k < 2 ^ n') (hd : ∀ i j, i < M' → j < M' → gs' i = gs' j → i = j) (hC : ∀ c k, a ≤ c → c ≤ a + 13 → c ≠ a + 1 → ¬ (c = a ∧ (k = 0 ∨ k = 1)) → C' c k = C c k) (hρ : ∀ i, i < 116 → i ≠ 0 → i ≠ 1 → ¬ (4 ≤ i ∧ i < 16) → ρ' i = ρ i) : Rr C' a ρ' n' M' K gs' := by
  obtain ⟨h1, h2, h3, h4, h5, h6, h7, h8, h9⟩ := h
  refine ⟨hn, hM, hg, hd, ?_, ?_, fun p hp => ?_, fun p i hp hi => ?_, fun p q hp hq => ?_⟩
  · rw [hC a 3 (by omega) (by omega) (by omega) (by omega), hρ 2 (by omega) (by omega) (by omega) (by omega)]; exact h5
  · rw [hC (a + 2) 0 (by omega) (by omega) (by omega) (by omega), hρ 3 (by omega) (by omega) (by omega) (by omega)]; exact h6
  · obtain ⟨g1, g2⟩ := h7 p hp
    refine ⟨by rw [hC (a + 3) p (by omega) (by omega) (by omega) (by omega), hρ (16 + 25 * p) (by omega) (by omega) (by omega) (by omega)]; exact g1, fun i hi => ?_⟩
    rw [hC (a + 5 + p) i (by omega) (by omega) (by omega) (by omega), hC (a + 10 + p) i (by omega) (by omega) (by omega) (by omega), hρ (16 + 25 * p + 1 + i) (by omega) (by omega) (by omega) (by omega), hρ (16 + 25 * p + 13 + i) (by omega) (by omega) (by omega) (by omega)]
    exact g2 i hi
  · rw [hρ (16 + 25 * p + 1 + i) (by omega) (by omega) (by omega) (by omega), hρ (16 + 25 * p + 13 + i) (by omega) (by omega) (by omega) (by omega)]; exact h8 p i hp hi
  · rw [hρ (16 + 25 * p) (by omega) (by omega) (by omega) (by omega), hρ (16 + 25 * q) (by omega) (by omega) (by omega) (by omega)]; exact h9 p q hp hq
/-- the last one found is the first one found, where none comes twice -/
theorem lst_fi {G : Nat → Int32} {x : Int32} {M : Nat} (hd : ∀ i j, i < M → j < M → G i = x → G j = x → i = j) : fo (lst G x) (-4) M = oi4 (fi (fun k => decide (G k = x)) M) := by
  cases e : fi (fun k => decide (G k = x)) M with
  | none =>
    have h := fi_none.mp e
    have key : ∀ m, m ≤ M → fo (lst G x) (-4) m = -4 := by
      intro m
      induction m with
      | zero => intro _; rfl
      | succ m ih =>
        intro hm
        rw [fo_s, ih (by omega)]
        unfold lst
        rw [if_neg (of_decide_eq_false (h m (by omega)))]
    exact key M (Nat.le_refl _)
  | some k =>
    obtain ⟨h1, h2, h3⟩ := fi_some e
    have h2 := of_decide_eq_true h2
    have key : ∀ m, m ≤ M → fo (lst G x) (-4) m = if k < m then nI k else -4 := by
      intro m
      induction m with
      | zero => intro _; rfl
      | succ m ih =>
        intro hm
        rw [fo_s, ih (by omega)]
        unfold lst
        by_cases hx : G m = x
        · have := hd m k (by omega) h1 hx h2
          subst this
          rw [if_pos hx, if_pos (by omega)]
        · rw [if_neg hx]
          by_cases hk : k < m
          · rw [if_pos hk, if_pos (by omega)]
          · have : k ≠ m := fun e => hx (e ▸ h2)
            rw [if_neg hk, if_neg (by omega)]
    rw [key M (Nat.le_refl _), if_pos h1]
    rfl
theorem Rr.find {C : Nat → Nat → Int32} {a n M K : Nat} {ρ : Nat → Int32} {gs : Nat → Nat} (h : Rr C a ρ n M K gs) (x : Int32) : fo (lst (fun k => ρ (4 + k)) x) (-4) M = oi4 (fi (fun k => decide (C (a + 1) k = x)) M) := by
  have h7 := pow_le7 (n := n) (by have := h.1.2.2.2; omega)
  rw [lst_fi]
  · congr 1
    have : ∀ m, m ≤ M → fi (fun k => decide (ρ (4 + k) = x)) m = fi (fun k => decide (C (a + 1) k = x)) m := by
      intro m
      induction m with
      | zero => intro _; rfl
      | succ m ih =>
        intro hm
        obtain ⟨g1, g2, _⟩ := h.2.2.1 m (by omega)
        simp only [fi, ih (by omega), g1, g2]
    exact this M (Nat.le_refl _)
  · intro i j hi hj e1 e2
    have g1 := h.2.2.1 i hi
    have g2 := h.2.2.1 j hj
    exact h.2.2.2.1 i j hi hj ((nI_eq (by omega) (by omega)).mp (by rw [← g1.2.1, ← g2.2.1]; exact e1.trans e2.symm))
theorem oi4_neg {r : Option Nat} (h : ∀ k, r = some k → k < 2 ^ 31) : oi4 r < 0 ↔ r = none := by
  cases r with
  | none => exact ⟨fun _ => rfl, fun _ => by decide⟩
  | some k => exact ⟨fun q => absurd q (nI_pos (h k rfl)), fun q => by cases q⟩
theorem fi_lt {P : Nat → Bool} {M : Nat} (hM : M ≤ 12) : ∀ k, fi P M = some k → k < 2 ^ 31 := fun k hk => by have := (fi_some hk).1; omega
theorem set_of {n : Nat} {x : Int32} (h8 : n < 8) (h : 0 < x ∧ x ≤ nI (2 ^ n - 1)) : ∃ s, x = nI s ∧ 1 ≤ s ∧ s < 2 ^ n := by
  have h7 := pow_le7 h8
  obtain ⟨s, hs, rfl⟩ := nI_of (x := x) (fun q => Int32.lt_irrefl (Int32.lt_trans h.1 q))
  have h1 := (nI_leI hs (by omega)).mp h.2
  have h2 : 0 < s := (nI_ltI (a := 0) (by omega) hs).mp h.1
  exact ⟨s, rfl, h2, by omega⟩
theorem one_le {x : Int32} : 1 ≤ x ↔ 0 < x := by
  rw [Int32.le_iff_toInt_le, Int32.lt_iff_toInt_lt]
  rw [show (1 : Int32).toInt = 1 from rfl, show (0 : Int32).toInt = 0 from rfl]
  omega
theorem in64 (x lo hi : Int32) : decide (lo.toInt64 ≤ x.toInt64 ∧ x.toInt64 ≤ hi.toInt64) = decide (lo ≤ x ∧ x ≤ hi) := by
  rw [decide_eq_decide, l64, l64]
theorem ev_in32 (x lo hi : Int32) (σ : am_S) : am_ev am_sh m_MD_in [.long x.toInt64, .long lo.toInt64, .long hi.toInt64] σ (Rt (.int (b2i (decide (lo ≤ x ∧ x ≤ hi)))) σ) := by
  rw [← in64]
  exact ev_in _ _ _ _
theorem ev_comes {M : Nat} (hM : I 237 1 = nI M) (h12 : M < 12) (x : Int32) : am_ev am_sh m_MD_comes [.ref 236, .int x] (I, J, am_Rf f g) (Rv (am_up (am_up I 237 (4 + M) x) 237 1 (nI (M + 1)), J, am_Rf f g)) := by
  refine s_MD_comes ⟨237, rfl, rfl, 237, rfl, rfl, 116, 1, rfl, by omega, rfl, 116, 4 + M, rfl, by omega, by rw [hM]; exact i4 M, 237, rfl, rfl, 116, 1, rfl, by omega, rfl, 116, 1, rfl, by omega, rfl, rfl, ?_⟩
  show (am_up _ 237 1 (am_up I 237 (4 + M) x 237 1 + 1), _, _) = _
  rw [am_up_ne (by omega), hM, nI_1]
def rmr (G : Nat → Int32) (p k : Nat) : Nat → Int32 := fun j => if 4 + p ≤ j ∧ j < 4 + k then G (j + 1) else G j
theorem lp_goes {M p : Nat} {q : am_Q} (hM : I 237 1 = nI M) (h12 : M < 12) (hp : p ≤ M) (hq : q none (am_row I 237 (rmr (I 237) p M), J, am_Rf f g)) : ∀ n k, n + k = M → p ≤ k → am_u am_sh m_MD_goes q (am_at am_c_MD_goes 12) 12 [some (.ref 236), some (.int (nI p)), some (.int (nI k))] [] (am_row I 237 (rmr (I 237) p k), J, am_Rf f g) := by
  have e1 : ∀ k, am_row I 237 (rmr (I 237) p k) 237 1 = nI M := fun k => by
    rw [am_row_eq]
    unfold rmr
    rw [if_neg (by omega), hM]
  intro n
  induction n with
  | zero =>
    intro k hk hpk
    obtain rfl : k = M := by omega
    exact ⟨237, rfl, rfl, 116, 1, rfl, by omega, rfl, br_t (by rw [e1]; exact nI_le (by omega) (by omega)) (j_MD_goes hq)⟩
  | succ n ih =>
    intro k hk hpk
    refine ⟨237, rfl, rfl, 116, 1, rfl, by omega, rfl, br_f (by rw [e1]; exact nI_ge (by omega) (by omega)) ⟨237, rfl, rfl, 237, rfl, rfl, 116, 4 + k + 1, rfl, by omega, by rw [i4, nI_1], 116, 4 + k, rfl, by omega, i4 k, j_MD_goes ?_⟩⟩
    have e : upd (rmr (I 237) p k) (4 + k) (rmr (I 237) p k (4 + k + 1)) = rmr (I 237) p (k + 1) := by
      funext j
      by_cases e : j = 4 + k
      · subst e
        unfold upd rmr
        rw [if_pos rfl, if_neg (by omega), if_pos (by omega)]
      · unfold upd rmr
        rw [if_neg e]
        by_cases h1 : 4 + p ≤ j ∧ j < 4 + k
        · rw [if_pos h1, if_pos (by omega)]
        · rw [if_neg h1, if_neg (by omega)]
    rw [show nI k + 1 = nI (k + 1) from nI_1 k, am_up_row, am_row_eq, e]
    exact ih (k + 1) (by omega) (by omega)
theorem ev_goes {M p : Nat} (hM : I 237 1 = nI (M + 1)) (h12 : M < 12) (hp : p ≤ M) : am_ev am_sh m_MD_goes [.ref 236, .int (nI p)] (I, J, am_Rf f g) (Rv (am_row I 237 (rmr (upd (I 237) 1 (nI M)) p M), J, am_Rf f g)) := by
  refine s_MD_goes ⟨237, rfl, rfl, 116, 1, rfl, by omega, rfl, 116, 1, rfl, by omega, rfl, ?_⟩
  have e : (am_up I 237 1 (I 237 1 - 1)) = am_row I 237 (upd (I 237) 1 (nI M)) := by
    rw [hM, nI_pred, ← am_up_row, am_row_id]
  refine j_MD_goes ?_
  show am_u _ _ _ _ _ _ _ (am_up I 237 1 (I 237 1 - 1), _, _)
  rw [e]
  have h := lp_goes (I := am_row I 237 (upd (I 237) 1 (nI M))) (f := f) (g := g) (J := J) (M := M) (p := p) (q := Rv (am_row I 237 (rmr (upd (I 237) 1 (nI M)) p M), J, am_Rf f g)) ?_ h12 hp ?_ (M - p) p (by omega) (Nat.le_refl _)
  · have e2 : rmr (am_row I 237 (upd (I 237) 1 (nI M)) 237) p p = am_row I 237 (upd (I 237) 1 (nI M)) 237 := by
      funext j
      unfold rmr
      rw [if_neg (by omega)]
    rw [e2, am_row_id] at h
    exact h
  · rw [am_row_eq]
    exact if_pos rfl
  · refine ⟨rfl, ?_⟩
    have : ∀ G H : Nat → Int32, am_row (am_row I 237 G) 237 H = am_row I 237 H := fun G H => by
      funext c j
      unfold am_row
      by_cases h : c = 237 <;> simp [h]
    rw [this]
    have e3 : am_row I 237 (upd (I 237) 1 (nI M)) 237 = upd (I 237) 1 (nI M) := by
      funext j
      rw [am_row_eq]
    rw [e3]
end T3
