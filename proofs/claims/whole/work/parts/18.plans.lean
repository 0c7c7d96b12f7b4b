/-! the class's Plans; a State becomes another -/
theorem cpy0 {f g : Nat → Int32} {n k : Nat} : va_cpy f g 0 0 n k = if k < n then f k else g k := by
  unfold va_cpy
  by_cases h : k < n
  · rw [if_pos ⟨Nat.zero_le _, by omega⟩, if_pos h, Nat.zero_add, Nat.sub_zero]
  · rw [if_neg (by omega), if_neg h]
theorem am_up_ne {α : Type} {I : Nat → Nat → α} {a k b j : Nat} {v : α} (h : ¬ (b = a ∧ j = k)) : am_up I a k v b j = I b j := by simp [am_up, h]
theorem am_up_eq {α : Type} {I : Nat → Nat → α} {a k : Nat} {v : α} : am_up I a k v a k = v := by simp [am_up]
/-- the same in two States -/
def Cp (I' : Nat → Nat → Int32) (a : Nat) (I : Nat → Nat → Int32) (b : Nat) : Prop := (I' a 0 = I b 0 ∧ I' a 1 = I b 1 ∧ I' a 3 = I b 3) ∧ (∀ k, k < 12 → I' (a + 1) k = I (b + 1) k) ∧ I' (a + 2) 0 = I (b + 2) 0 ∧ ∀ t, t < 4 → I' (a + 3) t = I (b + 3) t ∧ ∀ k, k < 12 → I' (a + 5 + t) k = I (b + 5 + t) k ∧ I' (a + 10 + t) k = I (b + 10 + t) k
/-- nothing but the State at a has changed -/
def Fr (a : Nat) (I' I : Nat → Nat → Int32) : Prop := ∀ c, ¬ (a ≤ c ∧ c ≤ a + 13) → I' c = I c
section PLANS
variable {f g : Nat → Nat} {a b : Nat} {I : Nat → Nat → Int32} {J : Nat → Nat → Int64}
/-- plan t becomes plan u of another -/
def Mv (I' I : Nat → Nat → Int32) (a t b u : Nat) : Prop := I' (a + 3) t = I (b + 3) u ∧ (∀ k, k < 12 → I' (a + 5 + t) k = I (b + 5 + u) k) ∧ (∀ k, k < 12 → I' (a + 10 + t) k = I (b + 10 + u) k) ∧ ∀ c k, ¬ (c = a + 3 ∧ k = t) → c ≠ a + 5 + t → c ≠ a + 10 + t → I' c k = I c k
theorem ev_moveIn {t u : Nat} (hS : St f g a) (hT : St f g b) (ht : t < 4) (hu : u < 4) (hab : a = b ∨ a + 13 < b ∨ b + 13 < a) : am_ev am_sh m_Pl_moveIn [.ref (a + 2), .int (nI t), .ref (b + 2), .int (nI u)] (I, J, am_Rf f g) (fun r σ' => r = none ∧ ∃ I', σ' = (I', J, am_Rf f g) ∧ Mv I' I a t b u) := by
  have pS := hS.2.2.2.2.2.2 t ht
  have pT := hT.2.2.2.2.2.2 u hu
  refine s_Pl_moveIn ⟨a + 3, hS.2.2.1.1, hS.2.2.1.2.1, b + 3, hT.2.2.1.1, hT.2.2.1.2.1, 4, u, hT.2.2.2.1, hu, rfl, 4, t, hS.2.2.2.1, ht, rfl, b + 4, hT.2.2.1.1, hT.2.2.1.2.2.1, 4, u, hT.2.2.2.2.1, hu, rfl, b + 5 + u, pT.1.1, a + 4, hS.2.2.1.1, hS.2.2.1.2.2.1, 4, t, hS.2.2.2.2.1, ht, rfl, a + 5 + t, pS.1.1, 12, 12, 0, 0, 12, pT.1.2, pS.1.2, Nat.le_refl _, Nat.le_refl _, rfl, rfl, rfl, ?_⟩
  refine ⟨b + 9, hT.2.2.1.1, hT.2.2.1.2.2.2, 4, u, hT.2.2.2.2.2.1, hu, rfl, b + 10 + u, pT.2.1, a + 9, hS.2.2.1.1, hS.2.2.1.2.2.2, 4, t, hS.2.2.2.2.2.1, ht, rfl, a + 10 + t, pS.2.1, 12, 12, 0, 0, 12, pT.2.2, pS.2.2, Nat.le_refl _, Nat.le_refl _, rfl, rfl, rfl, ?_⟩
  refine ⟨rfl, _, rfl, ?_, fun k hk => ?_, fun k hk => ?_, fun c k h1 h2 h3 => ?_⟩
  · rw [am_row_ne (by omega), am_row_ne (by omega), am_up_eq]
  · rw [am_row_ne (by omega), am_row_eq, cpy0, if_pos hk, am_up_ne (by omega)]
  · rw [am_row_eq, cpy0, if_pos hk, am_row_ne (by omega), am_up_ne (by omega)]
  · rw [am_row_ne h3, am_row_ne h2, am_up_ne h1]
/-- all plans so far -/
def Ba (I' I : Nat → Nat → Int32) (a b p : Nat) : Prop := I' (a + 2) 0 = I (b + 2) 0 ∧ (∀ t, t < p → I' (a + 3) t = I (b + 3) t ∧ ∀ k, k < 12 → I' (a + 5 + t) k = I (b + 5 + t) k ∧ I' (a + 10 + t) k = I (b + 10 + t) k) ∧ ∀ c, ¬ (a + 2 ≤ c ∧ c ≤ a + 13) → I' c = I c
theorem lp_becomeAll (hS : St f g a) (hT : St f g b) (hab : a + 13 < b ∨ b + 13 < a) : ∀ n p (I' : Nat → Nat → Int32), n + p = 4 → Ba I' I a b p → am_u am_sh m_Pl_becomeAll (fun r σ' => r = none ∧ ∃ I', σ' = (I', J, am_Rf f g) ∧ Ba I' I a b 4) (am_at am_c_Pl_becomeAll 10) 10 [some (.ref (a + 2)), some (.ref (b + 2)), some (.int (nI p))] [] (I', J, am_Rf f g) := by
  intro n
  induction n with
  | zero =>
    intro p I' hp hB
    obtain rfl : p = 4 := by omega
    exact br_t (by decide) (j_Pl_becomeAll ⟨rfl, I', rfl, hB⟩)
  | succ n ih =>
    intro p I' hp hB
    refine br_f (nI_ge (a := p) (b := 4) (by omega) (by omega)) ⟨hS.2.2.1.1, (ev_moveIn hS hT (by omega) (by omega) (by omega)).mono ?_⟩
    rintro r σ' ⟨rfl, I2, rfl, m1, m2, m3, m4⟩
    refine j_Pl_becomeAll ?_
    rw [show nI p + 1 = nI (p + 1) from nI_1 p]
    obtain ⟨b1, b2, b3⟩ := hB
    refine ih (p + 1) I2 (by omega) ⟨?_, fun t ht => ?_, fun c hc => ?_⟩
    · rw [m4 _ _ (by omega) (by omega) (by omega), b1]
    · by_cases e : t = p
      · subst e
        refine ⟨by rw [m1, b3 _ (by omega)], fun k hk => ⟨by rw [m2 k hk, b3 _ (by omega)], by rw [m3 k hk, b3 _ (by omega)]⟩⟩
      · obtain ⟨g1, g2⟩ := b2 t (by omega)
        refine ⟨by rw [m4 _ _ (by omega) (by omega) (by omega), g1], fun k hk => ?_⟩
        rw [m4 _ _ (by omega) (by omega) (by omega), m4 _ _ (by omega) (by omega) (by omega)]
        exact g2 k hk
    · funext k
      rw [m4 _ _ (by omega) (by omega) (by omega), b3 c hc]
theorem ev_becomeAll (hS : St f g a) (hT : St f g b) (hab : a + 13 < b ∨ b + 13 < a) : am_ev am_sh m_Pl_becomeAll [.ref (a + 2), .ref (b + 2)] (I, J, am_Rf f g) (fun r σ' => r = none ∧ ∃ I', σ' = (I', J, am_Rf f g) ∧ Ba I' I a b 4) := by
  refine s_Pl_becomeAll ⟨hT.2.2.1.1, hS.2.2.1.1, ?_⟩
  refine j_Pl_becomeAll (lp_becomeAll hS hT hab 4 0 _ rfl ⟨am_up_eq, fun t ht => by omega, fun c hc => ?_⟩)
  funext k
  rw [am_up_ne (by omega)]
theorem ev_becomes (hS : St f g a) (hT : St f g b) (hab : a + 13 < b ∨ b + 13 < a) : am_ev am_sh m_St_becomes [.ref a, .ref b] (I, J, am_Rf f g) (fun r σ' => r = none ∧ ∃ I', σ' = (I', J, am_Rf f g) ∧ Cp I' a I b ∧ Fr a I' I) := by
  refine s_St_becomes ⟨hT.1.1, hS.1.1, hT.1.1, hS.1.1, hT.1.1, hS.1.1, b + 1, hT.1.1, hT.1.2.1, a + 1, hS.1.1, hS.1.2.1, 12, 12, 0, 0, 12, hT.2.1, hS.2.1, Nat.le_refl _, Nat.le_refl _, rfl, rfl, rfl, a + 2, hS.1.1, hS.1.2.2, b + 2, hT.1.1, hT.1.2.2, hS.2.2.1.1, (ev_becomeAll hS hT hab).mono ?_⟩
  rintro r σ' ⟨rfl, I2, rfl, b1, b2, b3⟩
  refine ⟨rfl, I2, rfl, ⟨⟨?_, ?_, ?_⟩, fun k hk => ?_, ?_, fun t ht => ?_⟩, fun c hc => ?_⟩
  · rw [b3 _ (by omega), am_row_ne (by omega), am_up_ne (by omega), am_up_ne (by omega), am_up_eq]
  · rw [b3 _ (by omega), am_row_ne (by omega), am_up_ne (by omega), am_up_eq, am_up_ne (by omega)]
  · rw [b3 _ (by omega), am_row_ne (by omega), am_up_eq, am_up_ne (by omega), am_up_ne (by omega)]
  · rw [b3 _ (by omega), am_row_eq, cpy0, if_pos hk, am_up_ne (by omega), am_up_ne (by omega), am_up_ne (by omega)]
  · rw [b1, am_row_ne (by omega), am_up_ne (by omega), am_up_ne (by omega), am_up_ne (by omega)]
  · obtain ⟨g1, g2⟩ := b2 t ht
    refine ⟨?_, fun k hk => ?_⟩
    · rw [g1, am_row_ne (by omega), am_up_ne (by omega), am_up_ne (by omega), am_up_ne (by omega)]
    · rw [(g2 k hk).1, (g2 k hk).2, am_row_ne (by omega), am_up_ne (by omega), am_up_ne (by omega), am_up_ne (by omega), am_row_ne (by omega), am_up_ne (by omega), am_up_ne (by omega), am_up_ne (by omega)]
      exact ⟨rfl, rfl⟩
  · funext k
    rw [b3 _ (by omega), am_row_ne (by omega), am_up_ne (by omega), am_up_ne (by omega), am_up_ne (by omega)]
/-! the plans' own searches -/
theorem lp_plPlaceOf {M : Nat} (hS : St f g a) (hM : I (a + 2) 0 = nI M) (h4 : M ≤ 4) (x : Int32) : ∀ n k, n + k = M → (∀ j, j < k → decide (I (a + 3) j = x) = false) → am_u am_sh m_Pl_placeOf (Rt (.int (oi (fi (fun k => decide (I (a + 3) k = x)) M))) (I, J, am_Rf f g)) (am_at am_c_Pl_placeOf 2) 2 [some (.ref (a + 2)), some (.int x), some (.int (nI k))] [] (I, J, am_Rf f g) := by
  intro n
  induction n with
  | zero =>
    intro k hk h0
    refine ⟨hS.2.2.1.1, br_t (by rw [hM]; exact nI_le (by omega) (by omega)) (j_Pl_placeOf ?_)⟩
    refine ⟨?_, rfl⟩
    rw [fi_none.mpr (fun j hj => h0 j (by omega))]
    rfl
  | succ n ih =>
    intro k hk h0
    refine ⟨hS.2.2.1.1, br_f (by rw [hM]; exact nI_ge (by omega) (by omega)) ?_⟩
    refine ⟨a + 3, hS.2.2.1.1, hS.2.2.1.2.1, 4, k, hS.2.2.2.1, by omega, rfl, fun h1 => ?_, fun h1 => ?_⟩
    · refine j_Pl_placeOf (j_Pl_placeOf ?_)
      rw [show nI k + 1 = nI (k + 1) from nI_1 k]
      refine ih (k + 1) (by omega) (fun j hj => ?_)
      by_cases e : j = k
      · subst e; exact decide_eq_false h1
      · exact h0 j (by omega)
    · refine ⟨?_, rfl⟩
      rw [fi_hit h0 (decide_eq_true h1) (by omega)]
      rfl
theorem ev_plPlaceOf {M : Nat} (hS : St f g a) (hM : I (a + 2) 0 = nI M) (h4 : M ≤ 4) (x : Int32) : am_ev am_sh m_Pl_placeOf [.ref (a + 2), .int x] (I, J, am_Rf f g) (Rt (.int (oi (fi (fun k => decide (I (a + 3) k = x)) M))) (I, J, am_Rf f g)) := s_Pl_placeOf (j_Pl_placeOf (lp_plPlaceOf hS hM h4 x M 0 rfl (fun _ h => by omega)))
/-- plan p is lost, those behind move up: p .. k less 1 are done -/
def Ls (I' I : Nat → Nat → Int32) (a p k : Nat) : Prop := (∀ t, t < 4 → I' (a + 3) t = (if p ≤ t ∧ t < k then I (a + 3) (t + 1) else I (a + 3) t) ∧ ∀ i, i < 12 → I' (a + 5 + t) i = (if p ≤ t ∧ t < k then I (a + 5 + (t + 1)) i else I (a + 5 + t) i) ∧ I' (a + 10 + t) i = (if p ≤ t ∧ t < k then I (a + 10 + (t + 1)) i else I (a + 10 + t) i)) ∧ ∀ c, ¬ (a + 3 ≤ c ∧ c ≤ a + 13) → I' c = I c
theorem lp_lose {M p : Nat} (hS : St f g a) (hM : I (a + 2) 0 = nI M) (h4 : M ≤ 4) (hp : p < M) : ∀ n k (I' : Nat → Nat → Int32), n + k + 1 = M → p ≤ k → Ls I' I a p k → am_u am_sh m_Pl_lose (fun r σ' => r = none ∧ ∃ I', σ' = (am_up I' (a + 2) 0 (nI (M - 1)), J, am_Rf f g) ∧ Ls I' I a p (M - 1)) (am_at am_c_Pl_lose 4) 4 [some (.ref (a + 2)), some (.int (nI p)), some (.int (nI (k + 1)))] [] (I', J, am_Rf f g) := by
  intro n
  induction n with
  | zero =>
    intro k I' hk hpk hL
    obtain rfl : k = M - 1 := by omega
    have hm : I' (a + 2) 0 = nI M := by rw [hL.2 _ (by omega), hM]
    refine ⟨hS.2.2.1.1, br_t (by rw [hm]; exact nI_le (by omega) (by omega)) (j_Pl_lose ?_)⟩
    refine ⟨hS.2.2.1.1, hS.2.2.1.1, rfl, I', ?_, hL⟩
    rw [hm, show nI M - 1 = nI (M - 1) by rw [show M = (M - 1) + 1 by omega]; exact nI_pred _]
  | succ n ih =>
    intro k I' hk hpk hL
    have hm : I' (a + 2) 0 = nI M := by rw [hL.2 _ (by omega), hM]
    refine ⟨hS.2.2.1.1, br_f (by rw [hm]; exact nI_ge (by omega) (by omega)) ⟨hS.2.2.1.1, ?_⟩⟩
    rw [show nI (k + 1) - 1 = nI k from nI_pred k]
    refine (ev_moveIn (t := k) (u := k + 1) hS hS (by omega) (by omega) (Or.inl rfl)).mono ?_
    rintro r σ' ⟨rfl, I2, rfl, m1, m2, m3, m4⟩
    refine j_Pl_lose ?_
    rw [show nI (k + 1) + 1 = nI (k + 1 + 1) from nI_1 (k + 1)]
    obtain ⟨l1, l2⟩ := hL
    refine ih (k + 1) I2 (by omega) (by omega) ⟨fun t ht => ?_, fun c hc => ?_⟩
    · by_cases e : t = k
      · subst e
        obtain ⟨g1, g2⟩ := l1 (t + 1) (by omega)
        refine ⟨?_, fun i hi => ⟨?_, ?_⟩⟩
        · rw [m1, g1, if_neg (by omega), if_pos ⟨hpk, by omega⟩]
        · rw [m2 i hi, (g2 i hi).1, if_neg (by omega), if_pos ⟨hpk, by omega⟩]
        · rw [m3 i hi, (g2 i hi).2, if_neg (by omega), if_pos ⟨hpk, by omega⟩]
      · obtain ⟨g1, g2⟩ := l1 t ht
        have e2 : (p ≤ t ∧ t < k) ↔ (p ≤ t ∧ t < k + 1) := by omega
        refine ⟨?_, fun i hi => ⟨?_, ?_⟩⟩
        · rw [m4 _ _ (by omega) (by omega) (by omega), g1]; simp only [e2]
        · rw [m4 _ _ (by omega) (by omega) (by omega), (g2 i hi).1]; simp only [e2]
        · rw [m4 _ _ (by omega) (by omega) (by omega), (g2 i hi).2]; simp only [e2]
    · funext i
      rw [m4 _ _ (by omega) (by omega) (by omega), l2 c hc]
theorem ev_lose {M p : Nat} (hS : St f g a) (hM : I (a + 2) 0 = nI M) (h4 : M ≤ 4) (hp : p < M) : am_ev am_sh m_Pl_lose [.ref (a + 2), .int (nI p)] (I, J, am_Rf f g) (fun r σ' => r = none ∧ ∃ I', σ' = (am_up I' (a + 2) 0 (nI (M - 1)), J, am_Rf f g) ∧ Ls I' I a p (M - 1)) := by
  refine s_Pl_lose (j_Pl_lose ?_)
  rw [nI_1]
  refine lp_lose hS hM h4 hp (M - 1 - p) p I (by omega) (Nat.le_refl _) ⟨fun t ht => ?_, fun c _ => rfl⟩
  refine ⟨by rw [if_neg (by omega)], fun i hi => ⟨by rw [if_neg (by omega)], by rw [if_neg (by omega)]⟩⟩
end PLANS
