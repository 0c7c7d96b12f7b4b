/-! the class's State: searches and sums over the groups -/
/-- the first place -/
def fi (P : Nat → Bool) : Nat → Option Nat
  | 0 => none
  | n + 1 => match fi P n with
    | some k => some k
    | none => if P n = true then some n else none
def oi (r : Option Nat) : Int32 := match r with
  | some k => nI k
  | none => -1
theorem fi_none {P : Nat → Bool} : ∀ {n : Nat}, fi P n = none ↔ ∀ k, k < n → P k = false
  | 0 => by simp [fi]
  | n + 1 => by
    unfold fi
    cases h : fi P n with
    | some k =>
      simp only [reduceCtorEq, false_iff]
      intro q
      have : fi P n = none := fi_none.mpr (fun k hk => q k (by omega))
      rw [this] at h
      cases h
    | none =>
      have h1 := fi_none.mp h
      cases hp : P n with
      | true =>
        simp only [if_true, reduceCtorEq, false_iff]
        intro q
        rw [q n (by omega)] at hp
        cases hp
      | false =>
        simp only [Bool.false_eq_true, if_false, true_iff]
        intro k hk
        by_cases e : k = n
        · subst e; exact hp
        · exact h1 k (by omega)
theorem fi_hit {P : Nat → Bool} {k : Nat} (h : ∀ j, j < k → P j = false) (hk : P k = true) : ∀ {n : Nat}, k < n → fi P n = some k
  | 0, h0 => by omega
  | n + 1, h0 => by
    unfold fi
    by_cases e : k = n
    · subst e
      rw [fi_none.mpr h]
      simp [hk]
    · rw [fi_hit h hk (n := n) (by omega)]
theorem fi_some {P : Nat → Bool} : ∀ {n k : Nat}, fi P n = some k → k < n ∧ P k = true ∧ ∀ j, j < k → P j = false
  | 0, k, h => by simp [fi] at h
  | n + 1, k, h => by
    unfold fi at h
    cases h1 : fi P n with
    | some j =>
      rw [h1] at h
      cases h
      obtain ⟨g1, g2, g3⟩ := fi_some h1
      exact ⟨by omega, g2, g3⟩
    | none =>
      rw [h1] at h
      cases hp : P n with
      | true =>
        simp [hp] at h
        subst h
        exact ⟨by omega, hp, fi_none.mp h1⟩
      | false => simp [hp] at h
theorem nbq {k p : Nat} (h : ¬ k = p) : Nat.beq k p = false := by
  cases e : Nat.beq k p with
  | false => rfl
  | true => exact absurd (Nat.eq_of_beq_eq_true e) h
section STATE2
variable {f g : Nat → Nat} {a : Nat} {I : Nat → Nat → Int32} {J : Nat → Nat → Int64}
theorem ev_isSet {n : Nat} (hS : St f g a) (hn : I a 0 = nI n) (h8 : n < 8) (x : Int32) : am_ev am_sh m_St_isSet [.ref a, .int x] (I, J, am_Rf f g) (Rt (.int (b2i (decide (0 < x ∧ x ≤ nI (2 ^ n - 1))))) (I, J, am_Rf f g)) := by
  refine s_St_isSet ⟨fun hc => ?_, fun hc => ?_⟩
  · refine j_St_isSet ⟨Or.inl rfl, ?_, rfl⟩
    subst hc
    rw [decide_eq_false (fun q => absurd q.1 (by decide))]
    rfl
  · refine ⟨hS.1.1, (ev_isPart hS hn h8 x).rt ⟨fun hd => ?_, fun hd => ?_⟩⟩
    · refine j_St_isSet ⟨Or.inl rfl, ?_, rfl⟩
      have hd := of_decide_eq_false (b2i_eq0.mp hd)
      rw [decide_eq_false (fun q => hd ⟨Int32.le_of_lt q.1, q.2⟩)]
      rfl
    · refine j_St_isSet ⟨Or.inr rfl, ?_, rfl⟩
      have hd := of_decide_eq_true (b2i_ne0.mp hd)
      rw [decide_eq_true ⟨Int32.lt_of_le_of_ne hd.1 (fun q => hc q.symm), hd.2⟩]
      rfl
theorem lp_placeOf {M : Nat} (hS : St f g a) (hM : I a 1 = nI M) (h12 : M ≤ 12) (x : Int32) : ∀ n k, n + k = M → (∀ j, j < k → decide (I (a + 1) j = x) = false) → am_u am_sh m_St_placeOf (Rt (.int (oi (fi (fun k => decide (I (a + 1) k = x)) M))) (I, J, am_Rf f g)) (am_at am_c_St_placeOf 2) 2 [some (.ref a), some (.int x), some (.int (nI k))] [] (I, J, am_Rf f g) := by
  intro n
  induction n with
  | zero =>
    intro k hk h0
    refine ⟨hS.1.1, br_t (by rw [hM]; exact nI_le (by omega) (by omega)) (j_St_placeOf ?_)⟩
    refine ⟨?_, rfl⟩
    rw [fi_none.mpr (fun j hj => h0 j (by omega))]
    rfl
  | succ n ih =>
    intro k hk h0
    refine ⟨hS.1.1, br_f (by rw [hM]; exact nI_ge (by omega) (by omega)) ?_⟩
    refine ⟨a + 1, hS.1.1, hS.1.2.1, 12, k, hS.2.1, by omega, rfl, fun h1 => ?_, fun h1 => ?_⟩
    · refine j_St_placeOf (j_St_placeOf ?_)
      rw [show nI k + 1 = nI (k + 1) from nI_1 k]
      refine ih (k + 1) (by omega) (fun j hj => ?_)
      by_cases e : j = k
      · subst e; exact decide_eq_false h1
      · exact h0 j (by omega)
    · refine ⟨?_, rfl⟩
      rw [fi_hit h0 (decide_eq_true h1) (by omega)]
      rfl
theorem ev_placeOf {M : Nat} (hS : St f g a) (hM : I a 1 = nI M) (h12 : M ≤ 12) (x : Int32) : am_ev am_sh m_St_placeOf [.ref a, .int x] (I, J, am_Rf f g) (Rt (.int (oi (fi (fun k => decide (I (a + 1) k = x)) M))) (I, J, am_Rf f g)) := s_St_placeOf (j_St_placeOf (lp_placeOf hS hM h12 x M 0 rfl (fun _ h => by omega)))
theorem lp_hasBeyond {M : Nat} (hS : St f g a) (hM : I a 1 = nI M) (h12 : M ≤ 12) (x : Int32) : ∀ n k, n + k = M → (∀ j, j < k → decide (¬ I (a + 1) j >>> (x &&& 31) = 0) = false) → am_u am_sh m_St_hasBeyond (Rt (.int (b2i (bx (fun k => decide (¬ I (a + 1) k >>> (x &&& 31) = 0)) M))) (I, J, am_Rf f g)) (am_at am_c_St_hasBeyond 2) 2 [some (.ref a), some (.int x), some (.int (nI k))] [] (I, J, am_Rf f g) := by
  intro n
  induction n with
  | zero =>
    intro k hk h0
    refine ⟨hS.1.1, br_t (by rw [hM]; exact nI_le (by omega) (by omega)) (j_St_hasBeyond ?_)⟩
    refine ⟨Or.inl rfl, ?_, rfl⟩
    rw [bx_false.mpr (fun j hj => h0 j (by omega))]
    rfl
  | succ n ih =>
    intro k hk h0
    refine ⟨hS.1.1, br_f (by rw [hM]; exact nI_ge (by omega) (by omega)) ?_⟩
    refine ⟨a + 1, hS.1.1, hS.1.2.1, 12, k, hS.2.1, by omega, rfl, fun h1 => ?_, fun h1 => ?_⟩
    · refine j_St_hasBeyond (j_St_hasBeyond ?_)
      rw [show nI k + 1 = nI (k + 1) from nI_1 k]
      refine ih (k + 1) (by omega) (fun j hj => ?_)
      by_cases e : j = k
      · subst e; exact decide_eq_false (fun q => q h1)
      · exact h0 j (by omega)
    · refine ⟨Or.inr rfl, ?_, rfl⟩
      rw [bx_iff.mpr ⟨k, by omega, decide_eq_true h1⟩]
      rfl
theorem ev_hasBeyond {M : Nat} (hS : St f g a) (hM : I a 1 = nI M) (h12 : M ≤ 12) (x : Int32) : am_ev am_sh m_St_hasBeyond [.ref a, .int x] (I, J, am_Rf f g) (Rt (.int (b2i (bx (fun k => decide (¬ I (a + 1) k >>> (x &&& 31) = 0)) M))) (I, J, am_Rf f g)) := s_St_hasBeyond (j_St_hasBeyond (lp_hasBeyond hS hM h12 x M 0 rfl (fun _ h => by omega)))
theorem lp_holdsGroup {M : Nat} (hS : St f g a) (hM : I a 1 = nI M) (h12 : M ≤ 12) (x : Int32) : ∀ n k, n + k = M → (∀ j, j < k → decide (I (a + 1) j &&& (x ^^^ (-1)) = 0) = false) → am_u am_sh m_St_holdsGroup (Rt (.int (b2i (bx (fun k => decide (I (a + 1) k &&& (x ^^^ (-1)) = 0)) M))) (I, J, am_Rf f g)) (am_at am_c_St_holdsGroup 2) 2 [some (.ref a), some (.int x), some (.int (nI k))] [] (I, J, am_Rf f g) := by
  intro n
  induction n with
  | zero =>
    intro k hk h0
    refine ⟨hS.1.1, br_t (by rw [hM]; exact nI_le (by omega) (by omega)) (j_St_holdsGroup ?_)⟩
    refine ⟨Or.inl rfl, ?_, rfl⟩
    rw [bx_false.mpr (fun j hj => h0 j (by omega))]
    rfl
  | succ n ih =>
    intro k hk h0
    refine ⟨hS.1.1, br_f (by rw [hM]; exact nI_ge (by omega) (by omega)) ?_⟩
    refine ⟨a + 1, hS.1.1, hS.1.2.1, 12, k, hS.2.1, by omega, rfl, fun h1 => ?_, fun h1 => ?_⟩
    · refine j_St_holdsGroup (j_St_holdsGroup ?_)
      rw [show nI k + 1 = nI (k + 1) from nI_1 k]
      refine ih (k + 1) (by omega) (fun j hj => ?_)
      by_cases e : j = k
      · subst e; exact decide_eq_false h1
      · exact h0 j (by omega)
    · refine ⟨Or.inr rfl, ?_, rfl⟩
      rw [bx_iff.mpr ⟨k, by omega, decide_eq_true h1⟩]
      rfl
theorem ev_holdsGroup {M : Nat} (hS : St f g a) (hM : I a 1 = nI M) (h12 : M ≤ 12) (x : Int32) : am_ev am_sh m_St_holdsGroup [.ref a, .int x] (I, J, am_Rf f g) (Rt (.int (b2i (bx (fun k => decide (I (a + 1) k &&& (x ^^^ (-1)) = 0)) M))) (I, J, am_Rf f g)) := s_St_holdsGroup (j_St_holdsGroup (lp_holdsGroup hS hM h12 x M 0 rfl (fun _ h => by omega)))
theorem lp_isSuperfluous {M p : Nat} (hS : St f g a) (hM : I a 1 = nI M) (h12 : M ≤ 12) (hp : p < M) : ∀ n k, n + k = M → (∀ j, j < k → (!Nat.beq j p && decide (I (a + 1) j &&& (I (a + 1) p ^^^ (-1)) = 0)) = false) → am_u am_sh m_St_isSuperfluous (Rt (.int (b2i (bx (fun k => !Nat.beq k p && decide (I (a + 1) k &&& (I (a + 1) p ^^^ (-1)) = 0)) M))) (I, J, am_Rf f g)) (am_at am_c_St_isSuperfluous 2) 2 [some (.ref a), some (.int (nI p)), some (.int (nI k))] [] (I, J, am_Rf f g) := by
  intro n
  induction n with
  | zero =>
    intro k hk h0
    refine ⟨hS.1.1, br_t (by rw [hM]; exact nI_le (by omega) (by omega)) (j_St_isSuperfluous ?_)⟩
    refine ⟨Or.inl rfl, ?_, rfl⟩
    rw [bx_false.mpr (fun j hj => h0 j (by omega))]
    rfl
  | succ n ih =>
    intro k hk h0
    have step : (!Nat.beq k p && decide (I (a + 1) k &&& (I (a + 1) p ^^^ (-1)) = 0)) = false → am_run am_sh m_St_isSuperfluous (Rt (.int (b2i (bx (fun k => !Nat.beq k p && decide (I (a + 1) k &&& (I (a + 1) p ^^^ (-1)) = 0)) M))) (I, J, am_Rf f g)) 35 [some (.ref a), some (.int (nI p)), some (.int (nI k))] [] (I, J, am_Rf f g) := by
      intro h1
      refine j_St_isSuperfluous (j_St_isSuperfluous ?_)
      rw [show nI k + 1 = nI (k + 1) from nI_1 k]
      refine ih (k + 1) (by omega) (fun j hj => ?_)
      by_cases e : j = k
      · subst e; exact h1
      · exact h0 j (by omega)
    refine ⟨hS.1.1, br_f (by rw [hM]; exact nI_ge (by omega) (by omega)) ⟨fun h1 => ?_, fun h1 => ?_⟩⟩
    · have e : k = p := (nI_eq (by omega) (by omega)).mp h1
      subst e
      exact step (by simp)
    · have e : ¬ k = p := fun q => h1 (by rw [q])
      refine ⟨a + 1, hS.1.1, hS.1.2.1, 12, k, hS.2.1, by omega, rfl, a + 1, hS.1.1, hS.1.2.1, 12, p, hS.2.1, by omega, rfl, fun h2 => ?_, fun h2 => ?_⟩
      · exact step (by rw [decide_eq_false h2, Bool.and_false])
      · refine ⟨Or.inr rfl, ?_, rfl⟩
        rw [bx_iff.mpr ⟨k, by omega, by rw [decide_eq_true h2, Bool.and_true, Bool.not_eq_true']; exact nbq e⟩]
        rfl
theorem ev_isSuperfluous {M p : Nat} (hS : St f g a) (hM : I a 1 = nI M) (h12 : M ≤ 12) (hp : p < M) : am_ev am_sh m_St_isSuperfluous [.ref a, .int (nI p)] (I, J, am_Rf f g) (Rt (.int (b2i (bx (fun k => !Nat.beq k p && decide (I (a + 1) k &&& (I (a + 1) p ^^^ (-1)) = 0)) M))) (I, J, am_Rf f g)) := s_St_isSuperfluous (j_St_isSuperfluous (lp_isSuperfluous hS hM h12 hp M 0 rfl (fun _ h => by omega)))
end STATE2
