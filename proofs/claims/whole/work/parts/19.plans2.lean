/-! a plan is kept; what plans weigh -/
section PLANS2
variable {f g : Nat → Nat} {a : Nat} {I : Nat → Nat → Int32} {J : Nat → Nat → Int64}
/-- the rows of a new plan, k less 1 of 12 places done -/
def Bk (I' I : Nat → Nat → Int32) (a K M k : Nat) (x : Int32) : Prop := I' (a + 3) K = x ∧ (∀ i, i < k → I' (a + 5 + K) i = (if i < M then I (a + 1) i else 0) ∧ I' (a + 10 + K) i = (if i < M then I 226 i else 0)) ∧ ∀ c i, ¬ (c = a + 3 ∧ i = K) → c ≠ a + 5 + K → c ≠ a + 10 + K → I' c i = I c i
theorem lp_become {M K : Nat} {x w : Int32} {q : am_Q} (hq : ∀ I', Bk I' I a K M 12 x → q none (am_up I' (a + 2) 0 (nI (K + 1)), J, am_Rf f g)) (hS : St f g a) (ha : a < 226) (hb : a + 13 < 226) (hK : I (a + 2) 0 = nI K) (h4 : K < 4) (hM : I a 1 = nI M) (h12 : M ≤ 12) : ∀ n k (I' : Nat → Nat → Int32), n + k = 12 → Bk I' I a K M k x → am_u am_sh m_Pl_become q (am_at am_c_Pl_become 47) 47 [some (.ref (a + 2)), some (.int x), some (.ref a), some (.ref 225), some (.int w), some (.int (nI k))] [] (I', J, am_Rf f g) := by
  have pS := hS.2.2.2.2.2.2 K h4
  intro n
  induction n with
  | zero =>
    intro k I' hk hB
    obtain rfl : k = 12 := by omega
    have hk' : I' (a + 2) 0 = nI K := by rw [hB.2.2 _ _ (by omega) (by omega) (by omega), hK]
    refine br_t (by decide) (j_Pl_become ?_)
    refine ⟨hS.2.2.1.1, hS.2.2.1.1, ?_⟩
    have h := hq I' hB
    rw [← nI_1, ← hk'] at h
    exact h
  | succ n ih =>
    intro k I' hk hB
    obtain ⟨b1, b2, b3⟩ := hB
    have hk' : I' (a + 2) 0 = nI K := by rw [b3 _ _ (by omega) (by omega) (by omega), hK]
    have hm' : I' a 1 = nI M := by rw [b3 _ _ (by omega) (by omega) (by omega), hM]
    refine br_f (nI_ge (a := k) (b := 12) (by omega) (by omega)) ?_
    refine ⟨a + 4, hS.2.2.1.1, hS.2.2.1.2.2.1, hS.2.2.1.1, 4, K, hS.2.2.2.2.1, h4, hk', a + 5 + K, pS.1.1, hS.1.1, ?_⟩
    -- the set
    have second : ∀ v, v = (if k < M then I (a + 1) k else 0) → am_u am_sh m_Pl_become q (am_at am_c_Pl_become 85) 85 [some (.ref (a + 2)), some (.int x), some (.ref a), some (.ref 225), some (.int w), some (.int (nI k))] [.int v, .int (nI k), .ref (a + 5 + K)] (I', J, am_Rf f g) := by
      intro v hv
      refine ⟨12, k, pS.1.2, by omega, rfl, ?_⟩
      have hk2 : am_up I' (a + 5 + K) k v (a + 2) 0 = nI K := by rw [am_up_ne (by omega), hk']
      have hm2 : am_up I' (a + 5 + K) k v a 1 = nI M := by rw [am_up_ne (by omega), hm']
      refine ⟨a + 9, hS.2.2.1.1, hS.2.2.1.2.2.2, hS.2.2.1.1, 4, K, hS.2.2.2.2.2.1, h4, hk2, a + 10 + K, pS.2.1, hS.1.1, ?_⟩
      have third : ∀ z, z = (if k < M then I 226 k else 0) → am_u am_sh m_Pl_become q (am_at am_c_Pl_become 117) 117 [some (.ref (a + 2)), some (.int x), some (.ref a), some (.ref 225), some (.int w), some (.int (nI k))] [.int z, .int (nI k), .ref (a + 10 + K)] (am_up I' (a + 5 + K) k v, J, am_Rf f g) := by
        intro z hz
        refine ⟨12, k, pS.2.2, by omega, rfl, ?_⟩
        refine j_Pl_become ?_
        rw [show nI k + 1 = nI (k + 1) from nI_1 k]
        refine ih (k + 1) _ (by omega) ⟨?_, fun i hi => ?_, fun c i h1 h2 h3 => ?_⟩
        · rw [am_up_ne (by omega), am_up_ne (by omega), b1]
        · by_cases e : i = k
          · subst e
            refine ⟨?_, ?_⟩
            · rw [am_up_ne (by omega), am_up_eq, hv]
            · rw [am_up_eq, hz]
          · obtain ⟨g1, g2⟩ := b2 i (by omega)
            refine ⟨?_, ?_⟩
            · rw [am_up_ne (by omega), am_up_ne (by omega), g1]
            · rw [am_up_ne (by omega), am_up_ne (by omega), g2]
        · rw [am_up_ne (by omega), am_up_ne (by omega), b3 c i h1 h2 h3]
      refine ⟨fun h1 => j_Pl_become (third 0 ?_), fun h1 => ?_⟩
      · rw [hm2] at h1
        rw [if_neg]
        intro q
        exact nI_ge q (by omega) h1
      · rw [hm2] at h1
        have hkM : k < M := by
          rcases Nat.lt_or_ge k M with q | q
          · exact q
          · exact absurd (nI_le q (by omega)) h1
        refine ⟨226, rfl, rfl, 12, k, rfl, by omega, rfl, ?_⟩
        refine j_Pl_become (third _ ?_)
        rw [if_pos hkM, am_up_ne (by omega), b3 _ _ (by omega) (by omega) (by omega)]
    refine ⟨fun h1 => j_Pl_become (second 0 ?_), fun h1 => ?_⟩
    · rw [hm'] at h1
      rw [if_neg]
      intro q
      exact nI_ge q (by omega) h1
    · rw [hm'] at h1
      have hkM : k < M := by
        rcases Nat.lt_or_ge k M with q | q
        · exact q
        · exact absurd (nI_le q (by omega)) h1
      refine ⟨a + 1, hS.1.1, hS.1.2.1, 12, k, hS.2.1, by omega, rfl, ?_⟩
      refine j_Pl_become (second _ ?_)
      rw [if_pos hkM, b3 _ _ (by omega) (by omega) (by omega)]
/-- from place 34 on: there is room -/
theorem rn_become {M K : Nat} {x w : Int32} {z : Option Value} {q : am_Q} (hq : ∀ I', Bk I' I a K M 12 x → q none (am_up I' (a + 2) 0 (nI (K + 1)), J, am_Rf f g)) (hS : St f g a) (hb : a + 13 < 226) (hK : I (a + 2) 0 = nI K) (h4 : K < 4) (hM : I a 1 = nI M) (h12 : M ≤ 12) : am_u am_sh m_Pl_become q (am_at am_c_Pl_become 34) 34 [some (.ref (a + 2)), some (.int x), some (.ref a), some (.ref 225), some (.int w), z] [] (I, J, am_Rf f g) := by
  refine ⟨a + 3, hS.2.2.1.1, hS.2.2.1.2.1, hS.2.2.1.1, 4, K, hS.2.2.2.1, h4, hK, ?_⟩
  refine j_Pl_become ?_
  refine lp_become hq hS (by omega) hb hK h4 hM h12 12 0 _ rfl ⟨am_up_eq, fun i hi => by omega, fun c i h1 _ _ => am_up_ne h1⟩
/-- a plan is kept: first one may be lost (K' are left) -/
def Bc (I' I : Nat → Nat → Int32) (a K M : Nat) (x : Int32) : Prop := ∃ (I1 I2 : Nat → Nat → Int32) (K' : Nat), K' < 4 ∧ I1 (a + 2) 0 = nI K' ∧ Bk I2 I1 a K' M 12 x ∧ I' = am_up I2 (a + 2) 0 (nI (K' + 1)) ∧
  ((∃ p, fi (fun k => decide (I (a + 3) k = x)) K = some p ∧ K' = K - 1 ∧ ∃ I0, I1 = am_up I0 (a + 2) 0 (nI (K - 1)) ∧ Ls I0 I a p (K - 1)) ∨ (fi (fun k => decide (I (a + 3) k = x)) K = none ∧ K = 4 ∧ K' = 3 ∧ ∃ I0, I1 = am_up I0 (a + 2) 0 (nI 3) ∧ Ls I0 I a 0 3) ∨ (fi (fun k => decide (I (a + 3) k = x)) K = none ∧ K < 4 ∧ K' = K ∧ I1 = I))
theorem ev_become {M K : Nat} {x : Int32} (hS : St f g a) (hb : a + 13 < 226) (hK : I (a + 2) 0 = nI K) (h4 : K ≤ 4) (hM : I a 1 = nI M) (h12 : M ≤ 12) : am_ev am_sh m_Pl_become [.ref (a + 2), .int x, .ref a, .ref 225] (I, J, am_Rf f g) (fun r σ' => r = none ∧ ∃ I', σ' = (I', J, am_Rf f g) ∧ Bc I' I a K M x) := by
  refine s_Pl_become ⟨hS.2.2.1.1, (ev_plPlaceOf hS hK h4 x).rt ?_⟩
  cases hf : fi (fun k => decide (I (a + 3) k = x)) K with
  | some p =>
    obtain ⟨hp, -, -⟩ := fi_some hf
    refine br_f (nI_pos (by omega)) ⟨hS.2.2.1.1, (ev_lose hS hK h4 hp).mono ?_⟩
    rintro r σ' ⟨rfl, I0, rfl, hL⟩
    refine j_Pl_become (rn_become (I := am_up I0 (a + 2) 0 (nI (K - 1))) (K := K - 1) (fun I' hB => ?_) hS hb am_up_eq (by omega) (by rw [am_up_ne (by omega), hL.2 _ (by omega), hM]) h12)
    exact ⟨rfl, _, rfl, _, I', K - 1, by omega, am_up_eq, hB, rfl, Or.inl ⟨p, hf, rfl, I0, rfl, hL⟩⟩
  | none =>
    refine br_t (by decide) (j_Pl_become ⟨hS.2.2.1.1, fun h1 => ?_, fun h1 => ?_⟩)
    · rw [hK] at h1
      have h5 : K < 4 := (nI_ltI (a := K) (b := 4) (by omega) (by omega)).mp h1
      refine j_Pl_become (rn_become (fun I' hB => ?_) hS hb hK h5 hM h12)
      exact ⟨rfl, _, rfl, I, I', K, h5, hK, hB, rfl, Or.inr (Or.inr ⟨hf, h5, rfl, rfl⟩)⟩
    · rw [hK] at h1
      have h5 : K = 4 := by
        rcases Nat.lt_or_ge K 4 with q | q
        · exact absurd (nI_lt (a := K) (b := 4) q (by omega)) h1
        · omega
      subst h5
      refine ⟨hS.2.2.1.1, (ev_lose (p := 0) hS hK h4 (by omega)).mono ?_⟩
      rintro r σ' ⟨rfl, I0, rfl, hL⟩
      refine rn_become (I := am_up I0 (a + 2) 0 (nI 3)) (K := 3) (fun I' hB => ?_) hS hb am_up_eq (by omega) (by rw [am_up_ne (by omega), hL.2 _ (by omega), hM]) h12
      exact ⟨rfl, _, rfl, _, I', 3, by omega, am_up_eq, hB, rfl, Or.inr (Or.inl ⟨hf, rfl, rfl, I0, rfl, hL⟩)⟩
end PLANS2
