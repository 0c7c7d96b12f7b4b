/-! load on both -/
section TL
theorem EFr.sm {I2 I1 I : Nat → Nat → Int32} (h1 : EFr I2 I1) (h2 : ∀ b, b < 213 ∨ 224 < b → I1 b = I b) : Sm I2 I := by
  refine ⟨fun c c1 c2 => ?_, ?_, ?_, ?_⟩
  · rw [h1.1 c c2 (by unfold Scr at c1; omega), h2 c (by unfold Scr at c1; omega)]
  · rw [h1.2 11 (by omega) (by omega), h2 236 (by omega)]
  · rw [h1.2 19 (by omega) (by omega), h2 236 (by omega)]
  · rw [h1.2 22 (by omega) (by omega), h2 236 (by omega)]
theorem nI_0iff {m : Nat} (h : m < 2 ^ 31) : nI m = 0 ↔ m = 0 := by
  rw [show (0 : Int32) = nI 0 from rfl, nI_eq h (by omega)]
theorem ev_ofFraction2 {u v : Int32} {a b : Nat} (hu : u = nI a) (hv : v = nI b) (ha : a < 2 ^ 31) (hb : b < 2 ^ 31) (h0 : 0 < Nat.gcd a b) (x : Int32) (σ : am_S) : am_ev am_sh m_MG_ofFraction [.int u, .int v, .int x] σ (Rt (.int (if x = 0 then nI (a / Nat.gcd a b) else nI (b / Nat.gcd a b))) σ) := by
  rw [hu, hv]
  exact ev_ofFraction ha hb h0 x σ
theorem T_load (x : Int32) {σ : am_S} (h : Inv σ) : Both m_MG_load m_MD_load [.int x] σ := by
  obtain ⟨I, J, f, g, rfl, ⟨n, M, K, gs, hR⟩, hrest⟩ := h
  have inv0 : Inv (I, J, am_Rf f g) := ⟨I, J, f, g, rfl, ⟨n, M, K, gs, hR⟩, hrest⟩
  obtain ⟨⟨n1, n2, n3, n4⟩, ⟨m1, m2, m3⟩, hgs, hdis, _⟩ := id hR
  have h8 : n < 8 := by omega
  have h7 := pow_le7 h8
  have bad : ¬ (0 ≤ x ∧ x ≤ 1) → am_ev am_sh m_MD_load [.ref 236, .int x] (I, J, am_Rf f g) (fun r2 σ2 => r2 = some (.int (-1)) ∧ Inv σ2) := by
    intro hx
    exact s_MD_load ((ev_in32 x 0 1 _).rt ⟨fun q => absurd (of_decide_eq_true (b2i_ne0.mp q)) hx, fun _ => ⟨rfl, inv0⟩⟩)
  refine s_MG_load ⟨fun h1 => j_MG_load ⟨-1, rfl, bad (fun q => absurd h1 (Int32.not_lt.mpr q.1))⟩, fun h1 => ⟨fun h2 => j_MG_load ?_, fun h2 => ⟨-1, rfl, bad (fun q => h2 q.2)⟩⟩⟩
  have hx : 0 ≤ x ∧ x ≤ 1 := ⟨Int32.not_lt.mp h1, h2⟩
  have hin : b2i (decide (0 ≤ x ∧ x ≤ 1)) ≠ 0 := b2i_ne0.mpr (decide_eq_true hx)
  refine ⟨1, rfl, rfl, rfl, fun h3 => j_MG_load ?_, fun h3 => ⟨-4, rfl, s_MD_load ((ev_in32 x 0 1 _).rt ⟨fun _ => j_MD_load ⟨237, rfl, rfl, 116, 1, rfl, by omega, rfl, fun h4 => absurd ?_ h4, fun _ => ⟨rfl, inv0⟩⟩, fun q => absurd q hin⟩)⟩⟩
  · have h3 : ¬ I 1 1 = 0 := h3
    rw [m1, nI_0iff (by omega)] at h3
    have hg1 : ∀ k, k < M → I 2 k = nI (gs k) ∧ gs k < 128 := fun k hk => ⟨(hgs k hk).1, by have := (hgs k hk).2.2.2; omega⟩
    have hg2 : ∀ c, c < M → 1 ≤ gs c ∧ gs c < 2 ^ n := fun c hc => (hgs c hc).2.2
    refine ⟨213, rfl, rfl, 1, rfl, rfl, rfl, (ev_solve h8 m3 n1 m1 hg1 hg2).mono ?_⟩
    rintro r σ' ⟨rfl, I1, B, N, rfl, hB, hF, hT, hfr⟩
    have gm : Gm I1 M gs := hR.gm.of (hfr 237 (by omega))
    -- the class's answer needs the reference's find
    have ref : ∀ {q : am_Q}, (∀ I2 : Nat → Nat → Int32, EFr I2 I1 → EvT I2 M gs → q none (I2, J, am_Rf f g)) → am_ev am_sh m_MD_loads [.ref 236] (I1, J, am_Rf f g) q := fun {q} hq => (ev_loads (n := n) gm (by omega) (by rw [hfr 237 (by omega)]; exact n2) h8 hg2 hdis).mono (by
      rintro r σ' ⟨rfl, I2, rfl, a, b⟩
      exact hq I2 a b)
    have ab1 : (sD n (lpc n gs) B).natAbs ≤ 40320 := sD_abs h8
    have ab2 : (sP n (lpc n gs) B n (lph n)).natAbs ≤ 40320 := sP_abs h8 lph_abs
    have D0 := hB.2.2.1
    have Z0 : 0 ≤ sP n (lpc n gs) B n (lph n) := by
      rw [dual_sum]
      exact zs_nn (fun e he => dual_nn hF he)
    obtain ⟨D, hD⟩ : ∃ D : Nat, (D : Int) = sD n (lpc n gs) B := ⟨(sD n (lpc n gs) B).toNat, Int.toNat_of_nonneg (by omega)⟩
    obtain ⟨Z, hZ⟩ : ∃ Z : Nat, (Z : Int) = sP n (lpc n gs) B n (lph n) := ⟨(sP n (lpc n gs) B n (lph n)).toNat, Int.toNat_of_nonneg (by omega)⟩
    have c1 : I1 213 5 = nI D := by rw [hT.2.2.2.1, ← hD, zI_nat]
    have c2 : I1 (215 + n) M = nI Z := by rw [hT.2.2.2.2.2.2 n (Nat.le_refl _) M (Nat.le_refl _), cw_M, ← hZ, zI_nat]
    have gp : 0 < Nat.gcd D Z := Nat.gcd_pos_of_pos_left Z (by omega)
    refine ⟨213, rfl, rfl, rfl, 213, rfl, rfl, rfl, (ev_most hT).rt ((ev_ofFraction2 c1 c2 (by omega) (by omega) gp x _).rt ⟨_, rfl, ?_⟩)⟩
    refine s_MD_load ((ev_in32 x 0 1 _).rt ⟨fun _ => j_MD_load ⟨237, rfl, rfl, 116, 1, rfl, by omega, rfl, fun _ => j_MD_load ⟨rfl, ref (fun I2 a b => ?_)⟩, fun h4 => absurd ?_ h3⟩, fun q => absurd q hin⟩)
    · obtain ⟨D', Z', e1, e2, _, _, _, _, r1, r2⟩ := b.worth h8 (by omega) m3 hg2 hB hF
      obtain rfl : D' = D := by omega
      obtain rfl : Z' = Z := by omega
      have inv2 : Inv (I2, J, am_Rf f g) := ⟨I2, J, f, g, rfl, Inv.sm ⟨n, M, K, gs, hR⟩ hrest (a.sm hfr)⟩
      refine ⟨fun q => j_MD_load ⟨rfl, ?_, inv2⟩, fun q => ⟨rfl, j_MD_load ⟨?_, inv2⟩⟩⟩
      · rw [if_neg q, r2]
      · rw [if_pos q, r1]
    · have h4 : I1 237 1 = 0 := h4
      rw [hfr 237 (by omega), m2, nI_0iff (by omega)] at h4
      exact h4
  · have h3 : I 1 1 = 0 := h3
    show I 237 1 = 0
    rw [m2, ← m1]
    exact h3
end TL
