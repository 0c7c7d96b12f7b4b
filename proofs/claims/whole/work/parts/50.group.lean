/-! group and element on both -/
section T10
variable {f g : Nat → Nat} {I : Nat → Nat → Int32} {J : Nat → Nat → Int64}
theorem ev_oneIf (b : Bool) (σ : am_S) : am_ev am_sh m_MG_oneIf [.int (b2i b)] σ (Rt (.int (b2i b)) σ) := by
  obtain ⟨I, J, R⟩ := σ
  cases b with
  | false => exact s_MG_oneIf ⟨fun _ => j_MG_oneIf ⟨rfl, rfl⟩, fun h => absurd rfl h⟩
  | true => exact s_MG_oneIf ⟨fun h => absurd h (by decide), fun _ => j_MG_oneIf ⟨rfl, rfl⟩⟩
theorem m1_lt {x : Int32} {M : Nat} (hM : M ≤ 128) : x ≤ nI M - 1 ↔ x < nI M := by
  have e : (nI M - 1).toInt = (M : Int) - 1 := by
    rw [Int32.toInt_sub, nI_toInt (by omega), show (1 : Int32).toInt = 1 from rfl, Int.bmod_def]
    split <;> omega
  rw [Int32.le_iff_toInt_le, Int32.lt_iff_toInt_lt, e, nI_toInt (by omega)]
  omega
theorem bc_and {x y : Nat} (hx : x < 128) : bc (nI x &&& nI y) = nI (pc7 (x &&& y)) := by
  rw [nI_and]
  exact bc_tab _ (and_lt hx)
theorem pc7_le : ∀ x, x < 128 → pc7 x ≤ 7 := by decide +kernel
theorem lcf_lwf {G : Nat → Int32} {gs : Nat → Nat} {p : Nat} : ∀ M, p < M → (∀ k, k < M → G k = nI (gs k) ∧ gs k < 128) → ∀ m, m ≤ M → fo (lcf G p) (-4) m = fo (lwf gs p) (-4) m ∧ (fo (lwf gs p) (-4) m = -4 ∨ ∃ c, c ≤ 7 ∧ fo (lwf gs p) (-4) m = nI c) := by
  intro M hp hG m
  induction m with
  | zero => intro _; exact ⟨rfl, Or.inl rfl⟩
  | succ m ih =>
    intro hm
    obtain ⟨h1, h2⟩ := ih (by omega)
    rw [fo_s, fo_s, h1]
    have hb : bc (G m &&& G p) = nI (pc7 (gs m &&& gs p)) := by
      rw [(hG m (by omega)).1, (hG p hp).1]
      exact bc_and (hG m (by omega)).2
    have hc : pc7 (gs m &&& gs p) ≤ 7 := pc7_le _ (and_lt (hG m (by omega)).2)
    generalize fo (lwf gs p) (-4) m = X at h2
    have e : lcf G p m X = lwf gs p m X := by
      unfold lcf lwf
      rw [hb]
      have : (X = -4 ∨ nI (pc7 (gs m &&& gs p)) < X) ↔ (X < 0 ∨ nI (pc7 (gs m &&& gs p)) < X) := by
        rcases h2 with h2 | ⟨c, c1, c2⟩
        · rw [h2]
          exact ⟨fun _ => Or.inl (by decide), fun _ => Or.inl rfl⟩
        · rw [c2]
          refine or_congr ⟨fun q => ?_, fun q => ?_⟩ Iff.rfl
          · exact absurd (by rw [q]; decide : nI c < 0) (nI_pos (by omega))
          · exact absurd q (nI_pos (by omega))
      simp only [this]
    refine ⟨e, ?_⟩
    unfold lwf
    split
    · exact Or.inr ⟨_, hc, rfl⟩
    · exact h2
theorem Rr.gs {C : Nat → Nat → Int32} {a n M K : Nat} {ρ : Nat → Int32} {gs : Nat → Nat} (h : Rr C a ρ n M K gs) : ∀ k, k < M → C (a + 1) k = nI (gs k) ∧ gs k < 128 := by
  intro k hk
  have h7 := pow_le7 (n := n) (by have := h.1.2.2.2; omega)
  exact ⟨(h.2.2.1 k hk).1, by have := (h.2.2.1 k hk).2.2.2; omega⟩
theorem T_group (x y : Int32) {σ : am_S} (h : Inv σ) : Both m_MG_group m_MD_group [.int x, .int y] σ := by
  obtain ⟨I, J, f, g, rfl, ⟨n, M, K, gs, hR⟩, hrest⟩ := h
  have inv0 : Inv (I, J, am_Rf f g) := ⟨I, J, f, g, rfl, ⟨n, M, K, gs, hR⟩, hrest⟩
  obtain ⟨⟨n1, n2, n3, n4⟩, ⟨m1, m2, m3⟩, hgs, _⟩ := id hR
  have start : ∀ {q : am_Q}, (¬ b2i (decide (0 ≤ x ∧ x ≤ nI M - 1)) = 0 → am_run am_sh m_MD_group q 20 [some (.ref 236), some (.int x), some (.int y)] [] (I, J, am_Rf f g)) → (b2i (decide (0 ≤ x ∧ x ≤ nI M - 1)) = 0 → q (some (.int (-1))) (I, J, am_Rf f g)) → am_ev am_sh m_MD_group [.ref 236, .int x, .int y] (I, J, am_Rf f g) q := by
    intro q h1 h2
    refine s_MD_group ⟨237, rfl, rfl, 116, 1, rfl, by omega, rfl, ?_⟩
    show am_ev am_sh m_MD_in [.long x.toInt64, .long 0, .long (I 237 1 - 1).toInt64] _ _
    rw [m2]
    exact (ev_in32 x 0 _ _).rt ⟨h1, h2⟩
  have bad : ¬ (0 ≤ x ∧ x < nI M) → am_ev am_sh m_MD_group [.ref 236, .int x, .int y] (I, J, am_Rf f g) (fun r2 σ2 => r2 = some (.int (-1)) ∧ Inv σ2) := fun hn => start (fun q => by
    have := of_decide_eq_true (b2i_ne0.mp q)
    rw [m1_lt (by omega)] at this
    exact absurd this hn) (fun _ => ⟨rfl, inv0⟩)
  have bad2 : ¬ y = 0 → ¬ y = 1 → ¬ y = 2 → am_ev am_sh m_MD_group [.ref 236, .int x, .int y] (I, J, am_Rf f g) (fun r2 σ2 => r2 = some (.int (-1)) ∧ Inv σ2) := fun a b c => start (fun _ => j_MD_group (j_MD_group ⟨fun q => absurd q a, fun _ => ⟨fun q => absurd q b, fun _ => ⟨fun q => absurd q c, fun _ => j_MD_group ⟨rfl, inv0⟩⟩⟩⟩)) (fun _ => ⟨rfl, inv0⟩)
  refine s_MG_group ⟨fun h1 => j_MG_group ⟨-1, rfl, bad (fun q => absurd h1 (Int32.not_lt.mpr q.1))⟩, fun h1 => ⟨1, rfl, rfl, rfl, fun h2 => j_MG_group ⟨-1, rfl, bad (fun q => ?_)⟩, fun h2 => ?_⟩⟩
  · have h2 : I 1 1 ≤ x := h2
    rw [m1] at h2
    exact absurd q.2 (Int32.not_lt.mpr h2)
  have h2 : ¬ I 1 1 ≤ x := h2
  rw [m1] at h2
  obtain ⟨p, hp, rfl⟩ := nI_of h1
  have hpM : p < M := (nI_ltI hp (by omega)).mp (Int32.not_le.mp h2)
  have hin : ¬ b2i (decide (0 ≤ nI p ∧ nI p ≤ nI M - 1)) = 0 := b2i_ne0.mpr (decide_eq_true ⟨nI_pos' hp, (m1_lt (by omega)).mpr (nI_lt hpM (by omega))⟩)
  have on : ∀ {q : am_Q}, am_run am_sh m_MD_group q 20 [some (.ref 236), some (.int (nI p)), some (.int y)] [] (I, J, am_Rf f g) → am_ev am_sh m_MD_group [.ref 236, .int (nI p), .int y] (I, J, am_Rf f g) q := fun {q} hq => start (fun _ => hq) (fun z => absurd z hin)
  refine ⟨fun h3 => j_MG_group ⟨-1, rfl, bad2 (fun e => ?_) (fun e => ?_) (fun e => ?_)⟩, fun h3 => ⟨fun h4 => j_MG_group ?_, fun h4 => ⟨-1, rfl, bad2 (fun e => ?_) (fun e => ?_) (fun e => ?_)⟩⟩⟩
  · rw [e] at h3; exact absurd h3 (by decide)
  · rw [e] at h3; exact absurd h3 (by decide)
  · rw [e] at h3; exact absurd h3 (by decide)
  · refine ⟨fun h5 => j_MG_group ⟨fun h6 => j_MG_group ?_, fun h6 => ?_⟩, fun h5 => ?_⟩
    · have hy : y = 2 := by
        obtain ⟨v, hv, rfl⟩ := nI_of h3
        have : v ≤ 2 := (nI_leI (b := 2) hv (by omega)).mp h4
        have a0 : v ≠ 0 := fun e => h5 (by rw [e]; rfl)
        have a1 : v ≠ 1 := fun e => h6 (by rw [e]; rfl)
        rw [show v = 2 by omega]
        rfl
      refine ⟨1, rfl, rfl, rfl, (ev_leastCommonOf st1 m1 m3 hpM).rt ⟨_, rfl, on (j_MD_group (j_MD_group ⟨fun q => absurd q h5, fun _ => ⟨fun q => absurd q h6, fun _ => ⟨fun _ => j_MD_group ⟨rfl, (ev_leastWith hR.gm hpM).rt ⟨?_, inv0⟩⟩, fun q => absurd hy q⟩⟩⟩))⟩⟩
      rw [(lcf_lwf M hpM hR.gs M (Nat.le_refl _)).1]
    · refine ⟨1, rfl, rfl, rfl, (ev_isSuperfluous st1 m1 m3 hpM).rt ((ev_oneIf _ _).rt (j_MG_group ⟨_, rfl, on (j_MD_group (j_MD_group ⟨fun q => absurd q h5, fun _ => ⟨fun _ => j_MD_group ⟨rfl, (ev_isMore m2 m3 hpM).rt ?_⟩, fun q => absurd h6 q⟩⟩))⟩))⟩
      have e : bx (fun k => !Nat.beq k p && decide (I 237 (4 + k) &&& (I 237 (4 + p) ^^^ (-1)) = 0)) M = bx (fun k => !Nat.beq k p && decide (I (1 + 1) k &&& (I (1 + 1) p ^^^ (-1)) = 0)) M := bx_congr (fun k hk => by rw [(hgs k hk).1, (hgs k hk).2.1, (hgs p hpM).1, (hgs p hpM).2.1])
      rw [e]
      cases bx (fun k => !Nat.beq k p && decide (I (1 + 1) k &&& (I (1 + 1) p ^^^ (-1)) = 0)) M with
      | false => exact ⟨fun _ => j_MD_group ⟨rfl, inv0⟩, fun q => absurd rfl q⟩
      | true => exact ⟨fun q => absurd q (by decide), fun _ => j_MD_group ⟨rfl, inv0⟩⟩
    · refine ⟨1, rfl, rfl, 2, rfl, rfl, 12, p, rfl, by omega, rfl, _, rfl, on (j_MD_group (j_MD_group ⟨fun _ => j_MD_group ⟨rfl, (ev_mat (by omega)).rt ⟨?_, inv0⟩⟩, fun q => absurd h5 q⟩))⟩
      rw [(hgs p hpM).2.1]
      exact congrArg (fun z => some (Value.int z)) (hgs p hpM).1.symm
  · rw [e] at h4; exact absurd (by decide) h4
  · rw [e] at h4; exact absurd (by decide) h4
  · rw [e] at h4; exact absurd (by decide) h4
end T10
