/-! size, type, image, restore on both -/
section T5
variable {f g : Nat → Nat} {I : Nat → Nat → Int32} {J : Nat → Nat → Int64}
theorem shr_tab : ∀ v, v < 8 → ∀ s, s < 128 → (nI s >>> (nI v &&& 31) = 0 ↔ s < 2 ^ v) := by decide +kernel
def og (gs : Nat → Nat) (k s : Nat) : Nat := s ||| gs k
theorem og_lt {gs : Nat → Nat} {v : Nat} : ∀ {M : Nat}, fo (og gs) 0 M < 2 ^ v ↔ ∀ k, k < M → gs k < 2 ^ v
  | 0 => ⟨fun _ k hk => by omega, fun _ => Nat.two_pow_pos v⟩
  | M + 1 => by
    rw [fo_s]
    unfold og
    constructor
    · intro h k hk
      by_cases e : k = M
      · subst e
        exact Nat.lt_of_le_of_lt Nat.right_le_or h
      · exact (og_lt (M := M)).mp (Nat.lt_of_le_of_lt Nat.left_le_or h) k (by omega)
    · intro h
      exact Nat.or_lt_two_pow ((og_lt (M := M)).mpr (fun k hk => h k (by omega))) (h M (by omega))
theorem og_cong {G : Nat → Int32} {gs : Nat → Nat} : ∀ {M : Nat}, (∀ k, k < M → G k = nI (gs k)) → fo (fun k s => s ||| G k) 0 M = nI (fo (og gs) 0 M)
  | 0, _ => rfl
  | M + 1, h => by
    rw [fo_s, fo_s, og_cong (fun k hk => h k (by omega)), h M (by omega), nI_or]
    rfl
theorem lp_size {M : Nat} {x y : Int32} {q : am_Q} (hM : I 237 1 = nI M) (h12 : M ≤ 12) (hq : am_run am_sh m_MD_size q 52 [some (.ref 236), some (.int x), some (.int y), some (.int (fo (fun k s => s ||| I 237 (4 + k)) 0 M)), some (.int (nI M))] [] (I, J, am_Rf f g)) : ∀ n k s, n + k = M → s = fo (fun k s => s ||| I 237 (4 + k)) 0 k → am_u am_sh m_MD_size q (am_at am_c_MD_size 26) 26 [some (.ref 236), some (.int x), some (.int y), some (.int s), some (.int (nI k))] [] (I, J, am_Rf f g) := by
  intro n
  induction n with
  | zero =>
    intro k s hk hs
    obtain rfl : k = M := by omega
    subst hs
    exact ⟨237, rfl, rfl, 116, 1, rfl, by omega, rfl, br_t (by rw [hM]; exact nI_le (by omega) (by omega)) hq⟩
  | succ n ih =>
    intro k s hk hs
    refine ⟨237, rfl, rfl, 116, 1, rfl, by omega, rfl, br_f (by rw [hM]; exact nI_ge (by omega) (by omega)) ⟨rfl, (ev_mat (by omega)).rt (j_MD_size ?_)⟩⟩
    show am_u _ _ _ _ _ [_, _, _, some (.int (s ||| I 237 (4 + k))), some (.int (nI k + 1))] _ _
    rw [nI_1]
    exact ih (k + 1) _ (by omega) (by rw [hs, fo_s])
theorem T_size (x : Int32) {σ : am_S} (h : Inv σ) : Both m_MG_size m_MD_size [.int x] σ := by
  obtain ⟨I, J, f, g, rfl, ⟨n, M, K, gs, hR⟩, hf, hg, ⟨N, hp⟩, hO⟩ := h
  have inv0 : Inv (I, J, am_Rf f g) := ⟨I, J, f, g, rfl, ⟨n, M, K, gs, hR⟩, hf, hg, ⟨N, hp⟩, hO⟩
  obtain ⟨⟨n1, n2, n3, n4⟩, ⟨m1, m2, m3⟩, hgs, hdis, _⟩ := id hR
  have h8 : n < 8 := by omega
  have h7 := pow_le7 h8
  have bad : ¬ (1 ≤ x ∧ x ≤ 7) → am_ev am_sh m_MD_size [.ref 236, .int x] (I, J, am_Rf f g) (fun r2 σ2 => r2 = some (.int (-1)) ∧ Inv σ2) := by
    intro hx
    refine s_MD_size ((ev_in32 x 1 7 _).rt ⟨fun h2 => absurd (of_decide_eq_true (b2i_ne0.mp h2)) hx, fun _ => ⟨rfl, inv0⟩⟩)
  refine s_MG_size ⟨fun h1 => j_MG_size ⟨-1, rfl, bad (fun q => absurd q.1 (Int32.not_le.mpr h1))⟩, fun h1 => ⟨fun h2 => j_MG_size ?_, fun h2 => ⟨-1, rfl, bad (fun q => absurd q.2 h2)⟩⟩⟩
  have h1 := Int32.not_lt.mp h1
  have hin : ¬ b2i (decide (1 ≤ x ∧ x ≤ 7)) = 0 := b2i_ne0.mpr (decide_eq_true ⟨h1, h2⟩)
  obtain ⟨v, hv, rfl⟩ := nI_of (x := x) (fun q => absurd q (Int32.not_lt.mpr (Int32.le_trans (by decide) h1)))
  have hv1 : 1 ≤ v := (nI_leI (a := 1) (by omega) (by omega)).mp h1
  have hv7 : v ≤ 7 := (nI_leI (b := 7) (by omega) (by omega)).mp h2
  have hog : ∀ {I' : Nat → Nat → Int32}, I' 237 = I 237 → fo (fun k s => s ||| I' 237 (4 + k)) 0 M = nI (fo (og gs) 0 M) := fun e => by rw [e]; exact og_cong (fun k hk => (hgs k hk).2.1)
  have hogl : fo (og gs) 0 M < 2 ^ n := og_lt.mpr (fun k hk => (hgs k hk).2.2.2)
  have start : ∀ {I' : Nat → Nat → Int32} {f' : Nat → Nat} {q : am_Q}, I' 237 = I 237 → am_run am_sh m_MD_size q 52 [some (.ref 236), some (.int (nI v)), some (.int (nI n)), some (.int (nI (fo (og gs) 0 M))), some (.int (nI M))] [] (I', J, am_Rf f' g) → am_ev am_sh m_MD_size [.ref 236, .int (nI v)] (I', J, am_Rf f' g) q := by
    intro I' f' q e hq
    rw [← hog e] at hq
    refine s_MD_size ((ev_in32 _ 1 7 _).rt ⟨fun _ => j_MD_size ⟨237, rfl, rfl, 116, 0, rfl, by omega, rfl, j_MD_size ?_⟩, fun h2 => absurd h2 hin⟩)
    have e0 : I' 237 0 = nI n := by rw [e]; exact n2
    have := lp_size (I := I') (x := nI v) (y := I' 237 0) (f := f') (g := g) (J := J) (q := q) (by rw [e]; exact m2) m3 (by rw [e0]; exact hq) M 0 0 rfl rfl
    exact this
  have not0 : (v = n ∨ ¬ fo (og gs) 0 M < 2 ^ v) → am_ev am_sh m_MD_size [.ref 236, .int (nI v)] (I, J, am_Rf f g) (fun r2 σ2 => r2 = some (.int (-2)) ∧ Inv σ2) := by
    intro hx
    refine start rfl (j_MD_size ⟨fun h3 => j_MD_size ⟨rfl, inv0⟩, fun h3 => ⟨fun h4 => ?_, fun h4 => ⟨rfl, inv0⟩⟩⟩)
    rcases hx with hx | hx
    · exact absurd (by rw [hx]) h3
    · have h4 : nI (fo (og gs) 0 M) < 1 <<< (nI v &&& 31) := h4
      rw [shl_tab v (by omega)] at h4
      have := pow_le7 (n := v) (by omega)
      exact absurd ((nI_ltI (by omega) (by omega)).mp h4) hx
  refine ⟨1, rfl, rfl, rfl, fun h3 => j_MG_size ⟨-2, rfl, not0 (Or.inl ((nI_eq (by omega) (by omega)).mp (h3.trans n1)))⟩, fun h3 => ⟨1, rfl, rfl, rfl, (ev_hasBeyond st1 m1 m3 _).rt ⟨fun h4 => j_MG_size ?_, fun h4 => ⟨-2, rfl, not0 (Or.inr ?_)⟩⟩⟩⟩
  · have hvn : v ≠ n := fun e => h3 (by show nI v = I 1 0; rw [n1, e])
    have hall : ∀ k, k < M → gs k < 2 ^ v := fun k hk => by
      have := bx_false.mp (b2i_eq0.mp h4) k hk
      have := Decidable.not_not.mp (of_decide_eq_false this)
      rw [(hgs k hk).1] at this
      exact (shr_tab v (by omega) (gs k) (by have := (hgs k hk).2.2.2; omega)).mp this
    refine ⟨15, rfl, rfl, 1, rfl, rfl, rfl, (ev_note hf hp.2.1 hp.1).mono ?_⟩
    rintro r σ' ⟨rfl, I1, f', N1, rfl, hN1, hN2⟩
    have hnow := hN1.now hf hp.1 hN2
    refine ⟨1, rfl, rfl, rfl, 1, rfl, rfl, rfl, nI n, congrArg (fun z => some (Value.int z)) (by rw [hnow 1 (by omega)]; exact n1), ?_⟩
    suffices key : ∀ I2, am_up I1 1 0 (nI v) = I2 → am_ev am_sh m_MD_size [.ref 236, .int (nI v)] (I2, J, am_Rf f' g) (fun r2 σ2 => r2 = some (.int (nI n)) ∧ Inv σ2) from key _ rfl
    intro I2 hI2e
    have hI2 : ∀ c, ¬ (1 ≤ c ∧ c ≤ 14) → I2 c = I1 c := fun c hc => by rw [← hI2e, up_cell (by omega)]
    have i237 : I2 237 = I 237 := (hI2 237 (by omega)).trans (hnow 237 (by omega))
    have i236 : I2 236 = I 236 := (hI2 236 (by omega)).trans (hnow 236 (by omega))
    refine start i237 (j_MD_size ⟨fun h5 => absurd ((nI_eq (by omega) (by omega)).mp h5) hvn, fun h5 => ⟨fun h6 => j_MD_size ?_, fun h6 => absurd ?_ h6⟩⟩)
    · refine ⟨rfl, (ev_notes (N := N) (by rw [i236]; exact hp.2.2.1) hp.1).mono ?_⟩
      rintro r σ' ⟨rfl, I3, N2, rfl, hr1, hr2⟩
      have j237 : I3 237 = I 237 := (hr1.2.2.2.1 237 (by omega) (by omega)).trans i237
      refine ⟨237, rfl, rfl, 116, 0, rfl, by omega, rfl, rfl, _, J, f', g, rfl, noted hf hg ⟨n, M, K, gs, hR⟩ hp hO hN1 hN2 (fun c c1 _ => hI2 c c1) hr1 hr2 (fun c c1 => by rw [up_cell c1]) ⟨v, M, K, gs, hR.grp ⟨?_, am_up_eq, hv1, hv7⟩ ⟨?_, ?_, m3⟩ (fun k hk => ⟨?_, ?_, (hgs k hk).2.2.1, hall k hk⟩) hdis (fun c k c1 c2 c3 c4 => ?_) (fun i i1 i2 i3 i4 => ?_)⟩⟩
      · rw [← hI2e, am_up_eq]
      · rw [← hI2e, am_up_ne (by omega), hnow 1 (by omega)]; exact m1
      · rw [am_up_ne (by omega), j237]; exact m2
      · rw [← hI2e, am_up_ne (by omega), hnow 2 (by omega)]; exact (hgs k hk).1
      · rw [am_up_ne (by omega), j237]; exact (hgs k hk).2.1
      · rw [← hI2e, am_up_ne (by omega), hnow c (by omega)]
      · rw [am_up_ne (by omega), j237]
    · show nI (fo (og gs) 0 M) < 1 <<< (nI v &&& 31)
      rw [shl_tab v (by omega)]
      have := pow_le7 (n := v) (by omega)
      exact nI_lt (og_lt.mpr hall) (by omega)
  · intro hlt
    obtain ⟨k, hk, h5⟩ := bx_iff.mp (b2i_ne0.mp h4)
    have h5 := of_decide_eq_true h5
    rw [(hgs k hk).1] at h5
    exact h5 ((shr_tab v (by omega) (gs k) (by have := (hgs k hk).2.2.2; omega)).mpr (og_lt.mp hlt k hk))
theorem chr_tab : ∀ s, s < 128 → vp_nar .char ((nI s).toUInt32 % 65536).toInt32 = nI s := by decide +kernel
theorem T_type (x : Int32) {σ : am_S} (h : Inv σ) : Both m_MG_type m_MD_type [.int x] σ := by
  obtain ⟨I, J, f, g, rfl, hR, hf, hg, ⟨N, hp⟩, hI, ⟨n, t1, t2, t3, t4⟩, hsh, hby⟩ := h
  have inv0 : Inv (I, J, am_Rf f g) := ⟨I, J, f, g, rfl, hR, hf, hg, ⟨N, hp⟩, hI, ⟨n, t1, t2, t3, t4⟩, hsh, hby⟩
  have bad : ¬ (32 ≤ x ∧ x ≤ 126) → am_ev am_sh m_MD_type [.ref 236, .int x] (I, J, am_Rf f g) (fun r2 σ2 => r2 = some (.int (-1)) ∧ Inv σ2) := by
    intro hx
    refine s_MD_type ((ev_in32 x 32 126 _).rt ⟨fun h2 => absurd (of_decide_eq_true (b2i_ne0.mp h2)) hx, fun _ => ⟨rfl, inv0⟩⟩)
  refine s_MG_type ⟨fun h1 => j_MG_type ⟨-1, rfl, bad (fun q => absurd q.1 (Int32.not_le.mpr h1))⟩, fun h1 => ⟨fun h2 => j_MG_type ?_, fun h2 => ⟨-1, rfl, bad (fun q => absurd q.2 h2)⟩⟩⟩
  have h1 := Int32.not_lt.mp h1
  have hin : ¬ b2i (decide (32 ≤ x ∧ x ≤ 126)) = 0 := b2i_ne0.mpr (decide_eq_true ⟨h1, h2⟩)
  refine ⟨201, rfl, rfl, 203, rfl, rfl, rfl, fun h3 => j_MG_type ?_, fun h3 => ?_⟩
  · have hn : n < 90 := (nI_ltI (by omega) (by omega)).mp (show nI n < nI 90 from t2 ▸ h3)
    refine ⟨201, rfl, rfl, 203, rfl, rfl, rfl, (ev_tapeAppend t2 hn x).rv ⟨201, rfl, rfl, 203, rfl, rfl, rfl, nI (n + 1), congrArg (fun z => some (Value.int z)) am_up_eq, ?_⟩⟩
    obtain ⟨s, hs, rfl⟩ := nI_of (x := x) (fun q => absurd q (Int32.not_lt.mpr (Int32.le_trans (by decide) h1)))
    have hs7 : s ≤ 126 := (nI_leI (b := 126) (by omega) (by omega)).mp h2
    rw [chr_tab s (by omega)]
    suffices key : ∀ I2, am_up (am_up I 204 n (nI s)) 203 0 (nI (n + 1)) = I2 → am_ev am_sh m_MD_type [.ref 236, .int (nI s)] (I2, J, am_Rf f g) (fun r2 σ2 => r2 = some (.int (nI (n + 1))) ∧ Inv σ2) from key _ rfl
    intro I2 hI2e
    have i236 : I2 236 11 = nI n := by rw [← hI2e, am_up_ne (by omega), am_up_ne (by omega)]; exact t3
    refine s_MD_type ((ev_in32 _ 32 126 _).rt ⟨fun _ => j_MD_type ⟨rfl, fun _ => j_MD_type ?_, fun h2 => ?_⟩, fun h2 => absurd h2 hin⟩)
    · refine ⟨245, rfl, rfl, rfl, 90, n, rfl, by omega, i236, rfl, rfl, rfl, ?_⟩
      have e236 : am_up I2 245 n (nI s) 236 11 = nI n := by rw [am_up_ne (by omega)]; exact i236
      refine ⟨?_, _, J, f, g, rfl, ?_, hf, hg, ⟨N, ?_⟩, ?_, ⟨n + 1, by omega, ?_, ?_, fun k hk => ?_⟩, fun t ht => ?_, fun s hs => ?_⟩
      · show some (Value.int (am_up _ 236 11 (am_up I2 245 n (nI s) 236 11 + 1) 236 11)) = _
        rw [am_up_eq, e236, nI_1]
      · refine hR.congr (fun c c1 c2 => ?_) (fun i _ => ?_)
        · rw [up_cell (by omega), up_cell (by omega), ← hI2e, up_cell (by omega), up_cell (by omega)]
        · rw [up_cell (by omega), up_cell (by omega), ← hI2e, up_cell (by omega), up_cell (by omega)]
      · refine PastC.congr hf hp (fun c c1 c2 => ?_) ?_ ?_
        · rw [up_cell (by omega), up_cell (by omega), ← hI2e, up_cell (by omega), up_cell (by omega)]
        · rw [am_up_ne (by omega), up_cell (by omega), ← hI2e, up_cell (by omega), up_cell (by omega)]
        · rw [up_cell (by omega), up_cell (by omega), ← hI2e, up_cell (by omega), up_cell (by omega)]
      · have e : ∀ c, c ≠ 203 → c ≠ 204 → c ≠ 245 → c ≠ 236 → am_up (am_up I2 245 n (nI s)) 236 11 (am_up I2 245 n (nI s) 236 11 + 1) c = I c := fun c c1 c2 c3 c4 => by
          rw [up_cell (by omega), up_cell (by omega), ← hI2e, up_cell (by omega), up_cell (by omega)]
        have e22 : am_up (am_up I2 245 n (nI s)) 236 11 (am_up I2 245 n (nI s) 236 11 + 1) 236 22 = I 236 22 := by
          rw [am_up_ne (by omega), up_cell (by omega), ← hI2e, up_cell (by omega), up_cell (by omega)]
        rcases hI with ⟨i1, i2⟩ | ⟨i1, N', i2, i3, i4, i5, i6⟩
        · exact Or.inl ⟨by rw [e 0 (by omega) (by omega) (by omega) (by omega)]; exact i1, by rw [e22]; exact i2⟩
        · refine Or.inr ⟨by rw [e 0 (by omega) (by omega) (by omega) (by omega)]; exact i1, N', i2, by rw [e 115 (by omega) (by omega) (by omega) (by omega)]; exact i3, by rw [e22]; exact i4, i5.congr (fun c c1 c2 => e c (by omega) (by omega) (by omega) (by omega)) (fun i hi => by rw [e 249 (by omega) (by omega) (by omega) (by omega)]), fun j hj => ?_⟩
          have := hg.lo (j := j) (by omega)
          exact (i6 j hj).congr (fun c c1 c2 => e c (by omega) (by omega) (by omega) (by omega)) (fun i hi => by rw [e 250 (by omega) (by omega) (by omega) (by omega)])
      · rw [up_cell (by omega), up_cell (by omega), ← hI2e, am_up_eq]
      · rw [am_up_eq, e236, nI_1]
      · rw [up_cell (by omega), up_cell (by omega), up_cell (by omega), ← hI2e, up_cell (by omega)]
        by_cases e : k = n
        · subst e
          rw [am_up_eq, am_up_eq]
          exact ⟨rfl, h1, h2⟩
        · rw [am_up_ne (by omega), am_up_ne (by omega), up_cell (by omega), up_cell (by omega)]
          exact t4 k (by omega)
      · obtain ⟨L, l1, l2, l3⟩ := hsh t ht
        refine ⟨L, l1, ?_, ?_⟩
        · rw [up_cell (by omega), up_cell (by omega), ← hI2e, up_cell (by omega), up_cell (by omega)]; exact l2
        · rw [up_cell (by omega), up_cell (by omega), up_cell (by omega), up_cell (by omega), up_cell (by omega), up_cell (by omega), ← hI2e, up_cell (by omega), up_cell (by omega), up_cell (by omega), up_cell (by omega), up_cell (by omega), up_cell (by omega)]; exact l3
      · rw [up_cell (by omega), up_cell (by omega), ← hI2e, up_cell (by omega), up_cell (by omega)]; exact hby s hs
    · have : nI n = nI 90 := i236 ▸ h2
      have := (nI_eq (by omega) (by omega)).mp this
      omega
  · have hn : n = 90 := by
      rcases Nat.lt_or_ge n 90 with q | q
      · exact absurd (by show I 203 0 < nI 90; rw [t2]; exact nI_lt q (by omega)) h3
      · omega
    refine ⟨-3, rfl, s_MD_type ((ev_in32 _ 32 126 _).rt ⟨fun _ => j_MD_type ⟨rfl, fun h4 => absurd (by show I 236 11 = 90; rw [t3, hn]; rfl) h4, fun _ => ⟨rfl, inv0⟩⟩, fun h2 => absurd h2 hin⟩)⟩
end T5
