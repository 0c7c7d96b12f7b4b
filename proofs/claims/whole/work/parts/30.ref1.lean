/-! the reference (236; its row 237): searches and sums -/
def pc12 (x : Nat) : Nat := pc7 x + x / 128 % 2 + x / 256 % 2 + x / 512 % 2 + x / 1024 % 2 + x / 2048 % 2
theorem pc12_tb2 : ∀ a, a < 64 → ∀ b, b < 64 → 0 < 64 * a + b → (64 * a + b) &&& (64 * a + b - 1) < 64 * a + b ∧ pc12 (64 * a + b) = pc12 ((64 * a + b) &&& (64 * a + b - 1)) + 1 := by decide +kernel
theorem pc12_tab (x : Nat) (hx : x < 4096) (h0 : 0 < x) : x &&& (x - 1) < x ∧ pc12 x = pc12 (x &&& (x - 1)) + 1 := by
  have h := pc12_tb2 (x / 64) (by omega) (x % 64) (by omega)
  rw [show 64 * (x / 64) + x % 64 = x by omega] at h
  exact h h0
theorem pc12_7 : ∀ x, x < 128 → pc12 x = pc7 x := by decide +kernel
theorem i4 (k : Nat) : (4 : Int32) + nI k = nI (4 + k) := nI_add 4 k
theorem l64 {x y : Int32} : x.toInt64 ≤ y.toInt64 ↔ x ≤ y := by
  rw [Int64.le_iff_toInt_le, Int32.le_iff_toInt_le]
  simp
theorem l64_0 : (0 : Int64) = (0 : Int32).toInt64 := by decide
section REF1
variable {f g : Nat → Nat} {I : Nat → Nat → Int32} {J : Nat → Nat → Int64}
theorem ev_in (v lo hi : Int64) (σ : am_S) : am_ev am_sh m_MD_in [.long v, .long lo, .long hi] σ (Rt (.int (b2i (decide (lo ≤ v ∧ v ≤ hi)))) σ) := by
  obtain ⟨I, J, R⟩ := σ
  refine s_MD_in ⟨fun h1 => j_MD_in ⟨Or.inl rfl, ?_, rfl⟩, fun h1 => ⟨fun h2 => j_MD_in ⟨Or.inl rfl, ?_, rfl⟩, fun h2 => j_MD_in ⟨Or.inr rfl, ?_, rfl⟩⟩⟩
  · rw [decide_eq_false (fun q => absurd (lgc_lt.mp h1) (Int64.not_lt.mpr q.1))]
    rfl
  · rw [decide_eq_false (fun q => absurd (lgc_le.mpr q.2) (Int32.not_le.mpr h2))]
    rfl
  · rw [decide_eq_true ⟨Int64.not_lt.mp (fun q => h1 (lgc_lt.mpr q)), lgc_le.mp (Int32.not_lt.mp h2)⟩]
    rfl
theorem ev_has (x k : Int32) (σ : am_S) : am_ev am_sh m_MD_has [.int x, .int k] σ (Rt (.int (b2i (decide (x >>> (k &&& 31) &&& 1 = 1)))) σ) := by
  obtain ⟨I, J, R⟩ := σ
  refine s_MD_has ⟨fun h1 => j_MD_has ⟨Or.inl rfl, ?_, rfl⟩, fun h1 => j_MD_has ⟨Or.inr rfl, ?_, rfl⟩⟩
  · rw [decide_eq_false h1]
    rfl
  · rw [decide_eq_true h1]
    rfl
theorem lp_bits {σ : am_S} {y : Int32} {n : Nat} : ∀ x, x < 4096 → ∀ c, c + pc12 x = n → am_u am_sh m_MD_bits (Rt (.int (nI n)) σ) (am_at am_c_MD_bits 4) 4 [some (.int y), some (.int (nI c)), some (.int (nI x))] [] σ := by
  obtain ⟨I, J, R⟩ := σ
  intro x
  induction x using Nat.strongRecOn with
  | ind x ih =>
    intro hx c hc
    by_cases e : x = 0
    · subst e
      have : c = n := by simpa [pc12, pc7] using hc
      subst this
      exact br_t (by decide) (j_MD_bits ⟨rfl, rfl⟩)
    · obtain ⟨g1, g2⟩ := pc12_tab x hx (by omega)
      refine br_f (nI_ne0 (by omega) (by omega)) (j_MD_bits ?_)
      rw [show nI c + 1 = nI (c + 1) from nI_1 c, show nI x - 1 = nI (x - 1) from pk_sub (b := 1) (by omega), nI_and]
      exact ih _ g1 (by omega) (c + 1) (by omega)
theorem ev_bits {x : Nat} (hx : x < 4096) (σ : am_S) : am_ev am_sh m_MD_bits [.int (nI x)] σ (Rt (.int (nI (pc12 x))) σ) := by
  have h := lp_bits (σ := σ) (y := nI x) (n := pc12 x) x hx 0 (by omega)
  obtain ⟨I, J, R⟩ := σ
  exact s_MD_bits (j_MD_bits h)
theorem ev_mall {n : Nat} (hn : I 237 0 = nI n) (h8 : n < 8) : am_ev am_sh m_MD_all [.ref 236] (I, J, am_Rf f g) (Rt (.int (nI (2 ^ n - 1))) (I, J, am_Rf f g)) := by
  refine s_MD_all ⟨237, rfl, rfl, 116, 0, rfl, by omega, rfl, ?_, rfl⟩
  rw [hn, all_tab n h8]
theorem ev_mat {k : Nat} (hk : k < 12) : am_ev am_sh m_MD_at [.ref 236, .int (nI k)] (I, J, am_Rf f g) (Rt (.int (I 237 (4 + k))) (I, J, am_Rf f g)) := s_MD_at ⟨237, rfl, rfl, 116, 4 + k, rfl, by omega, i4 k, rfl, rfl⟩
/-- the last place -/
def lst (G : Nat → Int32) (x : Int32) (k : Nat) (r : Int32) : Int32 := if G k = x then nI k else r
theorem lp_find {M : Nat} {x : Int32} (hM : I 237 1 = nI M) (h12 : M ≤ 12) : ∀ n k s, n + k = M → s = fo (lst (fun k => I 237 (4 + k)) x) (-4) k → am_u am_sh m_MD_find (Rt (.int (fo (lst (fun k => I 237 (4 + k)) x) (-4) M)) (I, J, am_Rf f g)) (am_at am_c_MD_find 5) 5 [some (.ref 236), some (.int x), some (.int s), some (.int (nI k))] [] (I, J, am_Rf f g) := by
  intro n
  induction n with
  | zero =>
    intro k s hk hs
    obtain rfl : k = M := by omega
    rw [hs]
    exact ⟨237, rfl, rfl, 116, 1, rfl, by omega, rfl, br_t (by rw [hM]; exact Int32.le_refl _) (j_MD_find ⟨rfl, rfl⟩)⟩
  | succ n ih =>
    intro k s hk hs
    refine ⟨237, rfl, rfl, 116, 1, rfl, by omega, rfl, br_f (by rw [hM]; exact nI_ge (by omega) (by omega)) ⟨rfl, (ev_mat (by omega)).rt ⟨fun h1 => j_MD_find ?_, fun h1 => j_MD_find ?_⟩⟩⟩
    · refine j_MD_find ?_
      rw [show nI k + 1 = nI (k + 1) from nI_1 k]
      refine ih (k + 1) s (by omega) ?_
      rw [fo_s, ← hs]
      unfold lst
      rw [if_neg h1]
    · refine j_MD_find ?_
      rw [show nI k + 1 = nI (k + 1) from nI_1 k]
      refine ih (k + 1) _ (by omega) ?_
      rw [fo_s, ← hs]
      unfold lst
      rw [if_pos h1]
theorem ev_find {M : Nat} {x : Int32} (hM : I 237 1 = nI M) (h12 : M ≤ 12) : am_ev am_sh m_MD_find [.ref 236, .int x] (I, J, am_Rf f g) (Rt (.int (fo (lst (fun k => I 237 (4 + k)) x) (-4) M)) (I, J, am_Rf f g)) := s_MD_find (j_MD_find (lp_find hM h12 M 0 _ rfl rfl))
theorem lp_mholds {M : Nat} {x : Int32} (hM : I 237 1 = nI M) (h12 : M ≤ 12) : ∀ n k s, n + k = M → s = b2i (bx (fun k => decide (I 237 (4 + k) &&& (x ^^^ (-1)) = 0)) k) → am_u am_sh m_MD_holds (Rt (.int (b2i (bx (fun k => decide (I 237 (4 + k) &&& (x ^^^ (-1)) = 0)) M))) (I, J, am_Rf f g)) (am_at am_c_MD_holds 4) 4 [some (.ref 236), some (.int x), some (.int s), some (.int (nI k))] [] (I, J, am_Rf f g) := by
  intro n
  induction n with
  | zero =>
    intro k s hk hs
    obtain rfl : k = M := by omega
    rw [hs]
    exact ⟨237, rfl, rfl, 116, 1, rfl, by omega, rfl, br_t (by rw [hM]; exact Int32.le_refl _) (j_MD_holds ⟨b2i_01 _, rfl, rfl⟩)⟩
  | succ n ih =>
    intro k s hk hs
    have step : ∀ s', s' = b2i (bx (fun k => decide (I 237 (4 + k) &&& (x ^^^ (-1)) = 0)) (k + 1)) → am_u am_sh m_MD_holds (Rt (.int (b2i (bx (fun k => decide (I 237 (4 + k) &&& (x ^^^ (-1)) = 0)) M))) (I, J, am_Rf f g)) (am_at am_c_MD_holds 35) 35 [some (.ref 236), some (.int x), some (.int s), some (.int (nI k))] [.int s'] (I, J, am_Rf f g) := by
      intro s' hs'
      refine j_MD_holds ?_
      rw [show nI k + 1 = nI (k + 1) from nI_1 k]
      exact ih (k + 1) s' (by omega) hs'
    have e0 : bx (fun k => decide (I 237 (4 + k) &&& (x ^^^ (-1)) = 0)) (k + 1) = (bx (fun k => decide (I 237 (4 + k) &&& (x ^^^ (-1)) = 0)) k || decide (I 237 (4 + k) &&& (x ^^^ (-1)) = 0)) := rfl
    refine ⟨237, rfl, rfl, 116, 1, rfl, by omega, rfl, br_f (by rw [hM]; exact nI_ge (by omega) (by omega)) ⟨fun h1 => j_MD_holds (j_MD_holds (step _ ?_)), fun h1 => ⟨rfl, (ev_mat (by omega)).rt ⟨fun h2 => j_MD_holds (step _ ?_), fun h2 => j_MD_holds (step _ ?_)⟩⟩⟩⟩
    · rw [hs] at h1
      rw [e0, b2i_ne0.mp h1]
      rfl
    · rw [hs] at h1
      rw [e0, b2i_eq0.mp h1, decide_eq_false h2]
      rfl
    · rw [e0, decide_eq_true h2, Bool.or_true]
      rfl
theorem ev_mholds {M : Nat} {x : Int32} (hM : I 237 1 = nI M) (h12 : M ≤ 12) : am_ev am_sh m_MD_holds [.ref 236, .int x] (I, J, am_Rf f g) (Rt (.int (b2i (bx (fun k => decide (I 237 (4 + k) &&& (x ^^^ (-1)) = 0)) M))) (I, J, am_Rf f g)) := s_MD_holds (j_MD_holds (lp_mholds hM h12 M 0 _ rfl rfl))
theorem lp_isMore {M p : Nat} (hM : I 237 1 = nI M) (h12 : M ≤ 12) (hp : p < M) : ∀ n k s, n + k = M → s = b2i (bx (fun k => !Nat.beq k p && decide (I 237 (4 + k) &&& (I 237 (4 + p) ^^^ (-1)) = 0)) k) → am_u am_sh m_MD_isMore (Rt (.int (b2i (bx (fun k => !Nat.beq k p && decide (I 237 (4 + k) &&& (I 237 (4 + p) ^^^ (-1)) = 0)) M))) (I, J, am_Rf f g)) (am_at am_c_MD_isMore 4) 4 [some (.ref 236), some (.int (nI p)), some (.int s), some (.int (nI k))] [] (I, J, am_Rf f g) := by
  intro n
  induction n with
  | zero =>
    intro k s hk hs
    obtain rfl : k = M := by omega
    rw [hs]
    exact ⟨237, rfl, rfl, 116, 1, rfl, by omega, rfl, br_t (by rw [hM]; exact Int32.le_refl _) (j_MD_isMore ⟨b2i_01 _, rfl, rfl⟩)⟩
  | succ n ih =>
    intro k s hk hs
    have step : ∀ s', s' = b2i (bx (fun k => !Nat.beq k p && decide (I 237 (4 + k) &&& (I 237 (4 + p) ^^^ (-1)) = 0)) (k + 1)) → am_u am_sh m_MD_isMore (Rt (.int (b2i (bx (fun k => !Nat.beq k p && decide (I 237 (4 + k) &&& (I 237 (4 + p) ^^^ (-1)) = 0)) M))) (I, J, am_Rf f g)) (am_at am_c_MD_isMore 44) 44 [some (.ref 236), some (.int (nI p)), some (.int s), some (.int (nI k))] [.int s'] (I, J, am_Rf f g) := by
      intro s' hs'
      refine j_MD_isMore ?_
      rw [show nI k + 1 = nI (k + 1) from nI_1 k]
      exact ih (k + 1) s' (by omega) hs'
    have e0 : bx (fun k => !Nat.beq k p && decide (I 237 (4 + k) &&& (I 237 (4 + p) ^^^ (-1)) = 0)) (k + 1) = (bx (fun k => !Nat.beq k p && decide (I 237 (4 + k) &&& (I 237 (4 + p) ^^^ (-1)) = 0)) k || (!Nat.beq k p && decide (I 237 (4 + k) &&& (I 237 (4 + p) ^^^ (-1)) = 0))) := rfl
    refine ⟨237, rfl, rfl, 116, 1, rfl, by omega, rfl, br_f (by rw [hM]; exact nI_ge (by omega) (by omega)) ⟨fun h1 => j_MD_isMore (j_MD_isMore (step _ ?_)), fun h1 => ⟨fun h2 => j_MD_isMore (step _ ?_), fun h2 => ⟨rfl, (ev_mat (by omega)).rt ⟨rfl, (ev_mat (by omega)).rt ⟨fun h3 => j_MD_isMore (step _ ?_), fun h3 => j_MD_isMore (step _ ?_)⟩⟩⟩⟩⟩⟩
    · rw [hs] at h1
      rw [e0, b2i_ne0.mp h1]
      rfl
    · rw [hs] at h1
      have e : k = p := (nI_eq (by omega) (by omega)).mp h2
      rw [e0, b2i_eq0.mp h1, e]
      simp [b2i]
    · rw [hs] at h1
      rw [e0, b2i_eq0.mp h1, decide_eq_false h3, Bool.and_false]
      rfl
    · rw [e0, decide_eq_true h3, nbq (fun q => h2 (by rw [q]))]
      simp [b2i]
theorem ev_isMore {M p : Nat} (hM : I 237 1 = nI M) (h12 : M ≤ 12) (hp : p < M) : am_ev am_sh m_MD_isMore [.ref 236, .int (nI p)] (I, J, am_Rf f g) (Rt (.int (b2i (bx (fun k => !Nat.beq k p && decide (I 237 (4 + k) &&& (I 237 (4 + p) ^^^ (-1)) = 0)) M))) (I, J, am_Rf f g)) := s_MD_isMore (j_MD_isMore (lp_isMore hM h12 hp M 0 _ rfl rfl))
end REF1
