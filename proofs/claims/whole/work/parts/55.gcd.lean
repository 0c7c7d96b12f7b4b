/-! whole parts, rests, the greatest common divisor, powers -/
theorem nI_div {a b : Nat} (ha : a < 2 ^ 31) (hb : b < 2 ^ 31) : nI a / nI b = nI (a / b) := by
  apply Int32.toInt_inj.mp
  have hd : a / b ≤ a := Nat.div_le_self a b
  rw [Int32.toInt_div, nI_toInt ha, nI_toInt hb, nI_toInt (by omega), Int.tdiv_eq_ediv_of_nonneg (by omega), ← Int.natCast_ediv, Int.bmod_def]
  generalize a / b = d at hd ⊢
  split <;> omega
theorem nI_rem {a b : Nat} (ha : a < 2 ^ 31) (hb : b < 2 ^ 31) : nI a - nI a / nI b * nI b = nI (a % b) := by
  have h := Nat.div_mul_le_self a b
  rw [nI_div ha hb, nI_mul, nI_sub h]
  congr 1
  have := Nat.div_add_mod a b
  rw [Nat.mul_comm] at this
  omega
theorem mod_half {b r : Nat} (h0 : 0 < r) (h : r < b) : 2 * (b % r) < b := by
  have h1 := Nat.mod_lt b h0
  have h2 : b % r ≤ b - r := by
    rw [Nat.mod_eq_sub_mod (Nat.le_of_lt h)]
    exact Nat.mod_le _ _
  omega
section T15
variable {f g : Nat → Nat} {I : Nat → Nat → Int32} {J : Nat → Nat → Int64}
theorem lp_cd {σ : am_S} {x y : Int32} {G : Nat} {q : am_Q} (hq : q (some (.int (nI G))) σ) : ∀ k a b st w, b < 2 ^ k → k ≤ 31 → a < 2 ^ 31 → 2 * k + st ≤ 64 → Nat.gcd a b = G → am_u am_sh m_MG_commonDivisor q (am_at am_c_MG_commonDivisor 7) 7 [some (.int x), some (.int y), some (.int (nI a)), some (.int (nI b)), some (.int (nI st)), w] [] σ := by
  obtain ⟨I, J, R⟩ := σ
  have fin : ∀ a st w, Nat.gcd a 0 = G → am_u am_sh m_MG_commonDivisor q (am_at am_c_MG_commonDivisor 7) 7 [some (.int x), some (.int y), some (.int (nI a)), some (.int (nI 0)), some (.int (nI st)), w] [] (I, J, R) := by
    intro a st w hG
    rw [Nat.gcd_zero_right] at hG
    subst hG
    exact br_t rfl (j_MG_commonDivisor hq)
  intro k
  induction k with
  | zero =>
    intro a b st w hb hk ha hs hG
    obtain rfl : b = 0 := by omega
    exact fin a st w hG
  | succ k ih =>
    intro a b st w hb hk ha hs hG
    rcases Nat.eq_zero_or_pos b with h0 | h0
    · subst h0
      exact fin a st w hG
    · have hb31 : b < 2 ^ 31 := Nat.lt_of_lt_of_le hb (Nat.pow_le_pow_right (by omega) hk)
      refine br_f (nI_ne0 h0 hb31) (br_f (nI_ge (b := 64) (by omega) (by omega)) ⟨nI_ne0 h0 hb31, j_MG_commonDivisor ?_⟩)
      have hr := Nat.mod_lt a h0
      rw [nI_rem ha hb31, nI_1]
      have hG1 : Nat.gcd b (a % b) = G := by rw [Nat.gcd_comm, ← Nat.gcd_rec, Nat.gcd_comm]; exact hG
      rcases Nat.eq_zero_or_pos (a % b) with h1 | h1
      · rw [h1] at hG1 ⊢
        exact fin b (st + 1) _ hG1
      · refine br_f (nI_ne0 h1 (by omega)) (br_f (nI_ge (b := 64) (by omega) (by omega)) ⟨nI_ne0 h1 (by omega), j_MG_commonDivisor ?_⟩)
        rw [nI_rem hb31 (by omega), nI_1]
        have hh := mod_half h1 hr
        refine ih (a % b) (b % (a % b)) (st + 1 + 1) _ ?_ (by omega) (by omega) (by omega) ?_
        · rw [Nat.pow_succ] at hb
          omega
        · rw [Nat.gcd_comm, ← Nat.gcd_rec, Nat.gcd_comm]
          exact hG1
theorem ev_cd {a b : Nat} (ha : a < 2 ^ 31) (hb : b < 2 ^ 31) (σ : am_S) : am_ev am_sh m_MG_commonDivisor [.int (nI a), .int (nI b)] σ (Rt (.int (nI (Nat.gcd a b))) σ) := by
  obtain ⟨I, J, R⟩ := σ
  exact s_MG_commonDivisor (j_MG_commonDivisor (lp_cd ⟨rfl, rfl⟩ 31 a b 0 none hb (Nat.le_refl _) ha (by omega) rfl))
theorem ev_ofFraction {a b : Nat} (ha : a < 2 ^ 31) (hb : b < 2 ^ 31) (h0 : 0 < Nat.gcd a b) (x : Int32) (σ : am_S) : am_ev am_sh m_MG_ofFraction [.int (nI a), .int (nI b), .int x] σ (Rt (.int (if x = 0 then nI (a / Nat.gcd a b) else nI (b / Nat.gcd a b))) σ) := by
  obtain ⟨I, J, R⟩ := σ
  have hg : Nat.gcd a b < 2 ^ 31 := by
    rcases Nat.eq_zero_or_pos a with h | h
    · rw [h, Nat.gcd_zero_left]; exact hb
    · have := Nat.gcd_le_left b h
      omega
  refine s_MG_ofFraction ((ev_cd ha hb _).rt ⟨fun h1 => j_MG_ofFraction ⟨fun h2 => j_MG_ofFraction ⟨h1, ?_, rfl⟩, fun h2 => j_MG_ofFraction ⟨h1, ?_, rfl⟩⟩, fun h1 => absurd h1 (nI_ne0 h0 hg)⟩)
  · rw [if_neg h2, nI_div hb hg]
  · rw [if_pos h2, nI_div ha hg]
theorem lp_reduces {σ : am_S} {A B G : Nat} {q : am_Q} (hq : ∀ w, am_run am_sh m_MD_reduces q 26 [some (.ref 236), some (.int (nI A)), some (.int (nI B)), some (.int (nI G)), some (.int (nI 0)), w] [] σ) : ∀ b a w, a < 2 ^ 31 → b < 2 ^ 31 → Nat.gcd a b = G → am_u am_sh m_MD_reduces q (am_at am_c_MD_reduces 5) 5 [some (.ref 236), some (.int (nI A)), some (.int (nI B)), some (.int (nI a)), some (.int (nI b)), w] [] σ := by
  obtain ⟨I, J, R⟩ := σ
  intro b
  induction b using Nat.strongRecOn with
  | ind b ih =>
    intro a w ha hb hG
    rcases Nat.eq_zero_or_pos b with h0 | h0
    · subst h0
      rw [Nat.gcd_zero_right] at hG
      subst hG
      exact br_t rfl (hq w)
    · refine br_f (nI_ne0 h0 hb) ⟨nI_ne0 h0 hb, j_MD_reduces ?_⟩
      have hr := Nat.mod_lt a h0
      rw [nI_rem ha hb]
      refine ih (a % b) hr b _ hb (by omega) ?_
      rw [Nat.gcd_comm, ← Nat.gcd_rec, Nat.gcd_comm]
      exact hG
theorem ev_reduces {a b : Nat} (ha : a < 2 ^ 31) (hb : b < 2 ^ 31) (h0 : 0 < Nat.gcd a b) : am_ev am_sh m_MD_reduces [.ref 236, .int (nI a), .int (nI b)] (I, J, am_Rf f g) (Rv (am_up (am_up I 236 1 (nI (a / Nat.gcd a b))) 236 2 (nI (b / Nat.gcd a b)), J, am_Rf f g)) := by
  have hg : Nat.gcd a b < 2 ^ 31 := by
    rcases Nat.eq_zero_or_pos a with h | h
    · rw [h, Nat.gcd_zero_left]; exact hb
    · have := Nat.gcd_le_left b h
      omega
  refine s_MD_reduces (j_MD_reduces (lp_reduces (σ := (I, J, am_Rf f g)) ?_ b a none ha hb rfl))
  intro w
  refine j_MD_reduces ⟨nI_ne0 h0 hg, rfl, nI_ne0 h0 hg, rfl, rfl, ?_⟩
  rw [nI_div ha hg, nI_div hb hg]
theorem lp_power {σ : am_S} {b t : Nat} {q : am_Q} (ht : t < 2 ^ 31) (hq : q (some (.int (nI (b ^ t)))) σ) : ∀ n k p, n + k = t → p = nI (b ^ k) → am_u am_sh m_MG_power q (am_at am_c_MG_power 4) 4 [some (.int (nI b)), some (.int (nI t)), some (.int p), some (.int (nI k))] [] σ := by
  obtain ⟨I, J, R⟩ := σ
  intro n
  induction n with
  | zero =>
    intro k p hk hp
    obtain rfl : k = t := by omega
    subst hp
    exact br_t (nI_le (by omega) ht) (j_MG_power hq)
  | succ n ih =>
    intro k p hk hp
    refine br_f (nI_ge (by omega) ht) (j_MG_power ?_)
    rw [nI_1, hp, nI_mul]
    exact ih (k + 1) _ (by omega) (by rw [Nat.pow_succ])
theorem ev_power {b t : Nat} (ht : t < 2 ^ 31) (σ : am_S) : am_ev am_sh m_MG_power [.int (nI b), .int (nI t)] σ (Rt (.int (nI (b ^ t))) σ) := by
  obtain ⟨I, J, R⟩ := σ
  exact s_MG_power (j_MG_power (lp_power ht ⟨rfl, rfl⟩ t 0 _ (by omega) rfl))
end T15
