/-! stands on both -/
def su (w : Nat → Nat) (n : Nat) : Nat := fo (fun k s => s + w k) 0 n
theorem su_s (w : Nat → Nat) (n : Nat) : su w (n + 1) = su w n + w n := rfl
theorem su_congr {w v : Nat → Nat} {n : Nat} (h : ∀ k, k < n → w k = v k) : su w n = su v n := by
  unfold su
  exact fo_congr (fun k hk x => by rw [h k hk])
theorem su_add {w v : Nat → Nat} : ∀ n, su (fun k => w k + v k) n = su w n + su v n
  | 0 => rfl
  | n + 1 => by
    rw [su_s, su_s, su_s, su_add n]
    omega
theorem su_one {w : Nat → Nat} {p : Nat} : ∀ n, su (fun k => if p = k then w k else 0) n = if p < n then w p else 0
  | 0 => rfl
  | n + 1 => by
    rw [su_s, su_one n]
    by_cases h : p = n
    · subst h
      rw [if_neg (by omega), if_pos rfl, if_pos (by omega), Nat.zero_add]
    · rw [if_neg h]
      by_cases h2 : p < n
      · rw [if_pos h2, if_pos (by omega)]; rfl
      · rw [if_neg h2, if_neg (by omega)]
theorem su_zero : ∀ n, su (fun _ => 0) n = 0
  | 0 => rfl
  | n + 1 => by rw [su_s, su_zero n]
theorem su_le {w : Nat → Nat} {b : Nat} : ∀ n, (∀ k, k < n → w k ≤ b) → su w n ≤ n * b
  | 0, _ => by rw [Nat.zero_mul]; exact Nat.le_refl _
  | n + 1, h => by
    rw [su_s, Nat.succ_mul]
    have := su_le n (fun k hk => h k (by omega))
    have := h n (by omega)
    omega
/-- sets taken by their counts, or one by one -/
theorem su_count {h : Nat → Bool} {pc w : Nat → Nat} {n : Nat} : ∀ T, (∀ s, s < T → pc s ≤ n) → su (fun k => cn (fun s => h s && decide (pc s = k)) T * w k) (n + 1) = su (fun s => if h s = true then w (pc s) else 0) T
  | 0, _ => by
    show su (fun k => 0 * w k) (n + 1) = 0
    rw [su_congr (v := fun _ => 0) (fun k _ => Nat.zero_mul _), su_zero]
  | T + 1, hp => by
    rw [su_s (fun s => if h s = true then w (pc s) else 0) T, ← su_count (h := h) (w := w) T (fun s hs => hp s (by omega))]
    have e : su (fun k => cn (fun s => h s && decide (pc s = k)) (T + 1) * w k) (n + 1) = su (fun k => cn (fun s => h s && decide (pc s = k)) T * w k + (if pc T = k then (if h T = true then w k else 0) else 0)) (n + 1) := by
      refine su_congr (fun k _ => ?_)
      by_cases h1 : pc T = k
      · cases h2 : h T with
        | true =>
          rw [cn_yes (by show (h T && decide (pc T = k)) = true; rw [h2, decide_eq_true h1]; rfl), Nat.succ_mul, if_pos h1, if_pos rfl]
        | false =>
          rw [cn_no (by show (h T && decide (pc T = k)) = false; rw [h2]; rfl), if_pos h1, if_neg (by decide)]
          rfl
      · rw [cn_no (by show (h T && decide (pc T = k)) = false; rw [decide_eq_false h1, Bool.and_false]), if_neg h1]
        rfl
    rw [e, su_add, su_one (w := fun k => if h T = true then w k else 0), if_pos (by have := hp T (by omega); omega)]
def prd (A B s : Nat) (e p : Nat) : Nat := p * (if tb s e = true then A else B)
theorem prd_eq {A B s p : Nat} : ∀ n, fo (prd A B s) p n = p * (A ^ cn (tb s) n * B ^ (n - cn (tb s) n))
  | 0 => by show p = p * (A ^ 0 * B ^ 0); simp
  | n + 1 => by
    rw [fo_s, prd_eq n]
    have hle := cn_le (tb s) n
    unfold prd
    cases h : tb s n with
    | true =>
      rw [cn_yes h, if_pos rfl, show n + 1 - (cn (tb s) n + 1) = n - cn (tb s) n by omega, Nat.pow_succ]
      simp only [Nat.mul_assoc, Nat.mul_comm, Nat.mul_left_comm]
    | false =>
      rw [cn_no h, if_neg (by decide), show n + 1 - cn (tb s) n = n - cn (tb s) n + 1 by omega, Nat.pow_succ]
      simp only [Nat.mul_assoc, Nat.mul_comm, Nat.mul_left_comm]
theorem cn_pc : ∀ n, n < 8 → ∀ s, s < 2 ^ n → cn (tb s) n = pc7 s := by decide +kernel
theorem pc_le_n {n s : Nat} (h8 : n < 8) (hs : s < 2 ^ n) : pc7 s ≤ n := by
  rw [← cn_pc n h8 s hs]
  exact cn_le _ _
theorem ten_pow : ∀ n, n < 8 → 10 ^ n ≤ 10000000 := by decide
theorem pp_le {c p n : Nat} (hc : c ≤ 10) (hp : p ≤ n) (h8 : n < 8) : (10 - c) ^ p * c ^ (n - p) ≤ 10000000 := by
  have h1 : (10 - c) ^ p ≤ 10 ^ p := Nat.pow_le_pow_left (by omega) p
  have h2 : c ^ (n - p) ≤ 10 ^ (n - p) := Nat.pow_le_pow_left hc (n - p)
  have h3 := Nat.mul_le_mul h1 h2
  rw [← Nat.pow_add, show p + (n - p) = n by omega] at h3
  exact Nat.le_trans h3 (ten_pow n h8)
section T16
variable {f g : Nat → Nat} {I : Nat → Nat → Int32} {J : Nat → Nat → Int64} {M : Nat} {gs : Nat → Nat}
theorem lp_stands {n c : Nat} {x : Int32} {hs : Nat → Bool} {q : am_Q} (hn : I 1 0 = nI n) (h8 : n < 8) (hc : c ≤ 10) (hL : Lk I 206 (2 ^ n) hs) (hq : am_run am_sh m_MG_stands q 92 [some (.ref 0), some (.int (nI c)), some (.int x), some (.int (nI (su (fun k => cn (fun s => hs s && decide (bc (nI s) = nI k)) (2 ^ n) * (10 - c) ^ k * c ^ (n - k)) (n + 1)))), some (.int (nI (n + 1)))] [] (I, J, am_Rf f g)) : ∀ m k s, m + k = n + 1 → s = nI (su (fun k => cn (fun s => hs s && decide (bc (nI s) = nI k)) (2 ^ n) * (10 - c) ^ k * c ^ (n - k)) k) → am_u am_sh m_MG_stands q (am_at am_c_MG_stands 37) 37 [some (.ref 0), some (.int (nI c)), some (.int x), some (.int s), some (.int (nI k))] [] (I, J, am_Rf f g) := by
  have h7 := pow_le7 h8
  intro m
  induction m with
  | zero =>
    intro k s hk hs
    obtain rfl : k = n + 1 := by omega
    subst hs
    exact ⟨1, rfl, rfl, rfl, br_t (by rw [hn]; exact nI_lt (by omega) (by omega)) hq⟩
  | succ m ih =>
    intro k s hk hs
    refine ⟨1, rfl, rfl, rfl, br_f (by rw [hn]; exact nI_nlt (by omega) (by omega)) ⟨206, rfl, rfl, rfl, (ev_ofCount _ Hd_206 hL (by omega) (by omega)).rt ?_⟩⟩
    show am_ev am_sh m_MG_power [.int (nI 10 - nI c), .int (nI k)] _ _
    rw [nI_sub hc]
    refine (ev_power (by omega) _).rt ⟨1, rfl, rfl, rfl, ?_⟩
    show am_ev am_sh m_MG_power [.int (nI c), .int (I 1 0 - nI k)] _ _
    rw [hn, nI_sub (by omega)]
    refine (ev_power (by omega) _).rt (j_MG_stands ?_)
    rw [nI_mul, nI_mul, nI_1, hs, nI_add]
    exact ih (k + 1) _ (by omega) rfl
theorem lp_mst2 {n c s : Nat} {x z w y : Int32} {q : am_Q} {p0 : Nat} (hn : I 237 0 = nI n) (h8 : n < 8) (hc : c ≤ 10) (hs : s < 128) (hq : am_run am_sh m_MD_stands q 100 [some (.ref 236), some (.int (nI c)), some (.int x), some (.int z), some (.int w), some (.int (nI s)), some (.int (nI (fo (prd (10 - c) c s) p0 n))), some (.int (nI n))] [] (I, J, am_Rf f g)) : ∀ m e p, m + e = n → p = nI (fo (prd (10 - c) c s) p0 e) → am_u am_sh m_MD_stands q (am_at am_c_MD_stands 60) 60 [some (.ref 236), some (.int (nI c)), some (.int x), some (.int z), some (.int w), some (.int (nI s)), some (.int p), some (.int (nI e))] [] (I, J, am_Rf f g) := by
  intro m
  induction m with
  | zero =>
    intro e p hk hp
    obtain rfl : e = n := by omega
    subst hp
    exact ⟨237, rfl, rfl, 116, 0, rfl, by omega, rfl, br_t (by rw [hn]; exact nI_le (by omega) (by omega)) hq⟩
  | succ m ih =>
    intro e p hk hp
    refine ⟨237, rfl, rfl, 116, 0, rfl, by omega, rfl, br_f (by rw [hn]; exact nI_ge (by omega) (by omega)) ((ev_htb (by omega) (by omega) _).rt ?_)⟩
    cases hb : tb s e with
    | true =>
      refine br_f (by decide) (j_MD_stands (j_MD_stands ?_))
      show am_u _ _ _ _ _ [_, _, _, _, _, _, some (.int (p * (nI 10 - nI c))), some (.int (nI e + 1))] _ _
      rw [nI_1, nI_sub hc, hp, nI_mul]
      refine ih (e + 1) _ (by omega) ?_
      rw [fo_s]
      generalize fo (prd (10 - c) c s) p0 e = P
      unfold prd
      rw [hb, if_pos rfl]
    | false =>
      refine br_t rfl (j_MD_stands (j_MD_stands ?_))
      show am_u _ _ _ _ _ [_, _, _, _, _, _, some (.int (p * nI c)), some (.int (nI e + 1))] _ _
      rw [nI_1, hp, nI_mul]
      refine ih (e + 1) _ (by omega) ?_
      rw [fo_s]
      generalize fo (prd (10 - c) c s) p0 e = P
      unfold prd
      rw [hb, if_neg (by decide)]
def stw (gs : Nat → Nat) (M n c s : Nat) : Nat := if hlm gs M s = true then (10 - c) ^ pc7 s * c ^ (n - pc7 s) else 0
theorem lp_mst1 {n c : Nat} {x w : Int32} {q : am_Q} (hG : Gm I M gs) (hn : I 237 0 = nI n) (h8 : n < 8) (hc : c ≤ 10) (hq : ∀ v1 v2, am_run am_sh m_MD_stands q 111 [some (.ref 236), some (.int (nI c)), some (.int x), some (.int (nI (su (stw gs M n c) (2 ^ n)))), some (.int w), some (.int (nI (2 ^ n))), v1, v2] [] (I, J, am_Rf f g)) : ∀ m s z v1 v2, m + s = 2 ^ n → z = nI (su (stw gs M n c) s) → am_u am_sh m_MD_stands q (am_at am_c_MD_stands 32) 32 [some (.ref 236), some (.int (nI c)), some (.int x), some (.int z), some (.int w), some (.int (nI s)), v1, v2] [] (I, J, am_Rf f g) := by
  have h7 := pow_le7 h8
  intro m
  induction m with
  | zero =>
    intro s z v1 v2 hk hz
    obtain rfl : s = 2 ^ n := by omega
    subst hz
    exact ⟨rfl, (ev_mall hn h8).rt (br_t (nI_lt (by omega) (by omega)) (hq v1 v2))⟩
  | succ m ih =>
    intro s z v1 v2 hk hz
    refine ⟨rfl, (ev_mall hn h8).rt (br_f (nI_nlt (by omega) (by omega)) ⟨rfl, (ev_mh hG (by omega)).rt ?_⟩)⟩
    have body : ∀ p0, fo (prd (10 - c) c s) p0 n = stw gs M n c s → am_run am_sh m_MD_stands q 60 [some (.ref 236), some (.int (nI c)), some (.int x), some (.int z), some (.int w), some (.int (nI s)), some (.int (nI p0)), some (.int (nI 0))] [] (I, J, am_Rf f g) := by
      intro p0 hp
      refine j_MD_stands (lp_mst2 (p0 := p0) (y := 0) hn h8 hc (by omega) (j_MD_stands (j_MD_stands ?_)) n 0 _ (by omega) rfl)
      rw [hp, nI_1, hz, nI_add]
      exact ih (s + 1) _ _ _ (by omega) rfl
    cases hb : hlm gs M s with
    | true =>
      refine br_f (by decide) (j_MD_stands (body 1 ?_))
      rw [prd_eq, cn_pc n h8 s (by omega)]
      unfold stw
      rw [if_pos hb, Nat.one_mul]
    | false =>
      refine br_t rfl (j_MD_stands (body 0 ?_))
      rw [prd_eq, Nat.zero_mul]
      unfold stw
      rw [if_neg (by rw [hb]; decide)]
theorem lp_mst3 {n : Nat} {c x z : Int32} {v1 v2 : Option Value} {q : am_Q} (hn : I 237 0 = nI n) (h8 : n < 8) (hq : am_run am_sh m_MD_stands q 138 [some (.ref 236), some (.int c), some (.int x), some (.int z), some (.int (nI (10 ^ n))), some (.int (nI n)), v1, v2] [] (I, J, am_Rf f g)) : ∀ m e p, m + e = n → p = nI (10 ^ e) → am_u am_sh m_MD_stands q (am_at am_c_MD_stands 114) 114 [some (.ref 236), some (.int c), some (.int x), some (.int z), some (.int p), some (.int (nI e)), v1, v2] [] (I, J, am_Rf f g) := by
  intro m
  induction m with
  | zero =>
    intro e p hk hp
    obtain rfl : e = n := by omega
    subst hp
    exact ⟨237, rfl, rfl, 116, 0, rfl, by omega, rfl, br_t (by rw [hn]; exact nI_le (by omega) (by omega)) hq⟩
  | succ m ih =>
    intro e p hk hp
    refine ⟨237, rfl, rfl, 116, 0, rfl, by omega, rfl, br_f (by rw [hn]; exact nI_ge (by omega) (by omega)) (j_MD_stands ?_)⟩
    show am_u _ _ _ _ _ [_, _, _, _, some (.int (p * nI 10)), some (.int (nI e + 1)), _, _] _ _
    rw [nI_1, hp, nI_mul]
    exact ih (e + 1) _ (by omega) (by rw [Nat.pow_succ])
theorem T_stands (x y : Int32) {σ : am_S} (h : Inv σ) : Both m_MG_stands m_MD_stands [.int x, .int y] σ := by
  obtain ⟨I, J, f, g, rfl, ⟨n, M, K, gs, hR⟩, hrest⟩ := h
  have inv0 : Inv (I, J, am_Rf f g) := ⟨I, J, f, g, rfl, ⟨n, M, K, gs, hR⟩, hrest⟩
  obtain ⟨⟨n1, n2, n3, n4⟩, ⟨m1, m2, m3⟩, hgs, _⟩ := id hR
  have h8 : n < 8 := by omega
  have h7 := pow_le7 h8
  have bad : ¬ ((0 ≤ x ∧ x ≤ 10) ∧ (0 ≤ y ∧ y ≤ 1)) → am_ev am_sh m_MD_stands [.ref 236, .int x, .int y] (I, J, am_Rf f g) (fun r2 σ2 => r2 = some (.int (-1)) ∧ Inv σ2) := by
    intro hx
    refine s_MD_stands ((ev_in32 x 0 10 _).rt ⟨fun q => j_MD_stands ⟨rfl, inv0⟩, fun q => (ev_in32 y 0 1 _).rt ⟨fun q2 => absurd ⟨of_decide_eq_true (b2i_ne0.mp q), of_decide_eq_true (b2i_ne0.mp q2)⟩ hx, fun _ => ⟨rfl, inv0⟩⟩⟩)
  refine s_MG_stands ⟨fun h1 => j_MG_stands ⟨-1, rfl, bad (fun q => absurd h1 (Int32.not_lt.mpr q.1.1))⟩, fun h1 => ⟨fun h2 => j_MG_stands ⟨-1, rfl, bad (fun q => absurd h2 (Int32.not_lt.mpr q.1.2))⟩, fun h2 => ⟨fun h3 => j_MG_stands ⟨-1, rfl, bad (fun q => absurd h3 (Int32.not_lt.mpr q.2.1))⟩, fun h3 => ⟨fun h4 => j_MG_stands ?_, fun h4 => ⟨-1, rfl, bad (fun q => h4 q.2.2)⟩⟩⟩⟩⟩
  have hx : 0 ≤ x ∧ x ≤ 10 := ⟨Int32.not_lt.mp h1, Int32.not_lt.mp h2⟩
  have hy : 0 ≤ y ∧ y ≤ 1 := ⟨Int32.not_lt.mp h3, h4⟩
  obtain ⟨c, hc, rfl⟩ := nI_of h1
  have hc10 : c ≤ 10 := (nI_leI (b := 10) hc (by omega)).mp hx.2
  refine ⟨206, rfl, rfl, 1, rfl, rfl, rfl, (ev_look st1 Hd_206 (by omega) (by omega) m1 m3 n1 h8).mono ?_⟩
  rintro r σ' ⟨rfl, I1, rfl, hL, hF⟩
  have i237 := hF 237 (by omega) (by omega)
  have hG : Gm I1 M gs := by unfold Gm; rw [i237]; exact hR.gm
  have hn : I1 237 0 = nI n := by rw [i237]; exact n2
  have hn1 : I1 1 0 = nI n := by rw [hF 1 (by omega) (by omega)]; exact n1
  refine j_MG_stands (lp_stands (hs := hol (I (1 + 1)) M) hn1 h8 hc10 hL (j_MG_stands ⟨1, rfl, rfl, rfl, ?_⟩) (n + 1) 0 _ rfl rfl)
  show am_ev am_sh m_MG_power [.int (nI 10), .int (I1 1 0)] _ _
  rw [hn1]
  refine (ev_power (by omega) _).rt ?_
  have hsu : su (fun k => cn (fun s => hol (I (1 + 1)) M s && decide (bc (nI s) = nI k)) (2 ^ n) * (10 - c) ^ k * c ^ (n - k)) (n + 1) = su (stw gs M n c) (2 ^ n) := by
    have e := su_count (h := hlm gs M) (pc := pc7) (w := fun k => (10 - c) ^ k * c ^ (n - k)) (n := n) (2 ^ n) (fun s hs => pc_le_n h8 hs)
    refine Eq.trans (su_congr (fun k hk => ?_)) e
    rw [Nat.mul_assoc]
    congr 1
    refine cn_congr (fun s hs => ?_)
    rw [hol_hlm (by omega) hR.gs, bc_tab s (by omega)]
    congr 1
    rw [decide_eq_decide]
    have := pc_le_n h8 hs
    exact nI_eq (by omega) (by omega)
  have hle : su (stw gs M n c) (2 ^ n) ≤ 128 * 10000000 := by
    have := su_le (w := stw gs M n c) (b := 10000000) (2 ^ n) (fun s hs => by
      unfold stw
      split
      · exact pp_le hc10 (pc_le_n h8 hs) h8
      · omega)
    exact Nat.le_trans this (Nat.mul_le_mul_right _ h7.2)
  have ht := ten_pow n h8
  have hpos : 0 < 10 ^ n := Nat.pow_pos (by omega)
  have hg : 0 < Nat.gcd (su (stw gs M n c) (2 ^ n)) (10 ^ n) := Nat.gcd_pos_of_pos_right _ hpos
  rw [hsu]
  refine (ev_ofFraction (by omega) (by omega) hg y _).rt ⟨_, rfl, ?_⟩
  refine s_MD_stands ((ev_in32 _ 0 10 _).rt ⟨fun q => absurd q (b2i_ne0.mpr (decide_eq_true hx)), fun _ => (ev_in32 y 0 1 _).rt ⟨fun _ => j_MD_stands (j_MD_stands (lp_mst1 hG hn h8 hc10 (fun v1 v2 => j_MD_stands (j_MD_stands (lp_mst3 hn h8 (j_MD_stands ⟨rfl, (ev_reduces (by omega) (by omega) hg).rv ?_⟩) n 0 _ rfl rfl))) (2 ^ n) 0 _ _ _ (by omega) rfl)), fun q => absurd q (b2i_ne0.mpr (decide_eq_true hy))⟩⟩)
  have inv2 : Inv (am_up (am_up I1 236 1 (nI (su (stw gs M n c) (2 ^ n) / Nat.gcd (su (stw gs M n c) (2 ^ n)) (10 ^ n)))) 236 2 (nI (10 ^ n / Nat.gcd (su (stw gs M n c) (2 ^ n)) (10 ^ n))), J, am_Rf f g) := by
    refine ⟨_, J, f, g, rfl, Inv.sm ⟨n, M, K, gs, hR⟩ hrest ⟨fun c c1 c2 => ?_, ?_, ?_, ?_⟩⟩
    · rw [up_cell c2, up_cell c2]
      exact hF c (by unfold Scr at c1; omega) (by unfold Scr at c1; omega)
    · rw [am_up_ne (by omega), am_up_ne (by omega), hF 236 (by omega) (by omega)]
    · rw [am_up_ne (by omega), am_up_ne (by omega), hF 236 (by omega) (by omega)]
    · rw [am_up_ne (by omega), am_up_ne (by omega), hF 236 (by omega) (by omega)]
  refine ⟨fun q => j_MD_stands ⟨rfl, ?_, inv2⟩, fun q => ⟨rfl, j_MD_stands ⟨?_, inv2⟩⟩⟩
  · rw [if_neg q, am_up_eq]
  · rw [if_pos q, am_up_ne (by omega), am_up_eq]
end T16
