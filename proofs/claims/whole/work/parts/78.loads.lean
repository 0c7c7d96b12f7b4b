/-! the reference: slim groups, all pairs; the least load on both -/
theorem or_pow {m k : Nat} (h : m < 2 ^ k) : m ||| 2 ^ k = m + 2 ^ k := by
  have := Nat.two_pow_add_eq_or_of_lt h 1
  rw [Nat.mul_one] at this
  rw [Nat.or_comm, ← this, Nat.add_comm]
section LD
variable {f g : Nat → Nat} {I : Nat → Nat → Int32} {J : Nat → Nat → Int64} {n M : Nat} {gs : Nat → Nat} {q : am_Q}
theorem slm_more {p : Nat} (hG : Gm I M gs) (hp : p < M) : bx (fun k => !Nat.beq k p && decide (I 237 (4 + k) &&& (I 237 (4 + p) ^^^ (-1)) = 0)) M = !slm gs M p := by
  unfold slm
  rw [Bool.not_not]
  refine bx_congr (fun k hk => ?_)
  have g1 := hG.2.2 k hk
  have g2 := hG.2.2 p hp
  rw [g1.1, g2.1]
  congr 1
  have := sb_tab (gs k) g1.2 (gs p) g2.2
  cases hb : sb (gs k) (gs p) with
  | true => exact decide_eq_true (this.mpr hb)
  | false => exact decide_eq_false (fun w => by rw [this.mp w] at hb; cases hb)
theorem lp_slim (hG : Gm I M gs) : ∀ m k, m + k = M → am_u am_sh m_MD_slim (Rt (.int (nI (msk (slm gs M) M))) (I, J, am_Rf f g)) (am_at am_c_MD_slim 4) 4 [some (.ref 236), some (.int (nI (msk (slm gs M) k))), some (.int (nI k))] [] (I, J, am_Rf f g) := by
  have h12 := hG.2.1
  intro m
  induction m with
  | zero =>
    intro k hk
    obtain rfl : k = M := by omega
    exact ⟨237, rfl, rfl, 116, 1, rfl, by omega, rfl, br_t (by rw [hG.1]; exact nI_le (Nat.le_refl _) (by omega)) (j_MD_slim ⟨rfl, rfl⟩)⟩
  | succ m ih =>
    intro k hk
    have nx := ih (k + 1) (by omega)
    refine ⟨237, rfl, rfl, 116, 1, rfl, by omega, rfl, br_f (by rw [hG.1]; exact nI_ge (by omega) (by omega)) ⟨rfl, (ev_isMore hG.1 h12 (show k < M by omega)).rt ?_⟩⟩
    rw [slm_more hG (show k < M by omega)]
    have e : msk (slm gs M) (k + 1) = msk (slm gs M) k + (if slm gs M k = true then 2 ^ k else 0) := rfl
    have hlt := msk_lt (slm gs M) k
    cases hb : slm gs M k with
    | true =>
      rw [e, hb, if_pos rfl, ← or_pow hlt] at nx
      refine br_t rfl (j_MD_slim (j_MD_slim ?_))
      rw [shl_tab k (by omega), nI_or, nI_1]
      exact nx
    | false =>
      rw [e, hb, if_neg (by decide), Nat.add_zero] at nx
      refine br_f (by decide) (j_MD_slim (j_MD_slim ?_))
      rw [Int32.or_zero, nI_1]
      exact nx
theorem ev_slim (hG : Gm I M gs) : am_ev am_sh m_MD_slim [.ref 236] (I, J, am_Rf f g) (Rt (.int (nI (msk (slm gs M) M))) (I, J, am_Rf f g)) := s_MD_slim (j_MD_slim (lp_slim hG M 0 (by omega)))
/-- a pair that is tried -/
def Goal2 (M : Nat) (gs : Nat → Nat) (n G S : Nat) : Prop := G < 4096 ∧ 1 ≤ G ∧ S < 2 ^ n ∧ 1 ≤ S ∧ (∀ u, tb G u = true → u < M ∧ slm gs M u = true) ∧ cn (tb G) 12 = cn (tb S) 12 ∧ ∀ mi me, Enm (tb G) 12 mi → Enm (tb S) 12 me → Pair M gs (cn (tb S) 12) mi me
theorem slim_part {G : Nat} (h12 : M ≤ 12) (hG : G < 4096) : (nI G &&& (nI (msk (slm gs M) M) ^^^ (-1)) = 0) ↔ ∀ u, tb G u = true → u < M ∧ slm gs M u = true := by
  have h1 := msk_lt (slm gs M) M
  have h2 : 2 ^ M ≤ 2 ^ 12 := Nat.pow_le_pow_right (by omega) h12
  rw [sb12 hG (by omega), sbt_iff]
  constructor
  · intro h u hu
    have := h u hu
    rcases Nat.lt_or_ge u M with q | q
    · rw [tb_msk _ _ _ q] at this
      exact ⟨q, this⟩
    · rw [tb_out h1 q] at this; cases this
  · intro h u hu
    obtain ⟨a, b⟩ := h u hu
    rw [tb_msk _ _ _ a]
    exact b
theorem lp_loads2 {s G0 S0 : Nat} (hGm : Gm I M gs) (h8 : n < 8) (hs : s < 2 ^ n) (hg : Goal2 M gs n G0 S0) (K : ∀ y (I' : Nat → Nat → Int32) w4 w5, EFr I' I → (y = true → EvT I' M gs) → (y = false → s < S0) → am_run am_sh m_MD_loads q 83 [some (.ref 236), some (.int (nI (msk (slm gs M) M))), some (.int (b2i y)), some (.int (nI s)), w4, w5] [] (I', J, am_Rf f g)) : ∀ m G y (I' : Nat → Nat → Int32), m + G = 4096 → EFr I' I → (y = true → EvT I' M gs) → (y = false → s < S0 ∨ (s = S0 ∧ G ≤ G0)) → am_u am_sh m_MD_loads q (am_at am_c_MD_loads 30) 30 [some (.ref 236), some (.int (nI (msk (slm gs M) M))), some (.int (b2i y)), some (.int (nI s)), some (.int (nI (cn (tb s) 12))), some (.int (nI G))] [] (I', J, am_Rf f g) := by
  have h12 := hGm.2.1
  have h7 := pow_le7 h8
  have c12 := cn_le (tb s) 12
  intro m
  induction m with
  | zero =>
    intro G y I' hm hF h1 h2
    obtain rfl : G = 4096 := by omega
    exact br_t (by decide) (K y I' _ _ hF h1 (fun e => by
      rcases h2 e with w | ⟨_, w⟩
      · exact w
      · have := hg.1
        omega))
  | succ m ih =>
    intro G y I' hm hF h1 h2
    refine br_f (nI_ge (b := 4096) (by omega) (by omega)) ?_
    cases y with
    | true => exact ⟨fun _ => K true I' _ _ hF h1 (fun e => by cases e), fun e => absurd e (by decide)⟩
    | false =>
      have h2 := h2 rfl
      have gm' : Gm I' M gs := hGm.of (hF.1 237 (by omega) (by omega))
      have skip : ¬ (s = S0 ∧ G = G0) → am_u am_sh m_MD_loads q (am_at am_c_MD_loads 30) 30 [some (.ref 236), some (.int (nI (msk (slm gs M) M))), some (.int (b2i false)), some (.int (nI s)), some (.int (nI (cn (tb s) 12))), some (.int (nI (G + 1)))] [] (I', J, am_Rf f g) := fun hn => ih (G + 1) false I' (by omega) hF (fun e => by cases e) (fun _ => by omega)
      have sp := slim_part (gs := gs) h12 (show G < 4096 by omega)
      refine ⟨fun e => absurd rfl e, fun _ => ⟨fun hq => j_MD_loads (j_MD_loads ?_), fun hq => (ev_bits (show G < 4096 by omega) _).rt ?_⟩⟩
      · rw [nI_1]
        refine skip (fun w => hq (sp.mpr ?_))
        rw [w.2]
        exact hg.2.2.2.2.1
      · have hq := sp.mp hq
        have g12 := cn_le (tb G) 12
        rw [pc12_cn G (by omega)]
        refine ⟨fun hb => j_MD_loads (j_MD_loads ?_), fun hb => ⟨rfl, (ev_evens (z := cn (tb s) 12) gm' (show G < 4096 by omega) (show s < 128 by omega) (fun u hu => (hq u hu).1) ?_ rfl).mono ?_⟩⟩
        · rw [nI_1]
          refine skip (fun w => hb ?_)
          rw [w.1, w.2, hg.2.2.2.2.2.1]
        · have hb : nI (cn (tb G) 12) = nI (cn (tb s) 12) := hb
          rwa [nI_eq (by omega) (by omega)] at hb
        · rintro x σ' ⟨y, I1, rfl, rfl, hF1, t1, t2⟩
          cases y with
          | false =>
            refine br_t rfl (j_MD_loads (j_MD_loads ?_))
            rw [nI_1]
            refine ih (G + 1) false I1 (by omega) (hF1.tr hF) (fun e => by cases e) (fun _ => ?_)
            have : ¬ (s = S0 ∧ G = G0) := fun w => t2 rfl (by rw [w.1, w.2]; exact hg.2.2.2.2.2.2)
            omega
          | true =>
            refine br_f (by decide) (j_MD_loads (j_MD_loads ?_))
            rw [nI_1]
            exact ih (G + 1) true I1 (by omega) (hF1.tr hF) t1 (fun e => by cases e)
abbrev LdQ (f g : Nat → Nat) (I : Nat → Nat → Int32) (J : Nat → Nat → Int64) (M : Nat) (gs : Nat → Nat) : am_Q := fun x σ' => x = none ∧ ∃ I', σ' = (I', J, am_Rf f g) ∧ EFr I' I ∧ EvT I' M gs
theorem lp_loads {G0 S0 : Nat} (hGm : Gm I M gs) (hn : I 237 0 = nI n) (h8 : n < 8) (hg : Goal2 M gs n G0 S0) : ∀ m s y w4 w5 (I' : Nat → Nat → Int32), m + s = 2 ^ n → 1 ≤ s → EFr I' I → (y = true → EvT I' M gs) → (y = false → s ≤ S0) → am_u am_sh m_MD_loads (LdQ f g I J M gs) (am_at am_c_MD_loads 9) 9 [some (.ref 236), some (.int (nI (msk (slm gs M) M))), some (.int (b2i y)), some (.int (nI s)), w4, w5] [] (I', J, am_Rf f g) := by
  have h7 := pow_le7 h8
  have fin : ∀ {I' : Nat → Nat → Int32}, EFr I' I → EvT I' M gs → LdQ f g I J M gs none (I', J, am_Rf f g) := fun {I'} a b => ⟨rfl, I', rfl, a, b⟩
  intro m
  induction m with
  | zero =>
    intro s y w4 w5 I' hm hs hF h1 h2
    obtain rfl : s = 2 ^ n := by omega
    refine ⟨rfl, (ev_mall (n := n) (by rw [hF.1 237 (by omega) (by omega)]; exact hn) h8).rt (br_t (nI_lt (by omega) (by omega)) (j_MD_loads (fin hF (h1 ?_))))⟩
    cases y with
    | true => rfl
    | false =>
      have := h2 rfl
      have := hg.2.2.1
      omega
  | succ m ih =>
    intro s y w4 w5 I' hm hs hF h1 h2
    refine ⟨rfl, (ev_mall (n := n) (by rw [hF.1 237 (by omega) (by omega)]; exact hn) h8).rt (br_f (nI_nlt (by omega) (by omega)) ?_)⟩
    cases y with
    | true => exact ⟨fun _ => j_MD_loads (fin hF (h1 rfl)), fun e => absurd e (by decide)⟩
    | false =>
      refine ⟨fun e => absurd rfl e, fun _ => (ev_bits (show s < 4096 by omega) _).rt ?_⟩
      rw [pc12_cn s (by omega)]
      refine j_MD_loads (lp_loads2 hGm h8 (show s < 2 ^ n by omega) hg (fun y I1 w4 w5 a b c => j_MD_loads (j_MD_loads ?_)) 4095 1 false I' (by omega) hF (fun e => by cases e) (fun _ => ?_))
      · rw [nI_1]
        exact ih (s + 1) y w4 w5 I1 (by omega) (by omega) a b (fun e => c e)
      · have := h2 rfl
        have := hg.2.1
        omega
theorem ev_loads (hGm : Gm I M gs) (hM : 1 ≤ M) (hn : I 237 0 = nI n) (h8 : n < 8) (hgs : ∀ c, c < M → 1 ≤ gs c ∧ gs c < 2 ^ n) (hd : ∀ i j, i < M → j < M → gs i = gs j → i = j) : am_ev am_sh m_MD_loads [.ref 236] (I, J, am_Rf f g) (LdQ f g I J M gs) := by
  have h7 := pow_le7 h8
  obtain ⟨G0, S0, hg⟩ := pair_ex h8 hM hGm.2.1 hgs hd
  exact s_MD_loads ⟨rfl, (ev_slim hGm).rt (j_MD_loads (lp_loads hGm hn h8 hg (2 ^ n - 1) 1 false none none I (by omega) (by omega) (EFr.rf I) (fun e => by cases e) (fun _ => hg.2.2.2.1)))⟩
end LD
theorem frac_eq {a b a' b' : Nat} (ha : 0 < a) (ha' : 0 < a') (h : a * b' = a' * b) : a / Nat.gcd a b = a' / Nat.gcd a' b' ∧ b / Nat.gcd a b = b' / Nat.gcd a' b' := by
  have g0 : 0 < Nat.gcd a b := Nat.gcd_pos_of_pos_left b ha
  have g0' : 0 < Nat.gcd a' b' := Nat.gcd_pos_of_pos_left b' ha'
  have c1 := Nat.coprime_div_gcd_div_gcd g0
  have c2 := Nat.coprime_div_gcd_div_gcd g0'
  have e1 := Nat.div_mul_cancel (Nat.gcd_dvd_left a b)
  have e2 := Nat.div_mul_cancel (Nat.gcd_dvd_right a b)
  have e3 := Nat.div_mul_cancel (Nat.gcd_dvd_left a' b')
  have e4 := Nat.div_mul_cancel (Nat.gcd_dvd_right a' b')
  generalize a / Nat.gcd a b = x at *
  generalize b / Nat.gcd a b = y at *
  generalize a' / Nat.gcd a' b' = x' at *
  generalize b' / Nat.gcd a' b' = y' at *
  generalize Nat.gcd a b = u at *
  generalize Nat.gcd a' b' = w at *
  subst e1 e2 e3 e4
  have k : x * y' = x' * y := by
    have : (u * w) * (x * y') = (u * w) * (x' * y) := by
      rw [show (u * w) * (x * y') = x * u * (y' * w) by ac_rfl, h]
      ac_rfl
    exact Nat.eq_of_mul_eq_mul_left (Nat.mul_pos g0 g0') this
  have d1 : x ∣ x' := c1.dvd_of_dvd_mul_right ⟨y', k.symm⟩
  have d2 : x' ∣ x := c2.dvd_of_dvd_mul_right ⟨y, k⟩
  have ex : x = x' := Nat.dvd_antisymm d1 d2
  refine ⟨ex, ?_⟩
  rw [ex] at k
  have x0 : 0 < x' := Nat.pos_of_mul_pos_right ha'
  exact (Nat.eq_of_mul_eq_mul_left x0 k).symm
/-- what a found pair says of the class's answer -/
theorem EvT.worth {I' : Nat → Nat → Int32} {n M : Nat} {gs B : Nat → Nat} (h8 : n < 8) (hM : 1 ≤ M) (h12 : M ≤ 12) (hgs : ∀ c, c < M → 1 ≤ gs c ∧ gs c < 2 ^ n) (hB : Ok n (lpc n gs) (lph n) (LV n (fun c => c < M)) B) (hF : Fin0 n (lpc n gs) (LV n (fun c => c < M)) B) (h : EvT I' M gs) : ∃ D Z : Nat, (D : Int) = sD n (lpc n gs) B ∧ (Z : Int) = sP n (lpc n gs) B n (lph n) ∧ 0 < D ∧ 0 < Z ∧ D ≤ 40320 ∧ Z ≤ 40320 ∧ I' 236 1 = nI (D / Nat.gcd D Z) ∧ I' 236 2 = nI (Z / Nat.gcd D Z) := by
  obtain ⟨ov, ot, E, W, ⟨o1, o2⟩, e1, e2, w1, w2, l1, key, a, b, ha, hb, a31, b31, r1, r2⟩ := h
  have cut : ∀ c, c < M → zs (fun e => zb (gs c) e * E e) 7 = zs (fun e => zb (gs c) e * E e) n := fun c hc => zs_cut (by omega) (fun u x _ => by rw [zb_tb (gs c) u, tb_out (hgs c hc).2 x, if_neg (by decide), Int.zero_mul])
  have hw1 := weak1 (E := E) (ov := ov) hB (fun e he => e1 e (by omega)) (fun c _ hc => by rw [← cut c hc]; exact e2 c hc)
  have hw2 := weak2 (W := W) (ot := ot) hF (fun c hc => w1 c hc) (fun c hc hn => w2 c hc hn) (fun e he => by
    rw [zs_cut (a := M) (b := 12) h12 (fun u x y => by
      have : W u = 0 := Classical.byContradiction (fun q => by have := w2 u y q; omega)
      rw [this, Int.mul_zero])]
    exact l1 e (by omega))
  have D0 := hB.2.2.1
  have le7 : zs E n ≤ zs E 7 := by
    obtain ⟨d, hd⟩ : ∃ d, 7 = n + d := ⟨7 - n, by omega⟩
    rw [hd, zs_app]
    have := zs_nn (F := fun i => E (n + i)) (n := d) (fun i hi => e1 _ (by omega))
    omega
  have s1 := Int.mul_le_mul_of_nonneg_left le7 (Int.le_of_lt D0)
  have s2 := Int.mul_le_mul_of_nonneg_left hw2 (Int.le_of_lt o1)
  have q1 : ov * (sD n (lpc n gs) B * zs W 12) = ot * (sD n (lpc n gs) B * zs E 7) := by rw [Int.mul_left_comm, key, Int.mul_left_comm]
  have q2 : ov * (ot * sP n (lpc n gs) B n (lph n)) = ot * (sP n (lpc n gs) B n (lph n) * ov) := by rw [Int.mul_left_comm, Int.mul_comm ov]
  rw [q1, q2] at s2
  have s3 := le_cancel o2 s2
  have eq : sP n (lpc n gs) B n (lph n) * ov = sD n (lpc n gs) B * zs E 7 := by omega
  have Epos : 0 < zs E 7 := by
    have t1 := e2 0 (by omega)
    have t2 : zs (fun e => zb (gs 0) e * E e) 7 ≤ zs E 7 := zs_le (fun e he => by
      have := zb_01 (gs 0) e
      have := Int.mul_le_mul_of_nonneg_right this.2 (e1 e he)
      rw [Int.one_mul] at this
      exact this)
    omega
  have Zpos : 0 < sP n (lpc n gs) B n (lph n) := by
    have : 0 < sP n (lpc n gs) B n (lph n) * ov := by rw [eq]; exact Int.mul_pos D0 Epos
    by_cases q : 0 < sP n (lpc n gs) B n (lph n)
    · exact q
    · have := Int.mul_nonneg (show 0 ≤ - sP n (lpc n gs) B n (lph n) by omega) (Int.le_of_lt o1)
      rw [Int.neg_mul] at this
      omega
  have ab1 : (sD n (lpc n gs) B).natAbs ≤ 40320 := sD_abs h8
  have ab2 : (sP n (lpc n gs) B n (lph n)).natAbs ≤ 40320 := sP_abs h8 lph_abs
  obtain ⟨D, hD⟩ : ∃ D : Nat, (D : Int) = sD n (lpc n gs) B := ⟨(sD n (lpc n gs) B).toNat, Int.toNat_of_nonneg (by omega)⟩
  obtain ⟨Z, hZ⟩ : ∃ Z : Nat, (Z : Int) = sP n (lpc n gs) B n (lph n) := ⟨(sP n (lpc n gs) B n (lph n)).toNat, Int.toNat_of_nonneg (by omega)⟩
  have nat : a * Z = D * b := by
    rw [← hD, ← hZ, ← ha, ← hb, ← Int.natCast_mul, ← Int.natCast_mul, Int.ofNat_inj] at eq
    rw [Nat.mul_comm]
    exact eq
  have fr := frac_eq (a := a) (b := b) (a' := D) (b' := Z) (by omega) (by omega) nat
  refine ⟨D, Z, hD, hZ, by omega, by omega, by omega, by omega, ?_, ?_⟩
  · rw [r1, fr.1]
  · rw [r2, fr.2]
