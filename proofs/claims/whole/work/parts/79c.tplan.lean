/-! plan on both -/
section TP
variable {f g : Nat → Nat} {I : Nat → Nat → Int32} {J : Nat → Nat → Int64} {M : Nat} {gs : Nat → Nat} {q : am_Q}
theorem lp_mplan {x y s3 s4 : Int32} {W : Nat → Int} (hG : Gm I M gs) (hW : ∀ k, k < M → I 242 k = zI (W k)) (hb : ∀ e, e < 7 → 0 ≤ zs (fun k => zb (gs k) e * W k) M ∧ zs (fun k => zb (gs k) e * W k) M ≤ 100000) (K : ∀ w6 w7, am_run am_sh m_MD_plan q 101 [some (.ref 236), some (.int x), some (.int y), some (.int s3), some (.int s4), some (.int (zI (mxf (fun e => zs (fun k => zb (gs k) e * W k) M) 7))), w6, w7] [] (I, J, am_Rf f g)) : ∀ m e w7, m + e = 7 → am_u am_sh m_MD_plan q (am_at am_c_MD_plan 64) 64 [some (.ref 236), some (.int x), some (.int y), some (.int s3), some (.int s4), some (.int (zI (mxf (fun e => zs (fun k => zb (gs k) e * W k) M) e))), some (.int (nI e)), w7] [] (I, J, am_Rf f g) := by
  intro m
  induction m with
  | zero =>
    intro e w7 he
    obtain rfl : e = 7 := by omega
    exact br_t (by decide) (K _ _)
  | succ m ih =>
    intro e w7 he
    have h1 := hb e (by omega)
    have n1 := mxf_nn (fun e => zs (fun k => zb (gs k) e * W k) M) e
    have n2 := mxf_le (L := fun e => zs (fun k => zb (gs k) e * W k) M) (B := 100000) (by omega) e (fun e' he' => (hb e' (by omega)).2)
    have cmp : zI (zs (fun k => zb (gs k) e * W k) M) ≤ zI (mxf (fun e => zs (fun k => zb (gs k) e * W k) M) e) ↔ zs (fun k => zb (gs k) e * W k) M ≤ mxf (fun e => zs (fun k => zb (gs k) e * W k) M) e := zI_le (by omega) (by omega) (by omega) (by omega)
    have nx := ih (e + 1) w7 (by omega)
    have me : mxf (fun e => zs (fun k => zb (gs k) e * W k) M) (e + 1) = if mxf (fun e => zs (fun k => zb (gs k) e * W k) M) e < zs (fun k => zb (gs k) e * W k) M then zs (fun k => zb (gs k) e * W k) M else mxf (fun e => zs (fun k => zb (gs k) e * W k) M) e := rfl
    rw [me] at nx
    refine br_f (nI_ge (b := 7) (by omega) (by omega)) ⟨rfl, (ev_loadOf hG (by omega) hW).rt ⟨fun h2 => j_MD_plan (j_MD_plan ?_), fun h2 => ⟨rfl, (ev_loadOf hG (by omega) hW).rt (j_MD_plan (j_MD_plan ?_))⟩⟩⟩
    · have h2 := cmp.mp h2
      rw [nI_1]
      rw [if_neg (by omega)] at nx
      exact nx
    · have h2 := mt cmp.mpr h2
      rw [nI_1]
      rw [if_pos (by omega)] at nx
      exact nx
theorem ev_reduces2 {u v : Int32} {a b : Nat} (hu : u = nI a) (hv : v = nI b) (ha : a < 2 ^ 31) (hb : b < 2 ^ 31) (h0 : 0 < Nat.gcd a b) : am_ev am_sh m_MD_reduces [.ref 236, .int u, .int v] (I, J, am_Rf f g) (Rv (am_up (am_up I 236 1 (nI (a / Nat.gcd a b))) 236 2 (nI (b / Nat.gcd a b)), J, am_Rf f g)) := by
  rw [hu, hv]
  exact ev_reduces ha hb h0
theorem frac_iff {a b a' b' : Nat} (hb : 0 < b) (ha' : 0 < a') (hb' : 0 < b') : (a / Nat.gcd a b = a' / Nat.gcd a' b' ∧ b / Nat.gcd a b = b' / Nat.gcd a' b') ↔ a * b' = b * a' := by
  constructor
  · rintro ⟨h1, h2⟩
    have e1 := Nat.div_mul_cancel (Nat.gcd_dvd_left a b)
    have e2 := Nat.div_mul_cancel (Nat.gcd_dvd_right a b)
    have e3 := Nat.div_mul_cancel (Nat.gcd_dvd_left a' b')
    have e4 := Nat.div_mul_cancel (Nat.gcd_dvd_right a' b')
    rw [h1] at e1
    rw [h2] at e2
    generalize a' / Nat.gcd a' b' = x at *
    generalize b' / Nat.gcd a' b' = y at *
    generalize Nat.gcd a b = u at *
    generalize Nat.gcd a' b' = w at *
    rw [← e1, ← e2, ← e3, ← e4]
    ac_rfl
  · intro h
    have ha : 0 < a := by
      rcases Nat.eq_zero_or_pos a with q | q
      · rw [q, Nat.zero_mul] at h
        have := Nat.mul_pos hb ha'
        omega
      · exact q
    exact frac_eq ha ha' (by rw [h, Nat.mul_comm])
theorem T_plan (x y : Int32) {σ : am_S} (h : Inv σ) : Both m_MG_plan m_MD_plan [.int x, .int y] σ := by
  obtain ⟨I, J, f, g, rfl, ⟨n, M, K, gs, hR⟩, hrest⟩ := h
  have inv0 : Inv (I, J, am_Rf f g) := ⟨I, J, f, g, rfl, ⟨n, M, K, gs, hR⟩, hrest⟩
  obtain ⟨⟨n1, n2, n3, n4⟩, ⟨m1, m2, m3⟩, hgs, hdis, _, ⟨k1, k2, k3⟩, hpl, hpv, _⟩ := id hR
  have h8 : n < 8 := by omega
  have h7 := pow_le7 h8
  have bad : ¬ ((0 ≤ x ∧ x ≤ 99) ∧ (0 ≤ y ∧ y ≤ 3)) → am_ev am_sh m_MD_plan [.ref 236, .int x, .int y] (I, J, am_Rf f g) (fun r2 σ2 => r2 = some (.int (-1)) ∧ Inv σ2) := by
    intro hx
    exact s_MD_plan ((ev_in32 x 0 99 _).rt ⟨fun q => j_MD_plan ⟨rfl, inv0⟩, fun q => (ev_in32 y 0 3 _).rt ⟨fun q2 => absurd ⟨of_decide_eq_true (b2i_ne0.mp q), of_decide_eq_true (b2i_ne0.mp q2)⟩ hx, fun _ => ⟨rfl, inv0⟩⟩⟩)
  refine s_MG_plan ⟨fun h1 => j_MG_plan ⟨-1, rfl, bad (fun q => absurd h1 (Int32.not_lt.mpr q.1.1))⟩, fun h1 => ⟨fun h2 => j_MG_plan ⟨-1, rfl, bad (fun q => absurd h2 (Int32.not_lt.mpr q.1.2))⟩, fun h2 => ⟨fun h3 => j_MG_plan ⟨-1, rfl, bad (fun q => absurd h3 (Int32.not_lt.mpr q.2.1))⟩, fun h3 => ⟨fun h4 => j_MG_plan ?_, fun h4 => ⟨-1, rfl, bad (fun q => h4 q.2.2)⟩⟩⟩⟩⟩
  have hx : 0 ≤ x ∧ x ≤ 99 := ⟨Int32.not_lt.mp h1, Int32.not_lt.mp h2⟩
  have hy : 0 ≤ y ∧ y ≤ 3 := ⟨Int32.not_lt.mp h3, h4⟩
  have hin1 : b2i (decide (0 ≤ x ∧ x ≤ 99)) ≠ 0 := b2i_ne0.mpr (decide_eq_true hx)
  have hin2 : b2i (decide (0 ≤ y ∧ y ≤ 3)) ≠ 0 := b2i_ne0.mpr (decide_eq_true hy)
  refine ⟨1, rfl, rfl, 3, rfl, rfl, rfl, (ev_plPlaceOf st1 k1 k3 x).rt ?_⟩
  -- the reference's beginning
  have head : ∀ {I1 : Nat → Nat → Int32} {q : am_Q}, I1 237 = I 237 → am_u am_sh m_MD_plan q (am_at am_c_MD_plan 32) 32 [some (.ref 236), some (.int x), some (.int y), some (.int (oi4 (fi (fun k => decide (I (1 + 3) k = x)) K))), none, none, none, none] [] (I1, J, am_Rf f g) → am_ev am_sh m_MD_plan [.ref 236, .int x, .int y] (I1, J, am_Rf f g) q := fun {I1 q} e hq => s_MD_plan ((ev_in32 x 0 99 _).rt ⟨fun q => absurd q hin1, fun _ => (ev_in32 y 0 3 _).rt ⟨fun _ => j_MD_plan ⟨rfl, (ev_planAt (C := I) (a := 1) (by rw [e]; exact hR)).rt hq⟩, fun q => absurd q hin2⟩⟩)
  cases hfi : fi (fun k => decide (I (1 + 3) k = x)) K with
  | none =>
    rw [hfi] at head
    refine br_t (by decide) (j_MG_plan (br_f (by decide) (j_MG_plan ⟨-4, rfl, head rfl (br_t (by decide) (j_MD_plan ⟨rfl, inv0⟩))⟩)))
  | some p =>
    rw [hfi] at head
    have hpK : p < K := (fi_some hfi).1
    have hp4 : p < 4 := by omega
    have p31 : p < 2 ^ 31 := by omega
    refine br_f (nI_pos p31) ⟨fun h5 => j_MG_plan ?_, fun h5 => br_t (nI_pos' p31) (j_MG_plan ⟨nI p, rfl, head rfl (br_f (nI_pos p31) ⟨fun h6 => absurd h5 h6, fun _ => ⟨rfl, inv0⟩⟩)⟩)⟩
    -- the plan's sets and weights
    obtain ⟨ps, pw, hp⟩ : ∃ ps pw : Nat → Nat, ∀ i, i < 12 → I 237 (16 + 25 * p + 1 + i) = nI (ps i) ∧ ps i < 128 ∧ I 237 (16 + 25 * p + 13 + i) = nI (pw i) ∧ pw i ≤ 99 := by
      refine ⟨fun i => (I 237 (16 + 25 * p + 1 + i)).toInt.toNat, fun i => (I 237 (16 + 25 * p + 13 + i)).toInt.toNat, fun i hi => ?_⟩
      obtain ⟨s, w, a1, a2, a3, a4⟩ := hpv p i hpK hi
      dsimp only
      rw [a1, a3, nI_toInt (by omega), nI_toInt (by omega)]
      exact ⟨rfl, a2, rfl, a4⟩
    have hpc : ∀ i, i < 12 → I (1 + 5 + p) i = nI (ps i) ∧ ps i < 128 ∧ I (1 + 10 + p) i = nI (pw i) := fun i hi => by
      have c := (hpl p hpK).2 i hi
      have d := hp i hi
      exact ⟨by rw [c.1]; exact d.1, d.2.1, by rw [c.2]; exact d.2.2.1⟩
    have hpr : ∀ i, i < 12 → I 237 (16 + 25 * p + 1 + i) = nI (ps i) ∧ ps i < 128 ∧ I 237 (16 + 25 * p + 13 + i) = nI (pw i) := fun i hi => ⟨(hp i hi).1, (hp i hi).2.1, (hp i hi).2.2.1⟩
    have hw : ∀ i, i < 12 → pw i ≤ 99 := fun i hi => (hp i hi).2.2.2
    have hg1 : ∀ k, k < M → I 2 k = nI (gs k) ∧ gs k < 128 := fun k hk => ⟨(hgs k hk).1, by have := (hgs k hk).2.2.2; omega⟩
    have hg2 : ∀ c, c < M → 1 ≤ gs c ∧ gs c < 2 ^ n := fun c hc => (hgs c hc).2.2
    -- all together
    have tog : fo (wof I 1 M p (nI (2 ^ n - 1))) 0 12 = zI (zs (pwk ps pw gs 12) M) := by
      rw [wof_sum (T := fun _ => true) hdis hg1 hpc (fun i hi hgr => ?_) 12 (Nat.le_refl _)]
      · exact congrArg zI (zs_congr (fun k _ => by rw [if_pos rfl, Int.one_mul]))
      · obtain ⟨k, hk, e⟩ := hgr
        have := hg2 k hk
        rw [nI_and, Nat.and_two_pow_sub_one_eq_mod, Nat.mod_eq_of_lt (by omega), nI_0iff (by omega)]
        exact ⟨fun _ => rfl, fun _ => by omega⟩
    have ld : ∀ e, e < 7 → fo (wof I 1 M p ((1 : Int32) <<< (nI e &&& 31))) 0 12 = zI (zs (fun k => zb (gs k) e * pwk ps pw gs 12 k) M) := fun e he => by
      rw [shl_tab e (by omega), wof_sum (T := fun s => tb s e) hdis hg1 hpc (fun i hi _ => ?_) 12 (Nat.le_refl _)]
      · exact congrArg zI (zs_congr (fun k _ => by rw [← zb_tb]))
      · have := and_tab (ps i) (hpc i hi).2.1 e he
        cases hb : tb (ps i) e with
        | true =>
          rw [hb] at this
          exact ⟨fun _ => rfl, fun _ => of_decide_eq_false this⟩
        | false =>
          rw [hb] at this
          exact ⟨fun w => absurd (of_decide_eq_true this) w, fun w => by cases w⟩
    have Wab : ∀ k, (pwk ps pw gs 12 k).natAbs ≤ 1188 := fun k => pwk_abs (Nat.le_refl _) hw
    have Wnn : ∀ k, 0 ≤ pwk ps pw gs 12 k := fun k => pwk_nn 12 k
    have Lb : ∀ e, e < 7 → 0 ≤ zs (fun k => zb (gs k) e * pwk ps pw gs 12 k) M ∧ zs (fun k => zb (gs k) e * pwk ps pw gs 12 k) M ≤ 14256 := fun e _ => by
      have a := zs_abs (F := fun k => zb (gs k) e * pwk ps pw gs 12 k) (B := 1188) M (fun k _ => Nat.le_trans (zb_abs _ _ _) (Wab k))
      have b := Nat.mul_le_mul_right 1188 m3
      have c := zs_nn (F := fun k => zb (gs k) e * pwk ps pw gs 12 k) (n := M) (fun k _ => Int.mul_nonneg (zb_01 _ _).1 (Wnn k))
      omega
    have Tb0 : 0 ≤ zs (pwk ps pw gs 12) M := zs_nn (fun k _ => Wnn k)
    have Tb1 : zs (pwk ps pw gs 12) M ≤ 14256 := by
      have a := zs_abs (F := pwk ps pw gs 12) (B := 1188) M (fun k _ => Wab k)
      have b := Nat.mul_le_mul_right 1188 m3
      omega
    have grt : ∀ m, m ≤ n → fo (gwt I 1 M p) 0 m = zI (mxf (fun e => zs (fun k => zb (gs k) e * pwk ps pw gs 12 k) M) m) := by
      intro m
      induction m with
      | zero => intro _; rfl
      | succ m ih =>
        intro hm
        have l1 := Lb m (by omega)
        have l2 := mxf_nn (fun e => zs (fun k => zb (gs k) e * pwk ps pw gs 12 k) M) m
        have l3 := mxf_le (L := fun e => zs (fun k => zb (gs k) e * pwk ps pw gs 12 k) M) (B := 14256) (by omega) m (fun e he => (Lb e (by omega)).2)
        rw [fo_s, ih (by omega)]
        unfold gwt
        rw [ld m (by omega)]
        show _ = zI (if mxf (fun e => zs (fun k => zb (gs k) e * pwk ps pw gs 12 k) M) m < zs (fun k => zb (gs k) m * pwk ps pw gs 12 k) M then zs (fun k => zb (gs k) m * pwk ps pw gs 12 k) M else mxf (fun e => zs (fun k => zb (gs k) e * pwk ps pw gs 12 k) M) m)
        have c := zI_lt (a := mxf (fun e => zs (fun k => zb (gs k) e * pwk ps pw gs 12 k) M) m) (b := zs (fun k => zb (gs k) m * pwk ps pw gs 12 k) M) (by omega) (by omega) (by omega) (by omega)
        by_cases w : mxf (fun e => zs (fun k => zb (gs k) e * pwk ps pw gs 12 k) M) m < zs (fun k => zb (gs k) m * pwk ps pw gs 12 k) M
        · rw [if_pos w, if_pos (c.mpr w)]
        · rw [if_neg w, if_neg (fun z => w (c.mp z))]
    have mx7 : mxf (fun e => zs (fun k => zb (gs k) e * pwk ps pw gs 12 k) M) 7 = mxf (fun e => zs (fun k => zb (gs k) e * pwk ps pw gs 12 k) M) n := mxf_cut (by omega) (fun e a b => zs_0 (fun k hk => by rw [zb_tb (gs k) e, tb_out (hg2 k hk).2 a, if_neg (by decide), Int.zero_mul]))
    have mn := mxf_nn (fun e => zs (fun k => zb (gs k) e * pwk ps pw gs 12 k) M) n
    have ml := mxf_le (L := fun e => zs (fun k => zb (gs k) e * pwk ps pw gs 12 k) M) (B := 14256) (by omega) n (fun e he => (Lb e (by omega)).2)
    obtain ⟨t, ht⟩ : ∃ t : Nat, (t : Int) = zs (pwk ps pw gs 12) M := ⟨_, Int.toNat_of_nonneg Tb0⟩
    obtain ⟨gm, hgm⟩ : ∃ gm : Nat, (gm : Int) = mxf (fun e => zs (fun k => zb (gs k) e * pwk ps pw gs 12 k) M) n := ⟨_, Int.toNat_of_nonneg mn⟩
    have tog2 : fo (wof I 1 M p (nI (2 ^ n - 1))) 0 12 = nI t := by rw [tog, ← ht, zI_nat]
    have grt2 : fo (gwt I 1 M p) 0 n = nI gm := by rw [grt n (Nat.le_refl _), ← hgm, zI_nat]
    have t31 : t ≤ 14256 := by omega
    have gm31 : gm ≤ 14256 := by omega
    -- the reference, as far as the sum
    have body : ∀ {I1 : Nat → Nat → Int32} {q : am_Q}, I1 237 = I 237 → (∀ I2 : Nat → Nat → Int32, (∀ k, k < M → I2 242 k = zI (pwk ps pw gs 12 k)) → (∀ b, b ≠ 241 → b ≠ 242 → I2 b = I1 b) → am_u am_sh m_MD_plan q (am_at am_c_MD_plan 50) 50 [some (.ref 236), some (.int x), some (.int y), some (.int (nI p)), some (.int (nI t)), none, none, none] [] (I2, J, am_Rf f g)) → am_ev am_sh m_MD_plan [.ref 236, .int x, .int y] (I1, J, am_Rf f g) q := fun {I1 q} e hq => head e (br_f (nI_pos p31) ⟨fun _ => j_MD_plan ⟨rfl, (ev_weighs (ps := ps) (pw := pw) (hR.gm.of e) hp4 (by rw [e]; exact hpr)).mono (by
      rintro r σ' ⟨I2, rfl, rfl, a, b⟩
      rw [← ht, zI_nat]
      exact hq I2 a b)⟩, fun h6 => absurd h6 h5⟩)
    refine ⟨1, rfl, rfl, 3, rfl, rfl, 1, rfl, rfl, 1, rfl, rfl, rfl, (ev_all st1 n1 h8).rt ⟨rfl, (ev_weightOn st1 m1 m3 hp4).rt ?_⟩⟩
    rw [tog2]
    refine ⟨fun h6 => j_MG_plan ?_, fun h6 => ⟨-4, rfl, body rfl (fun I2 a b => ⟨fun h7 => absurd h6 h7, fun _ => ⟨rfl, I2, J, f, g, rfl, Inv.sm ⟨n, M, K, gs, hR⟩ hrest ⟨fun c c1 c2 => b c (by unfold Scr at c1; omega) (by unfold Scr at c1; omega), by rw [b 236 (by omega) (by omega)], by rw [b 236 (by omega) (by omega)], by rw [b 236 (by omega) (by omega)]⟩⟩⟩)⟩⟩
    have h6 : ¬ nI t = 0 := h6
    have t0 : 0 < t := by
      rw [nI_0iff (by omega)] at h6
      omega
    have gp : 0 < Nat.gcd gm t := Nat.gcd_pos_of_pos_right gm t0
    refine ⟨1, rfl, rfl, 3, rfl, rfl, 1, rfl, rfl, rfl, (ev_greatest st1 m1 m3 hp4 n1 h8).rt ?_⟩
    rw [grt2]
    -- the reference, as far as its own fraction
    have body2 : ∀ {I1 : Nat → Nat → Int32} {q : am_Q}, I1 237 = I 237 → (∀ I2 : Nat → Nat → Int32, (∀ b, b ≠ 241 → b ≠ 242 → I2 b = I1 b) → ∀ w6 w7, am_u am_sh m_MD_plan q (am_at am_c_MD_plan 109) 109 [some (.ref 236), some (.int x), some (.int y), some (.int (nI p)), some (.int (nI t)), some (.int (nI gm)), w6, w7] [] (am_up (am_up I2 236 1 (nI (gm / Nat.gcd gm t))) 236 2 (nI (t / Nat.gcd gm t)), J, am_Rf f g)) → am_ev am_sh m_MD_plan [.ref 236, .int x, .int y] (I1, J, am_Rf f g) q := fun {I1 q} e hq => body e (fun I2 a b => ⟨fun _ => j_MD_plan (j_MD_plan (lp_mplan (W := pwk ps pw gs 12) (hR.gm.of (by rw [b 237 (by omega) (by omega), e])) a (fun e he => by have := Lb e he; omega) (fun w6 w7 => j_MD_plan ⟨rfl, by
      rw [mx7, ← hgm, zI_nat]
      exact (ev_reduces (by omega) (by omega) gp).rv (hq I2 b w6 w7)⟩) 7 0 none (by omega))), fun h => absurd h h6⟩)
    refine ⟨fun h9 => j_MG_plan ?_, fun h9 => ?_⟩
    · -- is it the best
      have h9 : 2 ≤ y := h9
      refine ⟨213, rfl, rfl, 1, rfl, rfl, rfl, (ev_solve h8 m3 n1 m1 hg1 hg2).mono ?_⟩
      rintro r σ' ⟨rfl, I1, B, N, rfl, hB, hF, hT, hfr⟩
      have M1 : 1 ≤ M := by
        rcases Nat.eq_zero_or_pos M with w | w
        · exfalso
          rw [w] at ht
          have : (t : Int) = 0 := ht
          omega
        · exact w
      have ab1 : (sD n (lpc n gs) B).natAbs ≤ 40320 := sD_abs h8
      have ab2 : (sP n (lpc n gs) B n (lph n)).natAbs ≤ 40320 := sP_abs h8 lph_abs
      have D0 := hB.2.2.1
      have Z0 : 0 ≤ sP n (lpc n gs) B n (lph n) := by
        rw [dual_sum]
        exact zs_nn (fun e he => dual_nn hF he)
      obtain ⟨D, hD⟩ : ∃ D : Nat, (D : Int) = sD n (lpc n gs) B := ⟨_, Int.toNat_of_nonneg (by omega)⟩
      obtain ⟨Z, hZ⟩ : ∃ Z : Nat, (Z : Int) = sP n (lpc n gs) B n (lph n) := ⟨_, Int.toNat_of_nonneg Z0⟩
      have c1 : I1 213 5 = nI D := by rw [hT.2.2.2.1, ← hD, zI_nat]
      have c2 : I1 (215 + n) M = nI Z := by rw [hT.2.2.2.2.2.2 n (Nat.le_refl _) M (Nat.le_refl _), cw_M, ← hZ, zI_nat]
      have q1 := Nat.mul_le_mul gm31 (show Z ≤ 40320 by omega)
      have q2 := Nat.mul_le_mul t31 (show D ≤ 40320 by omega)
      have cmp : nI gm * I1 (215 + n) M = nI t * I1 213 5 ↔ gm * Z = t * D := by
        rw [c1, c2, nI_mul, nI_mul, nI_eq (by omega) (by omega)]
      -- the reference's answer
      have rest : ∀ b : Bool, (b = true ↔ gm * Z = t * D) → am_ev am_sh m_MD_plan [.ref 236, .int x, .int y] (I1, J, am_Rf f g) (fun r2 σ2 => r2 = some (.int (b2i b)) ∧ Inv σ2) := by
        intro b hb
        refine body2 (hfr 237 (by omega)) (fun I2 fr2 w6 w7 => ⟨fun _ => j_MD_plan ⟨rfl, rfl, rfl, ?_⟩, fun h10 => absurd h9 h10⟩)
        have e237 : am_up (am_up I2 236 1 (nI (gm / Nat.gcd gm t))) 236 2 (nI (t / Nat.gcd gm t)) 237 = I 237 := by
          rw [up_cell (by omega), up_cell (by omega), fr2 237 (by omega) (by omega), hfr 237 (by omega)]
        refine (ev_loads (n := n) (hR.gm.of e237) M1 (by rw [e237]; exact n2) h8 hg2 hdis).mono ?_
        rintro r σ' ⟨rfl, I3, rfl, ef, ev⟩
        obtain ⟨D', Z', e1, e2, d1, z1, d2, z2, r1, r2⟩ := ev.worth h8 M1 m3 hg2 hB hF
        obtain rfl : D' = D := by omega
        obtain rfl : Z' = Z := by omega
        have inv3 : Inv (I3, J, am_Rf f g) := by
          refine ⟨I3, J, f, g, rfl, Inv.sm ⟨n, M, K, gs, hR⟩ hrest ⟨fun c c1 c2 => ?_, ?_, ?_, ?_⟩⟩
          · rw [ef.1 c c2 (by unfold Scr at c1; omega), up_cell c2, up_cell c2, fr2 c (by unfold Scr at c1; omega) (by unfold Scr at c1; omega), hfr c (by unfold Scr at c1; omega)]
          · rw [ef.2 11 (by omega) (by omega), am_up_ne (by omega), am_up_ne (by omega), fr2 236 (by omega) (by omega), hfr 236 (by omega)]
          · rw [ef.2 19 (by omega) (by omega), am_up_ne (by omega), am_up_ne (by omega), fr2 236 (by omega) (by omega), hfr 236 (by omega)]
          · rw [ef.2 22 (by omega) (by omega), am_up_ne (by omega), am_up_ne (by omega), fr2 236 (by omega) (by omega), hfr 236 (by omega)]
        have fi := frac_iff (a := gm) (b := t) (a' := D') (b' := Z') t0 d1 z1
        have lt1 : gm / Nat.gcd gm t < 2 ^ 31 := by have := Nat.div_le_self gm (Nat.gcd gm t); omega
        have lt2 : t / Nat.gcd gm t < 2 ^ 31 := by have := Nat.div_le_self t (Nat.gcd gm t); omega
        have lt3 : D' / Nat.gcd D' Z' < 2 ^ 31 := by have := Nat.div_le_self D' (Nat.gcd D' Z'); omega
        have lt4 : Z' / Nat.gcd D' Z' < 2 ^ 31 := by have := Nat.div_le_self Z' (Nat.gcd D' Z'); omega
        have v1 : am_up (am_up I2 236 1 (nI (gm / Nat.gcd gm t))) 236 2 (nI (t / Nat.gcd gm t)) 236 1 = nI (gm / Nat.gcd gm t) := by rw [am_up_ne (by omega), am_up_eq]
        have v2 : am_up (am_up I2 236 1 (nI (gm / Nat.gcd gm t))) 236 2 (nI (t / Nat.gcd gm t)) 236 2 = nI (t / Nat.gcd gm t) := by rw [am_up_eq]
        have k1 : am_up (am_up I2 236 1 (nI (gm / Nat.gcd gm t))) 236 2 (nI (t / Nat.gcd gm t)) 236 1 = I3 236 1 ↔ gm / Nat.gcd gm t = D' / Nat.gcd D' Z' := by rw [v1, r1, nI_eq lt1 lt3]
        have k2 : am_up (am_up I2 236 1 (nI (gm / Nat.gcd gm t))) 236 2 (nI (t / Nat.gcd gm t)) 236 2 = I3 236 2 ↔ t / Nat.gcd gm t = Z' / Nat.gcd D' Z' := by rw [v2, r2, nI_eq lt2 lt4]
        refine ⟨rfl, fun z1 => j_MD_plan ⟨?_, inv3⟩, fun z1 => ⟨rfl, fun z2 => j_MD_plan ⟨?_, inv3⟩, fun z2 => j_MD_plan ⟨?_, inv3⟩⟩⟩
        · cases b with
          | false => rfl
          | true => exact absurd (k1.mpr (fi.mpr (hb.mp rfl)).1) z1
        · cases b with
          | false => rfl
          | true => exact absurd (k2.mpr (fi.mpr (hb.mp rfl)).2) z2
        · cases b with
          | true => rfl
          | false => exact absurd (hb.mpr (fi.mp ⟨k1.mp z1, k2.mp z2⟩)) (by decide)
      refine ⟨213, rfl, rfl, rfl, (ev_most hT).rt ⟨213, rfl, rfl, rfl, fun z1 => j_MG_plan ((ev_oneIf false _).rt ⟨0, rfl, rest false ⟨fun e => (by cases e), fun e => absurd (cmp.mpr e) z1⟩⟩), fun z1 => j_MG_plan ((ev_oneIf true _).rt ⟨1, rfl, rest true ⟨fun _ => cmp.mp z1, fun _ => rfl⟩⟩)⟩⟩
    · have h9 : ¬ 2 ≤ y := h9
      refine (ev_ofFraction (by omega) (by omega) gp y _).rt ⟨_, rfl, body2 rfl (fun I2 fr2 w6 w7 => ⟨fun h10 => absurd h10 h9, fun _ => ?_⟩)⟩
      have inv2 : Inv (am_up (am_up I2 236 1 (nI (gm / Nat.gcd gm t))) 236 2 (nI (t / Nat.gcd gm t)), J, am_Rf f g) := by
        refine ⟨_, J, f, g, rfl, Inv.sm ⟨n, M, K, gs, hR⟩ hrest ⟨fun c c1 c2 => ?_, ?_, ?_, ?_⟩⟩
        · rw [up_cell c2, up_cell c2, fr2 c (by unfold Scr at c1; omega) (by unfold Scr at c1; omega)]
        · rw [am_up_ne (by omega), am_up_ne (by omega), fr2 236 (by omega) (by omega)]
        · rw [am_up_ne (by omega), am_up_ne (by omega), fr2 236 (by omega) (by omega)]
        · rw [am_up_ne (by omega), am_up_ne (by omega), fr2 236 (by omega) (by omega)]
      refine ⟨fun w => j_MD_plan ⟨rfl, ?_, inv2⟩, fun w => ⟨rfl, j_MD_plan ⟨?_, inv2⟩⟩⟩
      · rw [if_neg w, am_up_eq]
      · rw [if_pos w, am_up_ne (by omega), am_up_eq]
end TP
