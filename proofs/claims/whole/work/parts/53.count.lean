/-! count on both -/
section T13
variable {f g : Nat → Nat} {I : Nat → Nat → Int32} {J : Nat → Nat → Int64}
theorem hlm_0 {gs : Nat → Nat} {M : Nat} (h : ∀ k, k < M → 1 ≤ gs k) : hlm gs M 0 = false := by
  refine bx_false.mpr (fun k hk => ?_)
  unfold sb
  rw [Nat.and_zero]
  have := h k hk
  exact nbq (by omega)
theorem beq_rf (k : Nat) : Nat.beq k k = true := Nat.beq_refl k
theorem hlm_all {gs : Nat → Nat} {M n : Nat} (h1 : 1 ≤ M) (h : ∀ k, k < M → gs k < 2 ^ n) : hlm gs M (2 ^ n - 1) = true := by
  refine bx_iff.mpr ⟨0, by omega, ?_⟩
  unfold sb
  rw [Nat.and_two_pow_sub_one_of_lt_two_pow (h 0 (by omega))]
  exact beq_rf _
theorem faults_eq {n M : Nat} {gs : Nat → Nat} {hs : Nat → Bool} (h8 : n < 8) (hn : 1 ≤ n) (h1 : 1 ≤ M) (hg : ∀ k, k < M → 1 ≤ gs k ∧ gs k < 2 ^ n) (hh : ∀ s, s < 2 ^ n → hs s = hlm gs M s) : ∃ F, F < n ∧ fo (ftf n hs) 8 (2 ^ n) - 1 = nI F ∧ fo (mff n (hlm gs M)) (nI (n + 1)) (2 ^ n) - 1 = nI F := by
  have h7 := pow_le7 h8
  have a1 := (ftf_fmn (a := 8) h8 (by omega) hh (2 ^ n) (Nat.le_refl _)).1
  have a2 := (mff_fmn (hs := hlm gs M) (a := n + 1) h8 (by omega) (2 ^ n) (Nat.le_refl _)).1
  have b1 := fmn_min (n := n) (hs := hlm gs M) (a := n + 1) (b := 8) (by omega) (2 ^ n)
  have b2 := fmn_le (n := n) (hs := hlm gs M) (a := 8) (s := 2 ^ n - 1) (by rw [Nat.xor_self]; exact hlm_0 (fun k hk => (hg k hk).1)) (2 ^ n) (by omega)
  rw [pc_all n h8] at b2
  have b3 := fmn_pos (n := n) (hs := hlm gs M) (a := 8) (by omega) (hlm_all h1 (fun k hk => (hg k hk).2)) h8 (2 ^ n) (Nat.le_refl _)
  rw [if_pos (by omega)] at b1
  rw [show (8 : Int32) = nI 8 from rfl, a1, a2, b1]
  refine ⟨fo (fmn n (hlm gs M)) 8 (2 ^ n) - 1, by omega, ?_, ?_⟩ <;>
  · generalize fo (fmn n (hlm gs M)) 8 (2 ^ n) = F at b3
    obtain ⟨F, rfl⟩ : ∃ F', F = F' + 1 := ⟨F - 1, by omega⟩
    exact nI_pred F
theorem lif_eq {o c : Nat} (ho : o = 1 ∨ o = 2) (hc : 1 ≤ c) (hc7 : c ≤ 7) : ∀ b, b ≤ 7 → fo (lif o (nI c)) (-4) (b + 1) = nI (if (c - 1) / o < b then (c - 1) / o else b)
  | 0, _ => by
    show lif o (nI c) 0 (-4) = _
    unfold lif
    rw [if_pos (by rw [Nat.mul_zero]; exact nI_le (by omega) (by omega)), if_neg (Nat.not_lt_zero _)]
  | b + 1, hb => by
    rw [fo_s, lif_eq ho hc hc7 b (by omega)]
    have key : o * (b + 1) + 1 ≤ c ↔ b + 1 ≤ (c - 1) / o := by
      rw [Nat.le_div_iff_mul_le (by omega), Nat.mul_comm]
      omega
    have hob : o * (b + 1) ≤ 2 * (b + 1) := Nat.mul_le_mul_right _ (by omega)
    conv => lhs; unfold lif
    by_cases h : o * (b + 1) + 1 ≤ c
    · rw [if_pos (nI_le h (by omega)), if_neg (by have := key.mp h; omega)]
    · rw [if_neg (nI_ge (by omega) (by omega))]
      have h' : ¬ b + 1 ≤ (c - 1) / o := fun q => h (key.mpr q)
      congr 1
      split <;> split <;> omega
theorem half_tab : ∀ c, c < 8 → 1 ≤ c → (nI c - 1) / 2 = nI ((c - 1) / 2) := by decide +kernel
theorem ev_strength {n M F c : Nat} {x : Int32} (hn : I 1 0 = nI n) (h8 : n < 8) (hM : I 1 1 = nI M) (h12 : M ≤ 12) (hc : fo (cmg (I 2)) 7 M = nI c) (hc7 : c ≤ 7) (hF : fo (ftf n (hol (I 2) M)) 8 (2 ^ n) - 1 = nI F) (hF7 : F < n) : am_ev am_sh m_MG_strength [.ref 0, .int x] (I, J, am_Rf f g) (fun r σ' => ∃ I', σ' = (I', J, am_Rf f g) ∧ (∀ c, c ≠ 206 → c ≠ 207 → I' c = I c) ∧ r = some (.int (if x = 2 then nI c else if x = 4 then nI F else if c = 0 then -4 else nI (if (if x = 5 then (c - 1) / 2 else c - 1) < F then (if x = 5 then (c - 1) / 2 else c - 1) else F)))) := by
  refine s_MG_strength ⟨1, rfl, rfl, rfl, (ev_common st1 hM h12).rt ?_⟩
  rw [hc]
  refine ⟨fun h1 => j_MG_strength ⟨206, rfl, rfl, 1, rfl, rfl, rfl, (ev_look st1 Hd_206 (by omega) (by omega) hM h12 hn h8).mono ?_⟩, fun h1 => ⟨I, rfl, fun _ _ _ => rfl, by rw [if_pos h1]⟩⟩
  rintro r σ' ⟨rfl, I1, rfl, hL, hFr⟩
  refine ⟨206, rfl, rfl, rfl, (ev_faults Hd_206 hL h8).rt ?_⟩
  rw [hF]
  rw [if_neg h1]
  refine ⟨fun h2 => j_MG_strength ⟨fun h3 => j_MG_strength ?_, fun h3 => ⟨I1, rfl, hFr, ?_⟩⟩, fun h2 => ⟨I1, rfl, hFr, by rw [if_pos h2]⟩⟩
  · have hc0 : c ≠ 0 := fun e => h3 (by rw [e]; rfl)
    rw [if_neg h2, if_neg hc0]
    have mn : ∀ d, d ≤ 7 → (if nI d < nI F then nI d else nI F) = nI (if d < F then d else F) := fun d hd => by
      by_cases q : d < F
      · rw [if_pos q, if_pos (nI_lt q (by omega))]
      · rw [if_neg q, if_neg (nI_nlt (by omega) (by omega))]
    refine ⟨fun h4 => j_MG_strength ⟨I1, rfl, hFr, ?_⟩, fun h4 => ⟨by decide, j_MG_strength ⟨I1, rfl, hFr, ?_⟩⟩⟩
    · rw [if_neg h4, ← mn _ (by omega), show nI (c - 1) = nI c - 1 from (nI_sub (b := 1) (by omega)).symm]
    · rw [if_pos h4, ← mn _ (by omega), half_tab c (by omega) (by omega)]
  · have hc0 : c = 0 := (nI_eq (by omega) (by omega)).mp h3
    rw [if_neg h2, if_pos hc0]
theorem T_count (x : Int32) {σ : am_S} (h : Inv σ) : Both m_MG_count m_MD_count [.int x] σ := by
  obtain ⟨I, J, f, g, rfl, ⟨n, M, K, gs, hR⟩, hrest⟩ := h
  have inv0 : Inv (I, J, am_Rf f g) := ⟨I, J, f, g, rfl, ⟨n, M, K, gs, hR⟩, hrest⟩
  obtain ⟨⟨n1, n2, n3, n4⟩, ⟨m1, m2, m3⟩, hgs, _, _, ⟨k1, k2, k3⟩, _⟩ := id hR
  have h8 : n < 8 := by omega
  have h7 := pow_le7 h8
  have q0 : M = 0 → fo (cog gs) (-4) M = -4 := fun e => by rw [e]; rfl
  -- the strengths
  have str : x = 2 ∨ x = 4 ∨ x = 5 ∨ x = 6 → am_run am_sh m_MG_count (fun r σ1 => ∃ z, r = some (.int z) ∧ am_ev am_sh m_MD_count [.ref 236, .int x] σ1 (fun r2 σ2 => r2 = some (.int z) ∧ Inv σ2)) 97 [some (.ref 0), some (.int x)] [] (I, J, am_Rf f g) := by
    intro hx
    refine j_MG_count ⟨1, rfl, rfl, rfl, fun h1 => j_MG_count ⟨rfl, ?_⟩, fun h1 => j_MG_count ⟨-4, rfl, ?_⟩⟩
    · have hM : 1 ≤ M := by
        rcases Nat.eq_zero_or_pos M with q | q
        · exact absurd (by show I 1 1 = 0; rw [m1, q]; rfl) h1
        · exact q
      obtain ⟨c, c1, c2, c3⟩ := com_eq M hR.gs hM
      obtain ⟨F, f1, f2, f3⟩ := faults_eq (hs := hol (I 2) M) h8 n3 hM (fun k hk => ⟨(hgs k hk).2.2.1, (hgs k hk).2.2.2⟩) (fun s hs => hol_hlm (by omega) hR.gs)
      refine (ev_strength (x := x) n1 h8 m1 m3 c2 c1 f2 f1).mono ?_
      rintro r σ' ⟨I1, rfl, hF, rfl⟩
      have i237 := hF 237 (by omega) (by omega)
      have sm : Sm I1 I := ⟨fun c c1 c2 => hF c (by unfold Scr at c1; omega) (by unfold Scr at c1; omega), by rw [hF 236 (by omega) (by omega)], by rw [hF 236 (by omega) (by omega)], by rw [hF 236 (by omega) (by omega)]⟩
      have inv1 : Inv (I1, J, am_Rf f g) := ⟨I1, J, f, g, rfl, Inv.sm ⟨n, M, K, gs, hR⟩ hrest sm⟩
      have hG : Gm I1 M gs := by unfold Gm; rw [i237]; exact hR.gm
      have hn : I1 237 0 = nI n := by rw [i237]; exact n2
      have hM' : I1 237 1 = nI M := by rw [i237]; exact m2
      refine ⟨_, rfl, s_MD_count (j_MD_count ?_)⟩
      rcases hx with rfl | rfl | rfl | rfl
      · refine ⟨fun q => absurd q (by decide), fun _ => ⟨fun q => absurd q (by decide), fun _ => ⟨fun _ => j_MD_count ⟨rfl, (ev_mcommon hG).rt ⟨?_, inv1⟩⟩, fun q => absurd rfl q⟩⟩⟩
        rw [c3]
        rfl
      · refine ⟨fun q => absurd q (by decide), fun _ => ⟨fun q => absurd q (by decide), fun _ => ⟨fun q => absurd q (by decide), fun _ => ⟨fun q => absurd q (by decide), fun _ => ⟨fun _ => j_MD_count ⟨237, rfl, rfl, 116, 1, rfl, by omega, rfl, fun _ => j_MD_count ⟨rfl, (ev_mfaults hG hn h8).rt ⟨?_, inv1⟩⟩, fun q => absurd q (by rw [hM']; exact nI_ne0 (by omega) (by omega))⟩, fun q => absurd rfl q⟩⟩⟩⟩⟩
        rw [f3]
        rfl
      · refine ⟨fun q => absurd q (by decide), fun _ => ⟨fun q => absurd q (by decide), fun _ => ⟨fun q => absurd q (by decide), fun _ => ⟨fun q => absurd q (by decide), fun _ => ⟨fun q => absurd q (by decide), fun _ => ⟨fun _ => j_MD_count ⟨rfl, ?_⟩, fun q => absurd rfl q⟩⟩⟩⟩⟩⟩
        show am_ev am_sh m_MD_liars [.ref 236, .int (nI 2)] _ _
        by_cases hc0 : c = 0
        · refine (ev_liars0 (o := nI 2) hG hn h8 (by rw [c3, hc0]; decide)).rt ⟨?_, inv1⟩
          rw [if_neg (by decide), if_neg (by decide), if_pos hc0]
        · refine (ev_liars (o := 2) hG hn h8 (by omega) f3 (by omega) c3 (nI_lt (a := 0) (by omega) (by omega))).rt ⟨?_, inv1⟩
          rw [if_neg (by decide), if_neg (by decide), if_neg hc0, lif_eq (Or.inr rfl) (by omega) c1 F (by omega)]
          simp
      · refine ⟨fun q => absurd q (by decide), fun _ => ⟨fun q => absurd q (by decide), fun _ => ⟨fun q => absurd q (by decide), fun _ => ⟨fun q => absurd q (by decide), fun _ => ⟨fun q => absurd q (by decide), fun _ => ⟨fun q => absurd q (by decide), fun _ => ⟨fun _ => j_MD_count ⟨rfl, ?_⟩, fun q => absurd rfl q⟩⟩⟩⟩⟩⟩⟩
        show am_ev am_sh m_MD_liars [.ref 236, .int (nI 1)] _ _
        by_cases hc0 : c = 0
        · refine (ev_liars0 (o := nI 1) hG hn h8 (by rw [c3, hc0]; decide)).rt ⟨?_, inv1⟩
          rw [if_neg (by decide), if_neg (by decide), if_pos hc0]
        · refine (ev_liars (o := 1) hG hn h8 (by omega) f3 (by omega) c3 (nI_lt (a := 0) (by omega) (by omega))).rt ⟨?_, inv1⟩
          rw [if_neg (by decide), if_neg (by decide), if_neg hc0, lif_eq (Or.inl rfl) (by omega) c1 F (by omega), Nat.div_one]
          simp only [if_neg (show ¬ (6 : Int32) = 5 by decide)]
    · have hM : M = 0 := (nI_eq (by omega) (by omega)).mp (m1.symm.trans h1)
      have hc := q0 hM
      refine s_MD_count (j_MD_count ?_)
      rcases hx with rfl | rfl | rfl | rfl
      · refine ⟨fun q => absurd q (by decide), fun _ => ⟨fun q => absurd q (by decide), fun _ => ⟨fun _ => j_MD_count ⟨rfl, (ev_mcommon hR.gm).rt ⟨?_, inv0⟩⟩, fun q => absurd rfl q⟩⟩⟩
        rw [hc]
      · refine ⟨fun q => absurd q (by decide), fun _ => ⟨fun q => absurd q (by decide), fun _ => ⟨fun q => absurd q (by decide), fun _ => ⟨fun q => absurd q (by decide), fun _ => ⟨fun _ => j_MD_count ⟨237, rfl, rfl, 116, 1, rfl, by omega, rfl, fun q => absurd (by show I 237 1 = 0; rw [m2, hM]; rfl) q, fun _ => j_MD_count ⟨rfl, inv0⟩⟩, fun q => absurd rfl q⟩⟩⟩⟩⟩
      · exact ⟨fun q => absurd q (by decide), fun _ => ⟨fun q => absurd q (by decide), fun _ => ⟨fun q => absurd q (by decide), fun _ => ⟨fun q => absurd q (by decide), fun _ => ⟨fun q => absurd q (by decide), fun _ => ⟨fun _ => j_MD_count ⟨rfl, (ev_liars0 hR.gm n2 h8 (by rw [hc]; decide)).rt ⟨rfl, inv0⟩⟩, fun q => absurd rfl q⟩⟩⟩⟩⟩⟩
      · exact ⟨fun q => absurd q (by decide), fun _ => ⟨fun q => absurd q (by decide), fun _ => ⟨fun q => absurd q (by decide), fun _ => ⟨fun q => absurd q (by decide), fun _ => ⟨fun q => absurd q (by decide), fun _ => ⟨fun q => absurd q (by decide), fun _ => ⟨fun _ => j_MD_count ⟨rfl, (ev_liars0 hR.gm n2 h8 (by rw [hc]; decide)).rt ⟨rfl, inv0⟩⟩, fun q => absurd rfl q⟩⟩⟩⟩⟩⟩⟩
  have dflt : ¬ x = 0 → ¬ x = 1 → ¬ x = 2 → ¬ x = 3 → ¬ x = 4 → ¬ x = 5 → ¬ x = 6 → ¬ x = 7 → ¬ x = 8 → am_ev am_sh m_MD_count [.ref 236, .int x] (I, J, am_Rf f g) (fun r2 σ2 => r2 = some (.int (-1)) ∧ Inv σ2) := fun a0 a1 a2 a3 a4 a5 a6 a7 a8 => s_MD_count (j_MD_count ⟨fun q => absurd q a0, fun _ => ⟨fun q => absurd q a1, fun _ => ⟨fun q => absurd q a2, fun _ => ⟨fun q => absurd q a3, fun _ => ⟨fun q => absurd q a4, fun _ => ⟨fun q => absurd q a5, fun _ => ⟨fun q => absurd q a6, fun _ => ⟨fun q => absurd q a7, fun _ => ⟨fun q => absurd q a8, fun _ => j_MD_count ⟨rfl, inv0⟩⟩⟩⟩⟩⟩⟩⟩⟩⟩)
  have c8 : x = 8 → am_ev am_sh m_MD_count [.ref 236, .int x] (I, J, am_Rf f g) (fun r2 σ2 => r2 = some (.int (I 236 19)) ∧ Inv σ2) := by
    rintro rfl
    exact s_MD_count (j_MD_count ⟨fun q => absurd q (by decide), fun _ => ⟨fun q => absurd q (by decide), fun _ => ⟨fun q => absurd q (by decide), fun _ => ⟨fun q => absurd q (by decide), fun _ => ⟨fun q => absurd q (by decide), fun _ => ⟨fun q => absurd q (by decide), fun _ => ⟨fun q => absurd q (by decide), fun _ => ⟨fun q => absurd q (by decide), fun _ => ⟨fun _ => j_MD_count ⟨rfl, rfl, inv0⟩, fun q => absurd rfl q⟩⟩⟩⟩⟩⟩⟩⟩⟩)
  have c7 : x = 7 → am_ev am_sh m_MD_count [.ref 236, .int x] (I, J, am_Rf f g) (fun r2 σ2 => r2 = some (.int (I 237 3)) ∧ Inv σ2) := by
    rintro rfl
    exact s_MD_count (j_MD_count ⟨fun q => absurd q (by decide), fun _ => ⟨fun q => absurd q (by decide), fun _ => ⟨fun q => absurd q (by decide), fun _ => ⟨fun q => absurd q (by decide), fun _ => ⟨fun q => absurd q (by decide), fun _ => ⟨fun q => absurd q (by decide), fun _ => ⟨fun q => absurd q (by decide), fun _ => ⟨fun _ => j_MD_count ⟨237, rfl, rfl, 116, 3, rfl, by omega, rfl, rfl, inv0⟩, fun q => absurd rfl q⟩⟩⟩⟩⟩⟩⟩⟩)
  have c3 : x = 3 → am_ev am_sh m_MD_count [.ref 236, .int x] (I, J, am_Rf f g) (fun r2 σ2 => r2 = some (.int (if fo (cog gs) (-4) M = 0 then 0 else 1)) ∧ Inv σ2) := by
    rintro rfl
    refine s_MD_count (j_MD_count ⟨fun q => absurd q (by decide), fun _ => ⟨fun q => absurd q (by decide), fun _ => ⟨fun q => absurd q (by decide), fun _ => ⟨fun _ => j_MD_count ⟨rfl, (ev_mcommon hR.gm).rt ⟨fun q => j_MD_count ⟨?_, inv0⟩, fun q => j_MD_count ⟨?_, inv0⟩⟩⟩, fun q => absurd rfl q⟩⟩⟩⟩)
    · rw [if_neg q]
    · rw [if_pos q]
  have c1 : x = 1 → am_ev am_sh m_MD_count [.ref 236, .int x] (I, J, am_Rf f g) (fun r2 σ2 => r2 = some (.int (I 237 1)) ∧ Inv σ2) := by
    rintro rfl
    exact s_MD_count (j_MD_count ⟨fun q => absurd q (by decide), fun _ => ⟨fun _ => j_MD_count ⟨237, rfl, rfl, 116, 1, rfl, by omega, rfl, rfl, inv0⟩, fun q => absurd rfl q⟩⟩)
  have c0 : x = 0 → am_ev am_sh m_MD_count [.ref 236, .int x] (I, J, am_Rf f g) (fun r2 σ2 => r2 = some (.int (I 237 0)) ∧ Inv σ2) := by
    rintro rfl
    exact s_MD_count (j_MD_count ⟨fun _ => j_MD_count ⟨237, rfl, rfl, 116, 0, rfl, by omega, rfl, rfl, inv0⟩, fun q => absurd rfl q⟩)
  obtain ⟨N, p1, p2, p3, p4⟩ := hrest.2.2.1
  refine s_MG_count (j_MG_count ⟨fun e => j_MG_count ⟨1, rfl, rfl, rfl, _, rfl, ?_⟩, fun a0 => ⟨fun e => j_MG_count ⟨1, rfl, rfl, rfl, _, rfl, ?_⟩, fun a1 => ⟨fun e => str (Or.inl e), fun a2 => ⟨fun e => j_MG_count ⟨1, rfl, rfl, rfl, ?_⟩, fun a3 => ⟨fun e => str (Or.inr (Or.inl e)), fun a4 => ⟨fun e => str (Or.inr (Or.inr (Or.inl e))), fun a5 => ⟨fun e => str (Or.inr (Or.inr (Or.inr e))), fun a6 => ⟨fun e => j_MG_count ⟨1, rfl, rfl, 3, rfl, rfl, rfl, _, rfl, ?_⟩, fun a7 => ⟨fun e => j_MG_count ⟨15, rfl, rfl, rfl, _, rfl, ?_⟩, fun a8 => j_MG_count ⟨-1, rfl, dflt a0 a1 a2 a3 a4 a5 a6 a7 a8⟩⟩⟩⟩⟩⟩⟩⟩⟩⟩)
  · rw [n1, ← n2]; exact c0 e
  · rw [m1, ← m2]; exact c1 e
  · have fin : ∀ (b : Bool), (if fo (cog gs) (-4) M = 0 then (0 : Int32) else 1) = b2i b → am_ev am_sh m_MD_count [.ref 236, .int x] (I, J, am_Rf f g) (fun r2 σ2 => r2 = some (.int (b2i b)) ∧ Inv σ2) := by
      intro b hb
      rw [← hb]
      exact c3 e
    refine ⟨fun h1 => j_MG_count (j_MG_count ((ev_oneIf true _).rt ⟨_, rfl, fin true ?_⟩)), fun h1 => ⟨1, rfl, rfl, rfl, (ev_common st1 m1 m3).rt ?_⟩⟩
    · have hM : M = 0 := (nI_eq (by omega) (by omega)).mp (m1.symm.trans h1)
      rw [q0 hM]
      rfl
    · have hM : 1 ≤ M := by
        rcases Nat.eq_zero_or_pos M with q | q
        · exact absurd (by show I 1 1 = 0; rw [m1, q]; rfl) h1
        · exact q
      obtain ⟨c, c1, c2, c3⟩ := com_eq M hR.gs hM
      rw [c2]
      refine ⟨fun h2 => j_MG_count ((ev_oneIf false _).rt ⟨_, rfl, fin false ?_⟩), fun h2 => j_MG_count ((ev_oneIf true _).rt ⟨_, rfl, fin true ?_⟩)⟩
      · rw [c3]
        have : c = 0 := by
          have := (nI_leI (b := 0) (by omega) (by omega)).mp h2
          omega
        rw [this]
        rfl
      · rw [c3, if_neg (fun q => h2 (by rw [q]; decide))]
        rfl
  · have k1 : I 3 0 = nI K := k1
    rw [k1, ← k2]; exact c7 e
  · rw [p2, ← p3]; exact c8 e
end T13
