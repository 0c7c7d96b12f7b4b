/-! standing and free on both -/
section T14
variable {f g : Nat → Nat} {I : Nat → Nat → Int32} {J : Nat → Nat → Int64} {M : Nat} {gs : Nat → Nat}
def stP (gs : Nat → Nat) (M : Nat) (x : Int32) (s : Nat) : Bool := decide (nI (pc7 s) = x) && hlm gs M s
theorem lp_mstanding {n : Nat} {x : Int32} {q : am_Q} (hG : Gm I M gs) (hn : I 237 0 = nI n) (h8 : n < 8) (hq : q (some (.int (nI (cn (stP gs M x) (2 ^ n))))) (I, J, am_Rf f g)) : ∀ k s c, k + s = 2 ^ n → c = nI (cn (stP gs M x) s) → am_u am_sh m_MD_standing q (am_at am_c_MD_standing 22) 22 [some (.ref 236), some (.int x), some (.int c), some (.int (nI s))] [] (I, J, am_Rf f g) := by
  have h7 := pow_le7 h8
  intro k
  induction k with
  | zero =>
    intro s c hk hc
    obtain rfl : s = 2 ^ n := by omega
    subst hc
    exact ⟨rfl, (ev_mall hn h8).rt (br_t (nI_lt (by omega) (by omega)) (j_MD_standing hq))⟩
  | succ k ih =>
    intro s c hk hc
    refine ⟨rfl, (ev_mall hn h8).rt (br_f (nI_nlt (by omega) (by omega)) ((ev_bits (by omega) _).rt ?_))⟩
    rw [pc12_7 s (by omega)]
    have yes : stP gs M x s = true → am_u am_sh m_MD_standing q (am_at am_c_MD_standing 22) 22 [some (.ref 236), some (.int x), some (.int (c + 1)), some (.int (nI s + 1))] [] (I, J, am_Rf f g) := fun h => by
      rw [nI_1]
      exact ih (s + 1) _ (by omega) (by rw [hc, nI_1, cn_yes h])
    have no : stP gs M x s = false → am_u am_sh m_MD_standing q (am_at am_c_MD_standing 22) 22 [some (.ref 236), some (.int x), some (.int (c + 0)), some (.int (nI s + 1))] [] (I, J, am_Rf f g) := fun h => by
      rw [nI_1, Int32.add_zero]
      exact ih (s + 1) _ (by omega) (by rw [hc, cn_no h])
    refine ⟨fun h1 => j_MD_standing (j_MD_standing (no ?_)), fun h1 => ⟨rfl, (ev_mh hG (by omega)).rt ⟨fun h2 => j_MD_standing (j_MD_standing (no ?_)), fun h2 => j_MD_standing (j_MD_standing (yes ?_))⟩⟩⟩
    · unfold stP
      rw [decide_eq_false h1]
      rfl
    · unfold stP
      rw [b2i_eq0.mp h2, Bool.and_false]
    · unfold stP
      rw [b2i_ne0.mp h2, decide_eq_true h1]
      rfl
theorem T_standing (x : Int32) {σ : am_S} (h : Inv σ) : Both m_MG_standing m_MD_standing [.int x] σ := by
  obtain ⟨I, J, f, g, rfl, ⟨n, M, K, gs, hR⟩, hrest⟩ := h
  have inv0 : Inv (I, J, am_Rf f g) := ⟨I, J, f, g, rfl, ⟨n, M, K, gs, hR⟩, hrest⟩
  obtain ⟨⟨n1, n2, n3, n4⟩, ⟨m1, m2, m3⟩, hgs, _⟩ := id hR
  have h8 : n < 8 := by omega
  have h7 := pow_le7 h8
  have bad : ¬ (0 ≤ x ∧ x ≤ nI n) → am_ev am_sh m_MD_standing [.ref 236, .int x] (I, J, am_Rf f g) (fun r2 σ2 => r2 = some (.int (-1)) ∧ Inv σ2) := by
    intro hx
    refine s_MD_standing ⟨237, rfl, rfl, 116, 0, rfl, by omega, rfl, ?_⟩
    show am_ev am_sh m_MD_in [.long x.toInt64, .long 0, .long (I 237 0).toInt64] _ _
    rw [n2]
    exact (ev_in32 x 0 _ _).rt ⟨fun q => absurd (of_decide_eq_true (b2i_ne0.mp q)) hx, fun _ => ⟨rfl, inv0⟩⟩
  refine s_MG_standing ⟨fun h1 => j_MG_standing ⟨-1, rfl, bad (fun q => absurd h1 (Int32.not_lt.mpr q.1))⟩, fun h1 => ⟨1, rfl, rfl, rfl, fun h2 => j_MG_standing ?_, fun h2 => ⟨-1, rfl, bad (fun q => h2 (by show x ≤ I 1 0; rw [n1]; exact q.2))⟩⟩⟩
  have h2 : x ≤ I 1 0 := h2
  rw [n1] at h2
  refine ⟨206, rfl, rfl, 1, rfl, rfl, rfl, (ev_look st1 Hd_206 (by omega) (by omega) m1 m3 n1 h8).mono ?_⟩
  rintro r σ' ⟨rfl, I1, rfl, hL, hF⟩
  have i237 := hF 237 (by omega) (by omega)
  have sm : Sm I1 I := ⟨fun c c1 c2 => hF c (by unfold Scr at c1; omega) (by unfold Scr at c1; omega), by rw [hF 236 (by omega) (by omega)], by rw [hF 236 (by omega) (by omega)], by rw [hF 236 (by omega) (by omega)]⟩
  have hG : Gm I1 M gs := by unfold Gm; rw [i237]; exact hR.gm
  have hn : I1 237 0 = nI n := by rw [i237]; exact n2
  refine ⟨206, rfl, rfl, rfl, (ev_ofCount x Hd_206 hL (by omega) (by omega)).rt ⟨_, rfl, s_MD_standing ⟨237, rfl, rfl, 116, 0, rfl, by omega, rfl, ?_⟩⟩⟩
  show am_ev am_sh m_MD_in [.long x.toInt64, .long 0, .long (I1 237 0).toInt64] _ _
  rw [hn]
  refine (ev_in32 x 0 _ _).rt ⟨fun _ => j_MD_standing (j_MD_standing (lp_mstanding (n := n) hG hn h8 ?_ (2 ^ n) 0 0 (by omega) rfl)), fun q => absurd q (b2i_ne0.mpr (decide_eq_true ⟨Int32.not_lt.mp h1, h2⟩))⟩
  refine ⟨?_, I1, J, f, g, rfl, Inv.sm ⟨n, M, K, gs, hR⟩ hrest sm⟩
  congr 3
  refine cn_congr (fun s hs => ?_)
  unfold stP
  rw [hol_hlm (by omega) hR.gs, bc_tab s (by omega), Bool.and_comm]
/-- it holds no group, and misses none -/
theorem fr_tab : ∀ n, n < 8 → ∀ k, k < 2 ^ n → ∀ s, s < 2 ^ n → sb k ((2 ^ n - 1) ^^^ s) = decide (nI (k &&& s) = 0) := by decide +kernel
theorem frs_mfr {n : Nat} {hs : Nat → Bool} (h8 : n < 8) (hg : ∀ k, k < M → gs k < 2 ^ n) (hh : ∀ s, s < 2 ^ n → hs s = hlm gs M s) {s : Nat} (h : s < 2 ^ n) : frs n hs s = mfr gs M s := by
  unfold frs mfr
  rw [hh s h, hh _ (xor_lt h)]
  congr 1
  unfold ba
  congr 1
  unfold hlm
  refine bx_congr (fun k hk => ?_)
  rw [fr_tab n h8 (gs k) (hg k hk) s h, Bool.not_not]
/-- the least one from k on -/
def Lf (P : Nat → Bool) (T k : Nat) (x : Int32) : Prop := (x = -4 ∧ ∀ s, k ≤ s → s < T → P s = false) ∨ ∃ s, x = nI s ∧ k ≤ s ∧ s < T ∧ P s = true ∧ ∀ j, k ≤ j → j < s → P j = false
theorem Lf.eq {P : Nat → Bool} {T : Nat} {x : Int32} (h : Lf P T 0 x) : x = oi4 (fi P T) := by
  rcases h with ⟨rfl, h⟩ | ⟨s, rfl, _, h1, h2, h3⟩
  · rw [fi_none.mpr (fun k hk => h k (by omega) hk)]
    rfl
  · rw [fi_hit (fun j hj => h3 j (by omega) hj) h2 h1]
    rfl
theorem cn_mono {P : Nat → Bool} : ∀ {a b : Nat}, a ≤ b → cn P a ≤ cn P b := by
  intro a b h
  induction b with
  | zero => rw [show a = 0 by omega]; exact Nat.le_refl _
  | succ b ih =>
    by_cases e : a = b + 1
    · rw [e]; exact Nat.le_refl _
    · have := ih (by omega)
      cases hp : P b with
      | true => rw [cn_yes hp]; omega
      | false => rw [cn_no hp]; exact this
theorem lp_mfree {n : Nat} {x : Int32} {q : am_Q} (hG : Gm I M gs) (h8 : n < 8) (hq : ∀ l, Lf (mfr gs M) (2 ^ n) 0 l → q (some (.int (if x = 0 then nI (cn (mfr gs M) (2 ^ n)) else if x = 1 then l else -1))) (I, J, am_Rf f g)) : ∀ k c l, k ≤ 2 ^ n → c = nI (cn (mfr gs M) (2 ^ n) - cn (mfr gs M) k) → Lf (mfr gs M) (2 ^ n) k l → am_u am_sh m_MD_free q (am_at am_c_MD_free 11) 11 [some (.ref 236), some (.int x), some (.int c), some (.int l), some (.int (nI k - 1))] [] (I, J, am_Rf f g) := by
  have h7 := pow_le7 h8
  intro k
  induction k with
  | zero =>
    intro c l hk hc hl
    refine br_t (by decide) (j_MD_free ?_)
    have hq := hq l hl
    rw [show cn (mfr gs M) (2 ^ n) - cn (mfr gs M) 0 = cn (mfr gs M) (2 ^ n) from Nat.sub_zero _] at hc
    refine ⟨fun h1 => j_MD_free ⟨fun h2 => j_MD_free ?_, fun h2 => j_MD_free ?_⟩, fun h1 => j_MD_free ?_⟩
    · rw [if_neg h1, if_neg h2] at hq
      exact hq
    · rw [if_neg h1, if_pos h2] at hq
      exact hq
    · rw [if_pos h1] at hq
      subst hc
      exact hq
  | succ k ih =>
    intro c l hk hc hl
    rw [nI_pred]
    have hf := ev_misFree (f := f) (g := g) (J := J) hG (s := k) (by omega)
    have hcm := cn_mono (P := mfr gs M) (a := k + 1) (b := 2 ^ n) hk
    refine br_f (nI_pos (by omega)) ⟨rfl, hf.rt ?_⟩
    cases hP : mfr gs M k with
    | true =>
      rw [hP] at hf
      refine br_f (by decide) (j_MD_free ⟨rfl, hf.rt (br_f (by decide) (j_MD_free (j_MD_free ?_)))⟩)
      show am_u _ _ _ _ _ [_, _, some (.int (c + 1)), some (.int (nI k)), some (.int (nI k + (-1)))] _ _
      rw [← Int32.sub_eq_add_neg]
      refine ih _ _ (by omega) ?_ (Or.inr ⟨k, rfl, by omega, by omega, hP, fun j _ _ => by omega⟩)
      rw [cn_yes hP] at hc hcm
      rw [hc, nI_1]
      congr 1
      omega
    | false =>
      rw [hP] at hf
      refine br_t rfl (j_MD_free ⟨rfl, hf.rt (br_t rfl (j_MD_free (j_MD_free ?_)))⟩)
      show am_u _ _ _ _ _ [_, _, some (.int (c + 0)), some (.int l), some (.int (nI k + (-1)))] _ _
      rw [← Int32.sub_eq_add_neg]
      refine ih _ _ (by omega) ?_ ?_
      · rw [cn_no hP] at hc
        rw [hc, Int32.add_zero]
      · rcases hl with ⟨h1, h2⟩ | ⟨s, h1, h2, h3, h4, h5⟩
        · refine Or.inl ⟨h1, fun s a b => ?_⟩
          by_cases e : s = k
          · rw [e]; exact hP
          · exact h2 s (by omega) b
        · refine Or.inr ⟨s, h1, by omega, h3, h4, fun j a b => ?_⟩
          by_cases e : j = k
          · rw [e]; exact hP
          · exact h5 j (by omega) b
theorem T_free (x : Int32) {σ : am_S} (h : Inv σ) : Both m_MG_free m_MD_free [.int x] σ := by
  obtain ⟨I, J, f, g, rfl, ⟨n, M, K, gs, hR⟩, hrest⟩ := h
  have inv0 : Inv (I, J, am_Rf f g) := ⟨I, J, f, g, rfl, ⟨n, M, K, gs, hR⟩, hrest⟩
  obtain ⟨⟨n1, n2, n3, n4⟩, ⟨m1, m2, m3⟩, hgs, _⟩ := id hR
  have h8 : n < 8 := by omega
  have h7 := pow_le7 h8
  have start : ∀ {I' : Nat → Nat → Int32} {q : am_Q}, I' 237 = I 237 → (∀ l, Lf (mfr gs M) (2 ^ n) 0 l → q (some (.int (if x = 0 then nI (cn (mfr gs M) (2 ^ n)) else if x = 1 then l else -1))) (I', J, am_Rf f g)) → am_ev am_sh m_MD_free [.ref 236, .int x] (I', J, am_Rf f g) q := by
    intro I' q h237 hq
    have hG : Gm I' M gs := by unfold Gm; rw [h237]; exact hR.gm
    refine s_MD_free ⟨rfl, (ev_mall (n := n) (by rw [h237]; exact n2) h8).rt (j_MD_free ?_)⟩
    have h := lp_mfree (f := f) (g := g) (J := J) (x := x) (q := q) hG h8 hq (2 ^ n) 0 (-4) (Nat.le_refl _) (by rw [Nat.sub_self]; rfl) (Or.inl ⟨rfl, fun s a b => by omega⟩)
    rw [show nI (2 ^ n) - 1 = nI (2 ^ n - 1) from nI_sub (b := 1) (by omega)] at h
    exact h
  have bad : ¬ x = 0 → ¬ x = 1 → am_ev am_sh m_MD_free [.ref 236, .int x] (I, J, am_Rf f g) (fun r2 σ2 => r2 = some (.int (-1)) ∧ Inv σ2) := fun a b => start rfl (fun l _ => ⟨by rw [if_neg a, if_neg b], inv0⟩)
  refine s_MG_free ⟨fun h1 => j_MG_free ⟨-1, rfl, bad (fun e => ?_) (fun e => ?_)⟩, fun h1 => ⟨fun h2 => j_MG_free ?_, fun h2 => ⟨-1, rfl, bad (fun e => ?_) (fun e => ?_)⟩⟩⟩
  · rw [e] at h1; exact absurd h1 (by decide)
  · rw [e] at h1; exact absurd h1 (by decide)
  · refine ⟨206, rfl, rfl, 1, rfl, rfl, rfl, (ev_look st1 Hd_206 (by omega) (by omega) m1 m3 n1 h8).mono ?_⟩
    rintro r σ' ⟨rfl, I1, rfl, hL, hF⟩
    have i237 := hF 237 (by omega) (by omega)
    have sm : Sm I1 I := ⟨fun c c1 c2 => hF c (by unfold Scr at c1; omega) (by unfold Scr at c1; omega), by rw [hF 236 (by omega) (by omega)], by rw [hF 236 (by omega) (by omega)], by rw [hF 236 (by omega) (by omega)]⟩
    have inv1 : Inv (I1, J, am_Rf f g) := ⟨I1, J, f, g, rfl, Inv.sm ⟨n, M, K, gs, hR⟩ hrest sm⟩
    have hfr : ∀ s, s < 2 ^ n → frs n (hol (I (1 + 1)) M) s = mfr gs M s := fun s hs => frs_mfr h8 (fun k hk => (hgs k hk).2.2.2) (fun s hs => hol_hlm (by omega) hR.gs) hs
    refine ⟨fun h3 => j_MG_free ⟨206, rfl, rfl, rfl, (ev_leastFree Hd_206 hL h8).rt ⟨_, rfl, start i237 (fun l hl => ⟨?_, inv1⟩)⟩⟩, fun h3 => ⟨206, rfl, rfl, rfl, (ev_freeSets Hd_206 hL h8).rt (j_MG_free ⟨_, rfl, start i237 (fun l hl => ⟨?_, inv1⟩)⟩)⟩⟩
    · have hx : x = 1 := by
        obtain ⟨v, hv, rfl⟩ := nI_of h1
        have : v ≤ 1 := (nI_leI (b := 1) hv (by omega)).mp h2
        have a0 : v ≠ 0 := fun e => h3 (by rw [e]; rfl)
        rw [show v = 1 by omega]
        rfl
      rw [if_neg h3, if_pos hx, hl.eq]
      congr 3
      have : ∀ m, m ≤ 2 ^ n → fi (mfr gs M) m = fi (frs n (hol (I (1 + 1)) M)) m := by
        intro m
        induction m with
        | zero => intro _; rfl
        | succ m ih =>
          intro hm
          simp only [fi, ih (by omega), hfr m (by omega)]
      exact this _ (Nat.le_refl _)
    · rw [if_pos h3]
      congr 3
      exact (cn_congr hfr).symm
  · rw [e] at h2; exact absurd (by decide) h2
  · rw [e] at h2; exact absurd (by decide) h2
end T14
