/-! element on both -/
theorem bc12_t : ∀ a, a < 64 → ∀ b, b < 64 → bc (nI (64 * a + b)) = nI (pc12 (64 * a + b)) := by decide +kernel
theorem bc12 (x : Nat) (hx : x < 4096) : bc (nI x) = nI (pc12 x) := by
  have := bc12_t (x / 64) (by omega) (x % 64) (by omega)
  rw [show 64 * (x / 64) + x % 64 = x by omega] at this
  exact this
def el (gs : Nat → Nat) (e k w : Nat) : Nat := if tb (gs k) e = true then w ||| 2 ^ k else w
theorem el_lt {gs : Nat → Nat} {e : Nat} : ∀ M, fo (el gs e) 0 M < 2 ^ M
  | 0 => by show (0 : Nat) < 1; omega
  | M + 1 => by
    have := el_lt (gs := gs) (e := e) M
    have h2 : (2 : Nat) ^ M < 2 ^ (M + 1) := Nat.pow_lt_pow_right (by omega) (by omega)
    rw [fo_s]
    unfold el at this ⊢
    split
    · exact Nat.or_lt_two_pow (by omega) h2
    · omega
theorem pow_le12 {M : Nat} (h : M ≤ 12) : 2 ^ M ≤ 4096 := Nat.pow_le_pow_right (by omega) h
theorem gwf_el {G : Nat → Int32} {gs : Nat → Nat} {e : Nat} (he : e < 7) : ∀ M, M ≤ 12 → (∀ k, k < M → G k = nI (gs k) ∧ gs k < 128) → fo (gwf G (nI (2 ^ e))) 0 M = nI (fo (el gs e) 0 M)
  | 0, _, _ => rfl
  | M + 1, h12, hG => by
    rw [fo_s, fo_s, gwf_el he M (by omega) (fun k hk => hG k (by omega))]
    obtain ⟨h1, h2⟩ := hG M (by omega)
    have ht := and_tab (gs M) h2 e he
    generalize fo (el gs e) 0 M = w
    unfold gwf el
    rw [h1, shl_tab M (by omega)]
    cases hb : tb (gs M) e with
    | true =>
      rw [hb] at ht
      rw [if_neg (of_decide_eq_false ht), if_pos rfl, nI_or]
    | false =>
      rw [hb] at ht
      rw [if_pos (of_decide_eq_true ht), if_neg (by decide)]
theorem hol_hlm {G : Nat → Int32} {gs : Nat → Nat} {M s : Nat} (hs : s < 128) (hG : ∀ k, k < M → G k = nI (gs k) ∧ gs k < 128) : hol G M s = hlm gs M s := by
  unfold hol hlm
  refine bx_congr (fun k hk => ?_)
  obtain ⟨h1, h2⟩ := hG k hk
  rw [h1]
  have := sb_tab (gs k) h2 s hs
  cases hb : sb (gs k) s with
  | true => exact decide_eq_true (this.mpr hb)
  | false => exact decide_eq_false (fun q => by rw [this.mp q] at hb; cases hb)
section T11
variable {f g : Nat → Nat} {I : Nat → Nat → Int32} {J : Nat → Nat → Int64}
theorem lp_melement {M e : Nat} {gs : Nat → Nat} {y : Int32} {q : am_Q} (hG : Gm I M gs) (he : e < 7) (hq : am_run am_sh m_MD_element q 66 [some (.ref 236), some (.int (nI e)), some (.int y), some (.int (nI (fo (el gs e) 0 M))), some (.int (nI M))] [] (I, J, am_Rf f g)) : ∀ n k s, n + k = M → s = nI (fo (el gs e) 0 k) → am_u am_sh m_MD_element q (am_at am_c_MD_element 25) 25 [some (.ref 236), some (.int (nI e)), some (.int y), some (.int s), some (.int (nI k))] [] (I, J, am_Rf f g) := by
  obtain ⟨hM, h12, hg⟩ := id hG
  intro n
  induction n with
  | zero =>
    intro k s hk hs
    obtain rfl : k = M := by omega
    subst hs
    exact ⟨237, rfl, rfl, 116, 1, rfl, by omega, rfl, br_t (by rw [hM]; exact nI_le (by omega) (by omega)) hq⟩
  | succ n ih =>
    intro k s hk hs
    refine ⟨237, rfl, rfl, 116, 1, rfl, by omega, rfl, br_f (by rw [hM]; exact nI_ge (by omega) (by omega)) ⟨rfl, (ev_mat (by omega)).rt ?_⟩⟩
    obtain ⟨h1, h2⟩ := hg k (by omega)
    show am_ev am_sh m_MD_has [.int (I 237 (4 + k)), .int (nI e)] _ _
    rw [h1]
    refine (ev_htb (by omega) (by omega) _).rt ?_
    cases hb : tb (gs k) e with
    | true =>
      refine br_f (by decide) (j_MD_element (j_MD_element ?_))
      show am_u _ _ _ _ _ [_, _, _, some (.int (s ||| (1 : Int32) <<< (nI k &&& 31))), some (.int (nI k + 1))] _ _
      rw [nI_1, shl_tab k (by omega)]
      refine ih (k + 1) _ (by omega) ?_
      rw [hs, fo_s, nI_or]
      congr 1
      conv => rhs; unfold el
      rw [hb, if_pos rfl]
      rfl
    | false =>
      refine br_t rfl (j_MD_element (j_MD_element ?_))
      show am_u _ _ _ _ _ [_, _, _, some (.int (s ||| 0)), some (.int (nI k + 1))] _ _
      rw [nI_1]
      refine ih (k + 1) _ (by omega) ?_
      rw [hs, fo_s, show (0 : Int32) = nI 0 from rfl, nI_or, Nat.or_zero]
      congr 1
      conv => rhs; unfold el
      rw [hb, if_neg (by decide)]
      rfl
theorem T_element (x y : Int32) {σ : am_S} (h : Inv σ) : Both m_MG_element m_MD_element [.int x, .int y] σ := by
  obtain ⟨I, J, f, g, rfl, ⟨n, M, K, gs, hR⟩, hrest⟩ := h
  obtain ⟨⟨n1, n2, n3, n4⟩, ⟨m1, m2, m3⟩, hgs, _⟩ := id hR
  have h8 : n < 8 := by omega
  have start : ∀ {I' : Nat → Nat → Int32} {q : am_Q}, I' 237 = I 237 → (∀ e, e < n → x = nI e → am_run am_sh m_MD_element q 66 [some (.ref 236), some (.int x), some (.int y), some (.int (nI (fo (el gs e) 0 M))), some (.int (nI M))] [] (I', J, am_Rf f g)) → (¬ (0 ≤ x ∧ x < nI n) → q (some (.int (-1))) (I', J, am_Rf f g)) → am_ev am_sh m_MD_element [.ref 236, .int x, .int y] (I', J, am_Rf f g) q := by
    intro I' q h237 h1 h2
    refine s_MD_element ⟨237, rfl, rfl, 116, 0, rfl, by omega, rfl, ?_⟩
    show am_ev am_sh m_MD_in [.long x.toInt64, .long 0, .long (I' 237 0 - 1).toInt64] _ _
    rw [h237, n2]
    refine (ev_in32 x 0 _ _).rt ⟨fun q1 => j_MD_element (j_MD_element ?_), fun q1 => h2 (fun q2 => ?_)⟩
    · have q2 := of_decide_eq_true (b2i_ne0.mp q1)
      rw [m1_lt (by omega)] at q2
      obtain ⟨e, he, rfl⟩ := nI_of (x := x) (Int32.not_lt.mpr q2.1)
      have hen : e < n := (nI_ltI he (by omega)).mp q2.2
      have hG : Gm I' M gs := by unfold Gm; rw [h237]; exact hR.gm
      exact lp_melement hG (by omega) (h1 e hen rfl) M 0 0 rfl rfl
    · rw [← m1_lt (by omega)] at q2
      exact absurd (b2i_eq0.mp q1) (by rw [decide_eq_true q2]; decide)
  have inv0 : Inv (I, J, am_Rf f g) := ⟨I, J, f, g, rfl, ⟨n, M, K, gs, hR⟩, hrest⟩
  have bad : ¬ (0 ≤ x ∧ x < nI n) → am_ev am_sh m_MD_element [.ref 236, .int x, .int y] (I, J, am_Rf f g) (fun r2 σ2 => r2 = some (.int (-1)) ∧ Inv σ2) := fun hn => start rfl (fun e he hx => absurd (by rw [hx]; exact ⟨nI_pos' (by omega), nI_lt he (by omega)⟩) hn) (fun _ => ⟨rfl, inv0⟩)
  have bad2 : ¬ y = 0 → ¬ y = 1 → ¬ y = 2 → am_ev am_sh m_MD_element [.ref 236, .int x, .int y] (I, J, am_Rf f g) (fun r2 σ2 => r2 = some (.int (-1)) ∧ Inv σ2) := fun a b c => start rfl (fun _ _ _ => j_MD_element (j_MD_element ⟨fun q => absurd q a, fun _ => ⟨fun q => absurd q b, fun _ => ⟨fun q => absurd q c, fun _ => j_MD_element ⟨rfl, inv0⟩⟩⟩⟩)) (fun _ => ⟨rfl, inv0⟩)
  refine s_MG_element ⟨fun h1 => j_MG_element ⟨-1, rfl, bad (fun q => absurd h1 (Int32.not_lt.mpr q.1))⟩, fun h1 => ⟨1, rfl, rfl, rfl, fun h2 => j_MG_element ⟨-1, rfl, bad (fun q => ?_)⟩, fun h2 => ?_⟩⟩
  · have h2 : I 1 0 ≤ x := h2
    rw [n1] at h2
    exact absurd q.2 (Int32.not_lt.mpr h2)
  have h2 : ¬ I 1 0 ≤ x := h2
  rw [n1] at h2
  refine ⟨fun h3 => j_MG_element ⟨-1, rfl, bad2 (fun e => ?_) (fun e => ?_) (fun e => ?_)⟩, fun h3 => ⟨fun h4 => j_MG_element ?_, fun h4 => ⟨-1, rfl, bad2 (fun e => ?_) (fun e => ?_) (fun e => ?_)⟩⟩⟩
  · rw [e] at h3; exact absurd h3 (by decide)
  · rw [e] at h3; exact absurd h3 (by decide)
  · rw [e] at h3; exact absurd h3 (by decide)
  · have hx : 0 ≤ x ∧ x < nI n := ⟨Int32.not_lt.mp h1, Int32.not_le.mp h2⟩
    obtain ⟨e, he, rfl⟩ := nI_of h1
    have hen : e < n := (nI_ltI he (by omega)).mp hx.2
    have hsh := shl_tab e (by omega)
    have hM12 := pow_le12 m3
    have hlt := el_lt (gs := gs) (e := e) M
    refine ⟨fun h5 => j_MG_element ⟨1, rfl, rfl, rfl, ?_⟩, fun h5 => ?_⟩
    · show am_ev am_sh m_St_groupsWith [.ref 1, .int ((1 : Int32) <<< (nI e &&& 31))] _ _
      rw [hsh]
      refine (ev_groupsWith st1 m1 m3 _).rt ?_
      have eg := gwf_el (e := e) (by omega) M m3 hR.gs
      rw [eg]
      have un : ∀ e', e' < n → nI e = nI e' → e' = e := fun e' h1 h2 => ((nI_eq (by omega) (by omega)).mp h2).symm
      refine ⟨fun h6 => j_MG_element ⟨_, rfl, start rfl (fun e' he' hx' => ?_) (fun q => absurd hx q)⟩, fun h6 => ?_⟩
      · have hy : y = 1 := by
          obtain ⟨v, hv, rfl⟩ := nI_of h3
          have : v ≤ 2 := (nI_leI (b := 2) hv (by omega)).mp h4
          have a0 : v ≠ 0 := fun e => h6 (by rw [e]; rfl)
          have a1 : v ≠ 2 := fun e => h5 (by rw [e]; rfl)
          rw [show v = 1 by omega]
          rfl
        rw [un e' he' hx']
        exact j_MD_element (j_MD_element ⟨fun q => absurd q h6, fun _ => ⟨fun _ => j_MD_element ⟨rfl, inv0⟩, fun q => absurd hy q⟩⟩)
      · refine (ev_bc _ _).rt (j_MG_element ⟨_, rfl, start rfl (fun e' he' hx' => ?_) (fun q => absurd hx q)⟩)
        rw [un e' he' hx']
        refine j_MD_element (j_MD_element ⟨fun _ => j_MD_element ((ev_bits (by omega) _).rt ⟨?_, inv0⟩), fun q => absurd h6 q⟩)
        rw [bc12 _ (by omega)]
    · refine ⟨206, rfl, rfl, 1, rfl, rfl, rfl, (ev_look st1 Hd_206 (by omega) (by omega) m1 m3 n1 h8).mono ?_⟩
      rintro r σ' ⟨rfl, I1, rfl, hL, hF⟩
      refine ⟨206, rfl, rfl, rfl, ?_⟩
      show am_ev am_sh m_Ho_turnedBy [.ref 206, .int ((1 : Int32) <<< (nI e &&& 31))] _ _
      rw [hsh]
      have h7 := pow_le7 h8
      refine (ev_turnedBy Hd_206 hL h8 hen).rt ⟨_, rfl, start (hF 237 (by omega) (by omega)) (fun e' he' hx' => ?_) (fun q => absurd hx q)⟩
      have ee : e' = e := ((nI_eq (by omega) (by omega)).mp hx').symm
      subst ee
      have hG : Gm I1 M gs := by unfold Gm; rw [hF 237 (by omega) (by omega)]; exact hR.gm
      have sm : Sm I1 I := ⟨fun c c1 c2 => hF c (by unfold Scr at c1; omega) (by unfold Scr at c1; omega), by rw [hF 236 (by omega) (by omega)], by rw [hF 236 (by omega) (by omega)], by rw [hF 236 (by omega) (by omega)]⟩
      refine j_MD_element (j_MD_element ⟨fun q => absurd (h5.symm.trans q) (by decide), fun _ => ⟨fun q => absurd (h5.symm.trans q) (by decide), fun _ => ⟨fun _ => j_MD_element ⟨rfl, (ev_turns hG (by rw [hF 237 (by omega) (by omega)]; exact n2) h8 hen).rt ⟨?_, I1, J, f, g, rfl, Inv.sm ⟨n, M, K, gs, hR⟩ hrest sm⟩⟩, fun q => absurd h5 q⟩⟩⟩)
      congr 3
      refine cn_congr (fun s hs => ?_)
      have ho := or_lt hs hen
      rw [and_tab s (by omega) e' (by omega), hol_hlm (by omega) hR.gs, hol_hlm (by omega) hR.gs]
      rfl
  · rw [e] at h4; exact absurd (by decide) h4
  · rw [e] at h4; exact absurd (by decide) h4
  · rw [e] at h4; exact absurd (by decide) h4
end T11
