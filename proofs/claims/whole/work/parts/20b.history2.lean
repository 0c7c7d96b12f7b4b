/-! a History becomes another -/
section HIST2
variable {f g : Nat → Nat} {I : Nat → Nat → Int32} {J : Nat → Nat → Int64}
def Hb (I' I : Nat → Nat → Int32) (fa fb : Nat → Nat) (h1 N s : Nat) : Prop := I' h1 0 = nI N ∧ (∀ j, j < s → Cp I' (fa j) I (fb j)) ∧ ∀ c, c ≠ h1 → (∀ j, j < s → ¬ (fa j ≤ c ∧ c ≤ fa j + 13)) → I' c = I c
theorem Cp.of {I1 I2 I3 : Nat → Nat → Int32} {a b : Nat} (h : Cp I1 a I2 b) (he : ∀ c, b ≤ c → c ≤ b + 13 → I2 c = I3 c) : Cp I1 a I3 b := by
  obtain ⟨⟨c1, c2, c3⟩, c4, c5, c6⟩ := h
  rw [he b (by omega) (by omega)] at c1 c2 c3
  rw [he (b + 2) (by omega) (by omega)] at c5
  refine ⟨⟨c1, c2, c3⟩, fun k hk => by rw [c4 k hk, he (b + 1) (by omega) (by omega)], c5, fun t ht => ?_⟩
  obtain ⟨g1, g2⟩ := c6 t ht
  refine ⟨by rw [g1, he (b + 3) (by omega) (by omega)], fun k hk => ?_⟩
  rw [(g2 k hk).1, (g2 k hk).2, he (b + 5 + t) (by omega) (by omega), he (b + 10 + t) (by omega) (by omega)]
  exact ⟨rfl, rfl⟩
theorem Cp.to {I1 I2 I3 : Nat → Nat → Int32} {a b : Nat} (h : Cp I1 a I2 b) (he : ∀ c, a ≤ c → c ≤ a + 13 → I3 c = I1 c) : Cp I3 a I2 b := by
  obtain ⟨⟨c1, c2, c3⟩, c4, c5, c6⟩ := h
  rw [← he a (by omega) (by omega)] at c1 c2 c3
  rw [← he (a + 2) (by omega) (by omega)] at c5
  refine ⟨⟨c1, c2, c3⟩, fun k hk => by rw [← c4 k hk, he (a + 1) (by omega) (by omega)], c5, fun t ht => ?_⟩
  obtain ⟨g1, g2⟩ := c6 t ht
  refine ⟨by rw [← g1, he (a + 3) (by omega) (by omega)], fun k hk => ?_⟩
  rw [← (g2 k hk).1, ← (g2 k hk).2, he (a + 5 + t) (by omega) (by omega), he (a + 10 + t) (by omega) (by omega)]
  exact ⟨rfl, rfl⟩
theorem lp_hbecomes {h1 h2 N : Nat} {fa fb : Nat → Nat} (A : am_sh[h1]? = some (0, 0)) (A1 : am_Rf f g h1 1 = some (h1 + 1)) (A2 : am_sh[h1 + 1]? = some (18, 6)) (A3 : ∀ j, j < 6 → am_Rf f g (h1 + 1) j = some (fa j)) (B : am_sh[h2]? = some (0, 0)) (B1 : am_Rf f g h2 1 = some (h2 + 1)) (B2 : am_sh[h2 + 1]? = some (18, 6)) (B3 : ∀ j, j < 6 → am_Rf f g (h2 + 1) j = some (fb j)) (SA : ∀ j, j < 6 → Sta (fa j)) (SB : ∀ j, j < 6 → Sta (fb j)) (hd : ∀ i j, i < 6 → j < 6 → fa i + 13 < fb j ∨ fb j + 13 < fa i) (ha : ∀ i j, i < 6 → j < 6 → i ≠ j → fa i + 13 < fa j ∨ fa j + 13 < fa i) (hh : ∀ j, j < 6 → ¬ (fa j ≤ h1 ∧ h1 ≤ fa j + 13)) (hk : ∀ j, j < 6 → ¬ (fb j ≤ h1 ∧ h1 ≤ fb j + 13)) (h6 : N ≤ 6) : ∀ n s (I' : Nat → Nat → Int32), n + s = N → Hb I' I fa fb h1 N s → am_u am_sh m_Hi_becomes (fun r σ' => r = none ∧ ∃ I', σ' = (I', J, am_Rf f g) ∧ Hb I' I fa fb h1 N N) (am_at am_c_Hi_becomes 10) 10 [some (.ref h1), some (.ref h2), some (.int (nI s))] [] (I', J, am_Rf f g) := by
  intro n
  induction n with
  | zero =>
    intro s I' hs hB
    obtain rfl : s = N := by omega
    refine ⟨A, br_t (by rw [hB.1]; exact nI_le (by omega) (by omega)) (j_Hi_becomes ⟨rfl, I', rfl, hB⟩)⟩
  | succ n ih =>
    intro s I' hs hB
    obtain ⟨b1, b2, b3⟩ := hB
    refine ⟨A, br_f (by rw [b1]; exact nI_ge (by omega) (by omega)) ?_⟩
    refine ⟨h1 + 1, A, A1, 6, s, A2, by omega, rfl, fa s, A3 s (by omega), h2 + 1, B, B1, 6, s, B2, by omega, rfl, fb s, B3 s (by omega), (St_of (f := f) (g := g) (SA s (by omega))).1.1, (ev_becomes (St_of (SA s (by omega))) (St_of (SB s (by omega))) (hd s s (by omega) (by omega))).mono ?_⟩
    rintro r σ' ⟨rfl, I2, rfl, hC, hF⟩
    refine j_Hi_becomes ?_
    rw [show nI s + 1 = nI (s + 1) from nI_1 s]
    have hs6 := hh s (by omega)
    refine ih (s + 1) I2 (by omega) ⟨by rw [hF h1 (by omega), b1], fun j hj => ?_, fun c h3 h4 => ?_⟩
    · by_cases e : j = s
      · subst e
        refine hC.of (fun c g1 g2 => b3 c (fun q => hk j (by omega) ⟨by omega, by omega⟩) (fun i hi q => ?_))
        have := hd i j (by omega) (by omega)
        omega
      · refine (b2 j (by omega)).to (fun c g1 g2 => hF c (fun q => ?_))
        have := ha j s (by omega) (by omega) e
        omega
    · rw [hF c (h4 s (by omega)), b3 c h3 (fun j hj => h4 j (by omega))]
theorem ev_hbecomes {h1 h2 N : Nat} {fa fb : Nat → Nat} (A : am_sh[h1]? = some (0, 0)) (A1 : am_Rf f g h1 1 = some (h1 + 1)) (A2 : am_sh[h1 + 1]? = some (18, 6)) (A3 : ∀ j, j < 6 → am_Rf f g (h1 + 1) j = some (fa j)) (B : am_sh[h2]? = some (0, 0)) (B1 : am_Rf f g h2 1 = some (h2 + 1)) (B2 : am_sh[h2 + 1]? = some (18, 6)) (B3 : ∀ j, j < 6 → am_Rf f g (h2 + 1) j = some (fb j)) (SA : ∀ j, j < 6 → Sta (fa j)) (SB : ∀ j, j < 6 → Sta (fb j)) (hd : ∀ i j, i < 6 → j < 6 → fa i + 13 < fb j ∨ fb j + 13 < fa i) (ha : ∀ i j, i < 6 → j < 6 → i ≠ j → fa i + 13 < fa j ∨ fa j + 13 < fa i) (hh : ∀ j, j < 6 → ¬ (fa j ≤ h1 ∧ h1 ≤ fa j + 13)) (hk : ∀ j, j < 6 → ¬ (fb j ≤ h1 ∧ h1 ≤ fb j + 13)) (h6 : N ≤ 6) (hN : I h2 0 = nI N) : am_ev am_sh m_Hi_becomes [.ref h1, .ref h2] (I, J, am_Rf f g) (fun r σ' => r = none ∧ ∃ I', σ' = (I', J, am_Rf f g) ∧ Hb I' I fa fb h1 N N) := by
  refine s_Hi_becomes ⟨B, A, ?_⟩
  refine j_Hi_becomes (lp_hbecomes A A1 A2 A3 B B1 B2 B3 SA SB hd ha hh hk h6 N 0 _ rfl ⟨by rw [am_up_eq, hN], fun j hj => by omega, fun c h3 _ => ?_⟩)
  funext k
  rw [am_up_ne (fun q => h3 q.1)]
/-- the image's past becomes the past -/
theorem ev_toImage {N : Nat} (hf : Hf f) (hg : Hg g) (h6 : N ≤ 6) (hN : I 15 0 = nI N) : am_ev am_sh m_Hi_becomes [.ref 115, .ref 15] (I, J, am_Rf f g) (fun r σ' => r = none ∧ ∃ I', σ' = (I', J, am_Rf f g) ∧ Hb I' I g f 115 N N) := by
  refine ev_hbecomes rfl rfl rfl (fun j hj => Rf_116 hj) rfl rfl rfl (fun j hj => Rf_16 hj) (fun j hj => hg.sta hj) (fun j hj => hf.sta hj) (fun i j hi hj => ?_) (fun i j hi hj hij => ?_) (fun j hj => ?_) (fun j hj => ?_) h6 hN
  · obtain ⟨x, hx, ex⟩ := hg.1 i hi
    obtain ⟨y, hy, ey⟩ := hf.1 j hj
    omega
  · obtain ⟨x, hx, ex⟩ := hg.1 i hi
    obtain ⟨y, hy, ey⟩ := hg.1 j hj
    have : x ≠ y := fun e => hij (hg.2 i j hi hj (by omega))
    omega
  · obtain ⟨x, hx, ex⟩ := hg.1 j hj
    omega
  · obtain ⟨x, hx, ex⟩ := hf.1 j hj
    omega
/-- the past becomes the image's -/
theorem ev_fromImage {N : Nat} (hf : Hf f) (hg : Hg g) (h6 : N ≤ 6) (hN : I 115 0 = nI N) : am_ev am_sh m_Hi_becomes [.ref 15, .ref 115] (I, J, am_Rf f g) (fun r σ' => r = none ∧ ∃ I', σ' = (I', J, am_Rf f g) ∧ Hb I' I f g 15 N N) := by
  refine ev_hbecomes rfl rfl rfl (fun j hj => Rf_16 hj) rfl rfl rfl (fun j hj => Rf_116 hj) (fun j hj => hf.sta hj) (fun j hj => hg.sta hj) (fun i j hi hj => ?_) (fun i j hi hj hij => ?_) (fun j hj => ?_) (fun j hj => ?_) h6 hN
  · obtain ⟨x, hx, ex⟩ := hf.1 i hi
    obtain ⟨y, hy, ey⟩ := hg.1 j hj
    omega
  · obtain ⟨x, hx, ex⟩ := hf.1 i hi
    obtain ⟨y, hy, ey⟩ := hf.1 j hj
    have : x ≠ y := fun e => hij (hf.2 i j hi hj (by omega))
    omega
  · obtain ⟨x, hx, ex⟩ := hf.1 j hj
    omega
  · obtain ⟨x, hx, ex⟩ := hg.1 j hj
    omega
end HIST2
