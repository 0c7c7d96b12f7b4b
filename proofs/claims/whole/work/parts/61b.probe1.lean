/-! the class's Probing (208; holding 209, 210, byThree 211, probes 212) -/
def pl (u d : Nat) : Nat := th3 u + 2 * th3 d
theorem th3_or : ∀ u, u < 128 → ∀ e, e < 7 → tb u e = false → th3 (u ||| 2 ^ e) = th3 u + 3 ^ e := by decide +kernel
theorem th3_le : ∀ u, u < 128 → th3 u ≤ 1093 := by decide +kernel
theorem pl_lt7 : ∀ u, u < 128 → ∀ d, d < 128 → Nat.beq (u &&& d) 0 = true → pl u d < 2187 := by decide +kernel
theorem beq0 {x : Nat} (h : x = 0) : Nat.beq x 0 = true := by rw [h]; rfl
theorem op_bit {n u d e : Nat} (hu : u < 2 ^ n) (hd : d < 2 ^ n) : tb ((2 ^ n - 1) ^^^ (u ||| d)) e = opn n u d e := by
  unfold opn
  rw [tb_bit, tb_bit, tb_bit, Nat.testBit_xor, Nat.testBit_two_pow_sub_one, Nat.testBit_or]
  by_cases h : e < n
  · rw [decide_eq_true h]
    cases u.testBit e <;> cases d.testBit e <;> rfl
  · have a1 : u.testBit e = false := Nat.testBit_lt_two_pow (Nat.lt_of_lt_of_le hu (Nat.pow_le_pow_right (by omega) (by omega)))
    have a2 : d.testBit e = false := Nat.testBit_lt_two_pow (Nat.lt_of_lt_of_le hd (Nat.pow_le_pow_right (by omega) (by omega)))
    rw [decide_eq_false h, a1, a2]
    rfl
section PROBE
variable {f g : Nat → Nat} {I : Nat → Nat → Int32} {J : Nat → Nat → Int64} {n : Nat} {hs : Nat → Bool}
theorem ev_prPlace {u d : Nat} (hB : By3 I) (hu : u < 128) (hd : d < 128) : am_ev am_sh m_Pr_placeOf [.ref 208, .int (nI u), .int (nI d)] (I, J, am_Rf f g) (Rt (.int (nI (pl u d))) (I, J, am_Rf f g)) := by
  refine s_Pr_placeOf ⟨211, rfl, rfl, 128, u, rfl, hu, rfl, 211, rfl, rfl, 128, d, rfl, hd, rfl, ?_, rfl⟩
  show some (Value.int (I 211 u + nI 2 * I 211 d)) = _
  rw [hB u hu, hB d hd, nI_mul, nI_add]
  rfl
theorem ev_openOf {u d : Nat} (hL : Lk I 209 (2 ^ n) hs) (h8 : n < 8) (hu : u < 2 ^ n) (hd : d < 2 ^ n) : am_ev am_sh m_Pr_openOf [.ref 208, .int (nI u), .int (nI d)] (I, J, am_Rf f g) (Rt (.int (nI ((2 ^ n - 1) ^^^ (u ||| d)))) (I, J, am_Rf f g)) := by
  have h7 := pow_le7 h8
  have ho : u ||| d < 2 ^ n := Nat.or_lt_two_pow hu hd
  refine s_Pr_openOf ⟨209, rfl, rfl, rfl, ?_, rfl⟩
  show some (Value.int (I 209 0 &&& ((nI u ||| nI d) ^^^ (-1)))) = _
  rw [hL.1, nI_or, cmp_tab n h8 _ (by omega) ho]
theorem ev_isOver {u d : Nat} (hL : Lk I 209 (2 ^ n) hs) (h8 : n < 8) (hu : u < 2 ^ n) (hd : d < 2 ^ n) : am_ev am_sh m_Pr_isOver [.ref 208, .int (nI u), .int (nI d)] (I, J, am_Rf f g) (Rt (.int (b2i (ov hs n u d))) (I, J, am_Rf f g)) := by
  have h7 := pow_le7 h8
  have hx := xor_lt hd
  have e1 : I 210 u = b2i (hs u) := hL.2 u hu
  have e2 : I 210 ((2 ^ n - 1) ^^^ d) = b2i (hs ((2 ^ n - 1) ^^^ d)) := hL.2 _ hx
  refine s_Pr_isOver ⟨209, rfl, rfl, 210, rfl, rfl, 128, u, rfl, by omega, rfl, fun h1 => j_Pr_isOver (j_Pr_isOver ⟨Or.inr rfl, ?_, rfl⟩), fun h1 => ⟨209, rfl, rfl, 210, rfl, rfl, 209, rfl, rfl, rfl, 128, (2 ^ n - 1) ^^^ d, rfl, by omega, ?_, fun h2 => j_Pr_isOver ⟨Or.inl rfl, ?_, rfl⟩, fun h2 => j_Pr_isOver ⟨Or.inr rfl, ?_, rfl⟩⟩⟩
  · have h1 : ¬ I 210 u = 0 := h1
    rw [e1, b2i_ne0] at h1
    unfold ov
    rw [h1]
    rfl
  · show I 209 0 &&& (nI d ^^^ (-1)) = _
    rw [hL.1, cmp_tab n h8 _ (by omega) hd]
  · have h1 : I 210 u = 0 := h1
    have h2 : ¬ I 210 ((2 ^ n - 1) ^^^ d) = 0 := h2
    rw [e1, b2i_eq0] at h1
    rw [e2, b2i_ne0] at h2
    unfold ov
    rw [h1, h2]
    rfl
  · have h1 : I 210 u = 0 := h1
    have h2 : I 210 ((2 ^ n - 1) ^^^ d) = 0 := h2
    rw [e1, b2i_eq0] at h1
    rw [e2, b2i_eq0] at h2
    unfold ov
    rw [h1, h2]
    rfl
theorem max_nI {a b : Nat} (ha : a < 2 ^ 31) (hb : b < 2 ^ 31) : (if nI a < nI b then nI b else nI a) = nI (max a b) := by
  by_cases h : a < b
  · rw [if_pos (nI_lt h hb), Nat.max_eq_right (by omega)]
  · rw [if_neg (nI_nlt (by omega) ha), Nat.max_eq_left (by omega)]
theorem ev_probesBy {u d e a b : Nat} (hB : By3 I) (h8 : n < 8) (hu : u < 2 ^ n) (hd : d < 2 ^ n) (hx : u &&& d = 0) (hO : opn n u d e = true) (ha : I 212 (pl (u ||| 2 ^ e) d) = nI a) (hb : I 212 (pl u (d ||| 2 ^ e)) = nI b) (ha7 : a ≤ 7) (hb7 : b ≤ 7) : am_ev am_sh m_Pr_probesBy [.ref 208, .int (nI u), .int (nI d), .int (nI (2 ^ e))] (I, J, am_Rf f g) (Rt (.int (nI (1 + max a b))) (I, J, am_Rf f g)) := by
  have h7 := pow_le7 h8
  obtain ⟨o1, o2, o3⟩ := opn_iff.mp hO
  have a1 := or_lt hu o1
  have a2 := or_lt hd o1
  refine s_Pr_probesBy ⟨212, rfl, rfl, rfl, ?_⟩
  show am_ev am_sh m_Pr_placeOf [.ref 208, .int (nI u ||| nI (2 ^ e)), .int (nI d)] _ _
  rw [nI_or]
  refine (ev_prPlace hB (by omega) (by omega)).rt ⟨2187, pl (u ||| 2 ^ e) d, rfl, pl_lt7 _ (by omega) _ (by omega) (beq0 (or_dis hx o3)), rfl, 212, rfl, rfl, rfl, ?_⟩
  show am_ev am_sh m_Pr_placeOf [.ref 208, .int (nI u), .int (nI d ||| nI (2 ^ e))] _ _
  rw [nI_or]
  refine (ev_prPlace hB (by omega) (by omega)).rt ⟨2187, pl u (d ||| 2 ^ e), rfl, pl_lt7 _ (by omega) _ (by omega) (beq0 (or_dis2 hx o2)), rfl, ?_, rfl⟩
  show some (Value.int (nI 1 + (if I 212 (pl (u ||| 2 ^ e) d) < I 212 (pl u (d ||| 2 ^ e)) then I 212 (pl u (d ||| 2 ^ e)) else I 212 (pl (u ||| 2 ^ e) d)))) = _
  rw [ha, hb, max_nI (by omega) (by omega), nI_add]
/-- what must be known ahead of a state -/
def Ahd (I : Nat → Nat → Int32) (hs : Nat → Bool) (n u d : Nat) : Prop := ∀ e, opn n u d e = true → I 212 (pl (u ||| 2 ^ e) d) = nI (pV hs n (u ||| 2 ^ e) d) ∧ I 212 (pl u (d ||| 2 ^ e)) = nI (pV hs n u (d ||| 2 ^ e))
theorem ev_byV {u d e : Nat} (hB : By3 I) (h8 : n < 8) (hu : u < 2 ^ n) (hd : d < 2 ^ n) (hx : u &&& d = 0) (hO : opn n u d e = true) (hA : Ahd I hs n u d) : am_ev am_sh m_Pr_probesBy [.ref 208, .int (nI u), .int (nI d), .int (nI (2 ^ e))] (I, J, am_Rf f g) (Rt (.int (nI (py (pV hs n) u d e))) (I, J, am_Rf f g)) := by
  obtain ⟨o1, o2, o3⟩ := opn_iff.mp hO
  obtain ⟨a1, a2⟩ := hA e hO
  exact ev_probesBy hB h8 hu hd hx hO a1 a2 (pV_le7 h8 (or_lt hu o1) hd (or_dis hx o3)) (pV_le7 h8 hu (or_lt hd o1) (or_dis2 hx o2))
theorem min_nI {a b : Nat} (ha : a < 2 ^ 31) (hb : b < 2 ^ 31) : (if nI b < nI a then nI b else nI a) = nI (if b < a then b else a) := by
  by_cases h : b < a
  · rw [if_pos (nI_lt h ha), if_pos h]
  · rw [if_neg (nI_nlt (by omega) hb), if_neg h]
theorem py_le8 {u d e : Nat} (h8 : n < 8) (hu : u < 2 ^ n) (hd : d < 2 ^ n) (hx : u &&& d = 0) (hO : opn n u d e = true) : py (pV hs n) u d e ≤ 8 := by
  obtain ⟨o1, o2, o3⟩ := opn_iff.mp hO
  have := pV_le7 (hs := hs) h8 (or_lt hu o1) hd (or_dis hx o3)
  have := pV_le7 (hs := hs) h8 hu (or_lt hd o1) (or_dis2 hx o2)
  unfold py
  omega
theorem lp_from {u d : Nat} {q : am_Q} (hB : By3 I) (h8 : n < 8) (hu : u < 2 ^ n) (hd : d < 2 ^ n) (hx : u &&& d = 0) (hA : Ahd I hs n u d) (hq : q (some (.int (nI (fo (fm (opn n u d) (py (pV hs n) u d)) 7 7)))) (I, J, am_Rf f g)) : ∀ m e s, m + e = 7 → s = nI (fo (fm (opn n u d) (py (pV hs n) u d)) 7 e) → am_u am_sh m_Pr_probesFrom q (am_at am_c_Pr_probesFrom 25) 25 [some (.ref 208), some (.int (nI u)), some (.int (nI d)), some (.int (nI ((2 ^ n - 1) ^^^ (u ||| d)))), some (.int s), some (.int (nI e))] [] (I, J, am_Rf f g) := by
  have h7 := pow_le7 h8
  have hxo := xor_lt (Nat.or_lt_two_pow hu hd)
  intro m
  induction m with
  | zero =>
    intro e s hk hse
    obtain rfl : e = 7 := by omega
    subst hse
    exact br_t (nI_le (a := 7) (by omega) (by omega)) (j_Pr_probesFrom hq)
  | succ m ih =>
    intro e s hk hse
    have hbit := has_tb (s := (2 ^ n - 1) ^^^ (u ||| d)) (e := e) (by omega) (by omega)
    rw [op_bit hu hd] at hbit
    refine br_f (nI_ge (b := 7) (by omega) (by omega)) ⟨fun h1 => j_Pr_probesFrom (j_Pr_probesFrom ?_), fun h1 => ?_⟩
    · have hO : opn n u d e = false := by rw [← hbit]; exact decide_eq_false h1
      rw [show nI e + 1 = nI (e + 1) from nI_1 e]
      refine ih (e + 1) _ (by omega) ?_
      rw [fo_s, hse]
      congr 1
      unfold fm
      rw [hO, if_neg (by decide)]
    · have hO : opn n u d e = true := by rw [← hbit]; exact decide_eq_true h1
      refine ⟨rfl, ?_⟩
      show am_ev am_sh m_Pr_probesBy [.ref 208, .int (nI u), .int (nI d), .int ((1 : Int32) <<< (nI e &&& 31))] _ _
      rw [shl_tab e (by omega)]
      refine (ev_byV hB h8 hu hd hx hO hA).rt (j_Pr_probesFrom ?_)
      have hp := py_le8 (hs := hs) h8 hu hd hx hO
      have ha := fm_a (O := opn n u d) (Y := py (pV hs n) u d) (a := 7) e
      rw [show nI e + 1 = nI (e + 1) from nI_1 e, hse, min_nI (by omega) (by omega)]
      refine ih (e + 1) _ (by omega) ?_
      rw [fo_s]
      generalize fo (fm (opn n u d) (py (pV hs n) u d)) 7 e = X
      unfold fm
      rw [hO, if_pos rfl]
theorem ev_probesFrom {u d : Nat} (hB : By3 I) (hL : Lk I 209 (2 ^ n) hs) (h8 : n < 8) (hu : u < 2 ^ n) (hd : d < 2 ^ n) (hx : u &&& d = 0) (hA : Ahd I hs n u d) : am_ev am_sh m_Pr_probesFrom [.ref 208, .int (nI u), .int (nI d)] (I, J, am_Rf f g) (Rt (.int (nI (pV hs n u d))) (I, J, am_Rf f g)) := by
  have hV := pV_eq (hs := hs) h8 hu hd hx
  refine s_Pr_probesFrom ⟨rfl, (ev_isOver hL h8 hu hd).rt ⟨fun h1 => j_Pr_probesFrom ⟨rfl, (ev_openOf hL h8 hu hd).rt (j_Pr_probesFrom (lp_from hB h8 hu hd hx hA ⟨?_, rfl⟩ 7 0 _ rfl rfl))⟩, fun h1 => ⟨?_, rfl⟩⟩⟩
  · rw [b2i_ne0.mp h1, if_pos rfl] at hV
    rw [hV]
    rfl
  · rw [b2i_eq0.mp h1, if_neg (by decide)] at hV
    rw [hV]
end PROBE
