/-! numbers with a sign; the class's Packing: what it looks for -/
def zI (z : Int) : Int32 := Int32.ofInt z
theorem zI_toInt {z : Int} (h1 : -2147483648 ≤ z) (h2 : z < 2147483648) : (zI z).toInt = z := Int32.toInt_ofInt_of_le h1 h2
theorem zI_mul (a b : Int) : zI a * zI b = zI (a * b) := (Int32.ofInt_mul a b).symm
theorem zI_sub (a b : Int) : zI a - zI b = zI (a - b) := (Int32.ofInt_sub a b).symm
theorem zI_add (a b : Int) : zI a + zI b = zI (a + b) := (Int32.ofInt_add a b).symm
theorem zI_neg (a : Int) : - zI a = zI (-a) := (Int32.ofInt_neg a).symm
theorem zI_nat (n : Nat) : zI (n : Int) = nI n := Int32.ofInt_eq_ofNat
theorem zI_0 : zI 0 = 0 := rfl
theorem zI_1 : zI 1 = 1 := rfl
theorem zI_m1 : zI (-1) = -1 := rfl
theorem zI_lt {a b : Int} (h1 : -2147483648 ≤ a) (h2 : a < 2147483648) (h3 : -2147483648 ≤ b) (h4 : b < 2147483648) : zI a < zI b ↔ a < b := by
  rw [Int32.lt_iff_toInt_lt, zI_toInt h1 h2, zI_toInt h3 h4]
theorem zI_le {a b : Int} (h1 : -2147483648 ≤ a) (h2 : a < 2147483648) (h3 : -2147483648 ≤ b) (h4 : b < 2147483648) : zI a ≤ zI b ↔ a ≤ b := by
  rw [Int32.le_iff_toInt_le, zI_toInt h1 h2, zI_toInt h3 h4]
theorem zI_eq {a b : Int} (h1 : -2147483648 ≤ a) (h2 : a < 2147483648) (h3 : -2147483648 ≤ b) (h4 : b < 2147483648) : zI a = zI b ↔ a = b := by
  rw [← Int32.toInt_inj, zI_toInt h1 h2, zI_toInt h3 h4]
theorem zI_div {d q : Int} (h0 : ¬ d = 0) (h1 : -2147483647 ≤ d * q) (h2 : d * q < 2147483648) (h3 : -2147483648 ≤ d) (h4 : d < 2147483648) (h5 : -2147483648 ≤ q) (h6 : q < 2147483648) : zI (d * q) / zI d = zI q := by
  apply Int32.toInt_inj.mp
  rw [Int32.toInt_div_of_ne_left, zI_toInt (by omega) h2, zI_toInt h3 h4, zI_toInt h5 h6, Int.mul_tdiv_cancel_left q h0]
  intro e
  have := congrArg Int32.toInt e
  rw [zI_toInt (by omega) h2] at this
  rw [show Int32.minValue.toInt = -2147483648 from rfl] at this
  omega
theorem abs_mul {a b : Int} {A B : Nat} (ha : a.natAbs ≤ A) (hb : b.natAbs ≤ B) : (a * b).natAbs ≤ A * B := by
  rw [Int.natAbs_mul]
  exact Nat.mul_le_mul ha hb
theorem abs_lo {a : Int} {A : Nat} (h : a.natAbs ≤ A) (hA : A ≤ 2147483647) : -2147483648 ≤ a ∧ a < 2147483648 := by omega
theorem abs_2 {a b : Int} (ha : a.natAbs ≤ 40320) (hb : b.natAbs ≤ 40320) : -2147483647 ≤ a * b ∧ a * b < 2147483648 := by
  have := abs_mul ha hb
  omega
/-- the vector of a column -/
def cw (n M : Nat) (gs N : Nat → Nat) (c : Nat) : Nat → Int := if c < M then lpc n gs (N c) else lph n
theorem cw_abs (n M : Nat) (gs N : Nat → Nat) (c k : Nat) : (cw n M gs N c k).natAbs ≤ 1 := by
  unfold cw
  split
  · exact lpc_abs _ _
  · exact lph_abs _
theorem cw_lt {n M : Nat} {gs N : Nat → Nat} {c : Nat} (h : c < M) : cw n M gs N c = lpc n gs (N c) := if_pos h
theorem cw_M {n M : Nat} {gs N : Nat → Nat} : cw n M gs N M = lph n := if_neg (by omega)
/-- the class's table: rows B, columns N -/
def Tbl (I : Nat → Nat → Int32) (n M : Nat) (gs B N : Nat → Nat) : Prop := (n < 8 ∧ M ≤ 12) ∧ I 213 3 = nI n ∧ I 213 4 = nI M ∧ I 213 5 = zI (sD n (lpc n gs) B) ∧ (∀ r, r < n → I 223 r = nI (B r) ∧ B r < 19) ∧ (∀ c, c < M → I 224 c = nI (N c) ∧ N c < 19) ∧ ∀ r, r ≤ n → ∀ c, c ≤ M → I (215 + r) c = zI (sP n (lpc n gs) B r (cw n M gs N c))
section PK
variable {f g : Nat → Nat} {I : Nat → Nat → Int32} {J : Nat → Nat → Int64} {n M : Nat} {gs B N : Nat → Nat}
theorem pk_R {r : Nat} (h : r < 8) : am_Rf f g 214 r = some (215 + r) := by
  rcases (show r = 0 ∨ r = 1 ∨ r = 2 ∨ r = 3 ∨ r = 4 ∨ r = 5 ∨ r = 6 ∨ r = 7 by omega) with rfl | rfl | rfl | rfl | rfl | rfl | rfl | rfl <;> rfl
theorem pk_h {r : Nat} (h : r < 8) : am_sh[215 + r]? = some (14, 13) := by
  rcases (show r = 0 ∨ r = 1 ∨ r = 2 ∨ r = 3 ∨ r = 4 ∨ r = 5 ∨ r = 6 ∨ r = 7 by omega) with rfl | rfl | rfl | rfl | rfl | rfl | rfl | rfl <;> rfl
theorem Tbl.abs (hT : Tbl I n M gs B N) (r c : Nat) : (sP n (lpc n gs) B r (cw n M gs N c)).natAbs ≤ 40320 := sP_abs hT.1.1 (cw_abs n M gs N c)
theorem Tbl.rg (hT : Tbl I n M gs B N) (r c : Nat) : -2147483648 ≤ sP n (lpc n gs) B r (cw n M gs N c) ∧ sP n (lpc n gs) B r (cw n M gs N c) < 2147483648 := abs_lo (hT.abs r c) (by omega)
theorem ev_most (hT : Tbl I n M gs B N) : am_ev am_sh m_Pa_most [.ref 213] (I, J, am_Rf f g) (Rt (.int (I (215 + n) M)) (I, J, am_Rf f g)) := by
  obtain ⟨⟨h8, h12⟩, hr, hc, _⟩ := id hT
  exact s_Pa_most ⟨214, rfl, rfl, rfl, 8, n, rfl, h8, hr, 215 + n, pk_R h8, rfl, 13, M, pk_h h8, by omega, hc, rfl, rfl⟩
/-- the row r is ahead of the row b -/
def ahr (n M : Nat) (gs B N : Nat → Nat) (c r b : Nat) : Prop := sP n (lpc n gs) B r (lph n) * sP n (lpc n gs) B b (cw n M gs N c) < sP n (lpc n gs) B b (lph n) * sP n (lpc n gs) B r (cw n M gs N c) ∨ (sP n (lpc n gs) B r (lph n) * sP n (lpc n gs) B b (cw n M gs N c) = sP n (lpc n gs) B b (lph n) * sP n (lpc n gs) B r (cw n M gs N c) ∧ B r < B b)
theorem ev_isAhead (hT : Tbl I n M gs B N) {r b c : Nat} (hr : r < n) (hb : b < n) (hc : c < M) : am_ev am_sh m_Pa_isAhead [.ref 213, .int (nI r), .int (nI b), .int (nI c)] (I, J, am_Rf f g) (fun x σ' => ∃ y, x = some (.int y) ∧ (y = 0 ↔ ¬ ahr n M gs B N c r b) ∧ σ' = (I, J, am_Rf f g)) := by
  obtain ⟨⟨h8, h12⟩, hrows, hcols, hsc, hB, hN, hcell⟩ := id hT
  have a1 := hcell r (by omega) M (by omega)
  have a2 := hcell b (by omega) c (by omega)
  have a3 := hcell b (by omega) M (by omega)
  have a4 := hcell r (by omega) c (by omega)
  have q1 := abs_2 (hT.abs r M) (hT.abs b c)
  have q2 := abs_2 (hT.abs b M) (hT.abs r c)
  rw [cw_M] at a1 a3 q1 q2
  have e1 : I (215 + r) M * I (215 + b) c = zI (sP n (lpc n gs) B r (lph n) * sP n (lpc n gs) B b (cw n M gs N c)) := by rw [a1, a2, zI_mul]
  have e2 : I (215 + b) M * I (215 + r) c = zI (sP n (lpc n gs) B b (lph n) * sP n (lpc n gs) B r (cw n M gs N c)) := by rw [a3, a4, zI_mul]
  refine s_Pa_isAhead ⟨214, rfl, rfl, 8, r, rfl, by omega, rfl, 215 + r, pk_R (by omega), rfl, 13, M, pk_h (by omega), by omega, hcols, 214, rfl, rfl, 8, b, rfl, by omega, rfl, 215 + b, pk_R (by omega), 13, c, pk_h (by omega), by omega, rfl, ?_⟩
  refine ⟨214, rfl, rfl, 8, b, rfl, by omega, rfl, 215 + b, pk_R (by omega), rfl, 13, M, pk_h (by omega), by omega, hcols, 214, rfl, rfl, 8, r, rfl, by omega, rfl, 215 + r, pk_R (by omega), 13, c, pk_h (by omega), by omega, rfl, ?_⟩
  refine ⟨fun h1 => j_Pa_isAhead (j_Pa_isAhead ⟨Or.inr rfl, 1, rfl, ?_, rfl⟩), fun h1 => ⟨fun h2 => j_Pa_isAhead ⟨Or.inl rfl, 0, rfl, ?_, rfl⟩, fun h2 => ⟨223, rfl, rfl, 7, r, rfl, by omega, rfl, 223, rfl, rfl, 7, b, rfl, by omega, rfl, fun h3 => j_Pa_isAhead ⟨Or.inl rfl, 0, rfl, ?_, rfl⟩, fun h3 => j_Pa_isAhead ⟨Or.inr rfl, 1, rfl, ?_, rfl⟩⟩⟩⟩
  · have h1 : I (215 + r) M * I (215 + b) c < I (215 + b) M * I (215 + r) c := h1
    rw [e1, e2, zI_lt (by omega) q1.2 (by omega) q2.2] at h1
    exact ⟨fun w => absurd w (by decide), fun w => absurd (Or.inl h1) w⟩
  · have h1 : ¬ I (215 + r) M * I (215 + b) c < I (215 + b) M * I (215 + r) c := h1
    have h2 : ¬ I (215 + r) M * I (215 + b) c = I (215 + b) M * I (215 + r) c := h2
    rw [e1, e2, zI_lt (by omega) q1.2 (by omega) q2.2] at h1
    rw [e1, e2, zI_eq (by omega) q1.2 (by omega) q2.2] at h2
    refine ⟨fun _ w => ?_, fun _ => rfl⟩
    rcases w with w | w
    · exact h1 w
    · exact h2 w.1
  · have h1 : ¬ I (215 + r) M * I (215 + b) c < I (215 + b) M * I (215 + r) c := h1
    have h3 : I 223 b ≤ I 223 r := h3
    rw [e1, e2, zI_lt (by omega) q1.2 (by omega) q2.2] at h1
    have b1 := hB r hr
    have b2 := hB b hb
    rw [b1.1, b2.1, nI_leI (by omega) (by omega)] at h3
    refine ⟨fun _ w => ?_, fun _ => rfl⟩
    rcases w with w | w
    · exact h1 w
    · have := w.2
      omega
  · have h2 : I (215 + r) M * I (215 + b) c = I (215 + b) M * I (215 + r) c := h2
    have h3 : ¬ I 223 b ≤ I 223 r := h3
    rw [e1, e2, zI_eq (by omega) q1.2 (by omega) q2.2] at h2
    have b1 := hB r hr
    have b2 := hB b hb
    rw [b1.1, b2.1, nI_leI (by omega) (by omega)] at h3
    exact ⟨fun w => absurd w (by decide), fun w => absurd (Or.inr ⟨h2, by omega⟩) w⟩
/-- the column that comes, among the first ones: its least name -/
def Entr (n M : Nat) (gs B N : Nat → Nat) (c : Nat) (x : Int32) : Prop := (x = -1 ∧ ∀ c', c' < c → 0 ≤ sP n (lpc n gs) B n (cw n M gs N c')) ∨ ∃ b, b < c ∧ x = nI b ∧ sP n (lpc n gs) B n (cw n M gs N b) < 0 ∧ ∀ c', c' < c → sP n (lpc n gs) B n (cw n M gs N c') < 0 → N b ≤ N c'
theorem lp_entering (hT : Tbl I n M gs B N) : ∀ k c x, k + c = M → Entr n M gs B N c x → am_u am_sh m_Pa_entering (fun r σ' => ∃ x, r = some (.int x) ∧ Entr n M gs B N M x ∧ σ' = (I, J, am_Rf f g)) (am_at am_c_Pa_entering 4) 4 [some (.ref 213), some (.int x), some (.int (nI c))] [] (I, J, am_Rf f g) := by
  obtain ⟨⟨h8, h12⟩, hrows, hcols, hsc, hB, hN, hcell⟩ := id hT
  intro k
  induction k with
  | zero =>
    intro c x hk hx
    obtain rfl : c = M := by omega
    exact ⟨rfl, br_t (by rw [hcols]; exact nI_le (Nat.le_refl _) (by omega)) (j_Pa_entering ⟨x, rfl, hx, rfl⟩)⟩
  | succ k ih =>
    intro c x hk hx
    have a1 := hcell n (Nat.le_refl _) c (by omega)
    have q1 := hT.rg n c
    have cost : (0 ≤ I (215 + n) c) ↔ 0 ≤ sP n (lpc n gs) B n (cw n M gs N c) := by rw [a1, ← zI_0, zI_le (by omega) (by omega) q1.1 q1.2]
    have nc := hN c (by omega)
    refine ⟨rfl, br_f (by rw [hcols]; exact nI_ge (by omega) (by omega)) ?_⟩
    rcases hx with ⟨rfl, h2⟩ | ⟨b, b1, rfl, b3, b4⟩
    · refine ⟨214, rfl, rfl, rfl, 8, n, rfl, h8, hrows, 215 + n, pk_R h8, 13, c, pk_h h8, by omega, rfl, fun h1 => j_Pa_entering (j_Pa_entering ?_), fun h1 => br_t (by decide) (j_Pa_entering (j_Pa_entering ?_))⟩
      · rw [nI_1]
        refine ih (c + 1) _ (by omega) (Or.inl ⟨rfl, fun c' hc' => ?_⟩)
        by_cases e : c' = c
        · rw [e]; exact cost.mp h1
        · exact h2 c' (by omega)
      · rw [nI_1]
        have h1 := mt cost.mpr h1
        refine ih (c + 1) _ (by omega) (Or.inr ⟨c, by omega, rfl, by omega, fun c' hc' hn => ?_⟩)
        by_cases e : c' = c
        · rw [e]; exact Nat.le_refl _
        · have := h2 c' (by omega)
          omega
    · have nb := hN b (by omega)
      refine ⟨214, rfl, rfl, rfl, 8, n, rfl, h8, hrows, 215 + n, pk_R h8, 13, c, pk_h h8, by omega, rfl, fun h1 => j_Pa_entering (j_Pa_entering ?_), fun h1 => br_f (nI_pos (by omega)) ⟨224, rfl, rfl, 12, c, rfl, by omega, rfl, 224, rfl, rfl, 12, b, rfl, by omega, rfl, fun h3 => j_Pa_entering (j_Pa_entering ?_), fun h3 => j_Pa_entering ?_⟩⟩
      · rw [nI_1]
        refine ih (c + 1) _ (by omega) (Or.inr ⟨b, by omega, rfl, b3, fun c' hc' hn => ?_⟩)
        by_cases e : c' = c
        · rw [e] at hn
          have := cost.mp h1
          omega
        · exact b4 c' (by omega) hn
      · rw [nI_1]
        have h3 : I 224 b ≤ I 224 c := h3
        rw [nb.1, nc.1, nI_leI (by omega) (by omega)] at h3
        refine ih (c + 1) _ (by omega) (Or.inr ⟨b, by omega, rfl, b3, fun c' hc' hn => ?_⟩)
        by_cases e : c' = c
        · rw [e]; exact h3
        · exact b4 c' (by omega) hn
      · rw [nI_1]
        have h3 : ¬ I 224 b ≤ I 224 c := h3
        rw [nb.1, nc.1, nI_leI (by omega) (by omega)] at h3
        have h1 := mt cost.mpr h1
        refine ih (c + 1) _ (by omega) (Or.inr ⟨c, by omega, rfl, by omega, fun c' hc' hn => ?_⟩)
        by_cases e : c' = c
        · rw [e]; exact Nat.le_refl _
        · have := b4 c' (by omega) hn
          omega
theorem ev_entering (hT : Tbl I n M gs B N) : am_ev am_sh m_Pa_entering [.ref 213] (I, J, am_Rf f g) (fun r σ' => ∃ x, r = some (.int x) ∧ Entr n M gs B N M x ∧ σ' = (I, J, am_Rf f g)) := s_Pa_entering (j_Pa_entering (lp_entering hT M 0 _ (by omega) (Or.inl ⟨rfl, fun c' hc' => by omega⟩)))
/-- the row that goes, among the first ones -/
def Leav (n M : Nat) (gs B N : Nat → Nat) (c r : Nat) (x : Int32) : Prop := (x = -1 ∧ ∀ r', r' < r → sP n (lpc n gs) B r' (cw n M gs N c) ≤ 0) ∨ ∃ b, b < r ∧ x = nI b ∧ 0 < sP n (lpc n gs) B b (cw n M gs N c) ∧ ∀ r', r' < r → 0 < sP n (lpc n gs) B r' (cw n M gs N c) → Ahe (sP n (lpc n gs) B b (lph n)) (sP n (lpc n gs) B b (cw n M gs N c)) (B b) (sP n (lpc n gs) B r' (lph n)) (sP n (lpc n gs) B r' (cw n M gs N c)) (B r')
theorem lp_leaving (hT : Tbl I n M gs B N) {c : Nat} (hc : c < M) : ∀ k r x, k + r = n → Leav n M gs B N c r x → am_u am_sh m_Pa_leaving (fun r σ' => ∃ x, r = some (.int x) ∧ Leav n M gs B N c n x ∧ σ' = (I, J, am_Rf f g)) (am_at am_c_Pa_leaving 4) 4 [some (.ref 213), some (.int (nI c)), some (.int x), some (.int (nI r))] [] (I, J, am_Rf f g) := by
  obtain ⟨⟨h8, h12⟩, hrows, hcols, hsc, hB, hN, hcell⟩ := id hT
  intro k
  induction k with
  | zero =>
    intro r x hk hx
    obtain rfl : r = n := by omega
    exact ⟨rfl, br_t (by rw [hrows]; exact nI_le (Nat.le_refl _) (by omega)) (j_Pa_leaving ⟨x, rfl, hx, rfl⟩)⟩
  | succ k ih =>
    intro r x hk hx
    have a1 := hcell r (by omega) c (by omega)
    have q1 := hT.rg r c
    have share : (I (215 + r) c ≤ 0) ↔ sP n (lpc n gs) B r (cw n M gs N c) ≤ 0 := by rw [a1, ← zI_0, zI_le q1.1 q1.2 (by omega) (by omega)]
    refine ⟨rfl, br_f (by rw [hrows]; exact nI_ge (by omega) (by omega)) ?_⟩
    rcases hx with ⟨rfl, h2⟩ | ⟨b, b1, rfl, b3, b4⟩
    · refine ⟨214, rfl, rfl, 8, r, rfl, by omega, rfl, 215 + r, pk_R (by omega), 13, c, pk_h (by omega), by omega, rfl, fun h1 => j_Pa_leaving (j_Pa_leaving ?_), fun h1 => br_t (by decide) (j_Pa_leaving (j_Pa_leaving ?_))⟩
      · rw [nI_1]
        refine ih (r + 1) _ (by omega) (Or.inl ⟨rfl, fun r' hr' => ?_⟩)
        by_cases e : r' = r
        · rw [e]; exact share.mp h1
        · exact h2 r' (by omega)
      · rw [nI_1]
        have h1 := mt share.mpr h1
        refine ih (r + 1) _ (by omega) (Or.inr ⟨r, by omega, rfl, by omega, fun r' hr' hn => ?_⟩)
        by_cases e : r' = r
        · rw [e]; exact Ahe.rf _ _ _
        · have := h2 r' (by omega)
          omega
    · refine ⟨214, rfl, rfl, 8, r, rfl, by omega, rfl, 215 + r, pk_R (by omega), 13, c, pk_h (by omega), by omega, rfl, fun h1 => j_Pa_leaving (j_Pa_leaving ?_), fun h1 => br_f (nI_pos (by omega)) ⟨rfl, (ev_isAhead hT (r := r) (b := b) (by omega) (by omega) hc).mono ?_⟩⟩
      · rw [nI_1]
        refine ih (r + 1) _ (by omega) (Or.inr ⟨b, by omega, rfl, b3, fun r' hr' hn => ?_⟩)
        by_cases e : r' = r
        · rw [e] at hn
          have := share.mp h1
          omega
        · exact b4 r' (by omega) hn
      · rintro v σ' ⟨y, rfl, hy, rfl⟩
        have h1 := mt share.mpr h1
        refine ⟨fun h3 => j_Pa_leaving (j_Pa_leaving ?_), fun h3 => j_Pa_leaving ?_⟩
        · rw [nI_1]
          refine ih (r + 1) _ (by omega) (Or.inr ⟨b, by omega, rfl, b3, fun r' hr' hn => ?_⟩)
          by_cases e : r' = r
          · rw [e]
            exact Ahe.of (hy.mp h3)
          · exact b4 r' (by omega) hn
        · rw [nI_1]
          have h4 : ahr n M gs B N c r b := Classical.byContradiction (fun w => h3 (hy.mpr w))
          refine ih (r + 1) _ (by omega) (Or.inr ⟨r, by omega, rfl, by omega, fun r' hr' hn => ?_⟩)
          by_cases e : r' = r
          · rw [e]; exact Ahe.rf _ _ _
          · exact Ahe.tr (by omega) b3 hn (Ahe.of2 h4) (b4 r' (by omega) hn)
theorem ev_leaving (hT : Tbl I n M gs B N) {c : Nat} (hc : c < M) : am_ev am_sh m_Pa_leaving [.ref 213, .int (nI c)] (I, J, am_Rf f g) (fun r σ' => ∃ x, r = some (.int x) ∧ Leav n M gs B N c n x ∧ σ' = (I, J, am_Rf f g)) := s_Pa_leaving (j_Pa_leaving (lp_leaving hT hc n 0 _ (by omega) (Or.inl ⟨rfl, fun r' hr' => by omega⟩)))
end PK
