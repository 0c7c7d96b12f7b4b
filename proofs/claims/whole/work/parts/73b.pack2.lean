/-! the class's Packing: a pivot -/
def Rw1 (I : Nat → Nat → Int32) (n M : Nat) (gs B N : Nat → Nat) (r : Nat) : Prop := ∀ c, c ≤ M → I (215 + r) c = zI (sP n (lpc n gs) B r (cw n M gs N c))
section PK
variable {f g : Nat → Nat} {I : Nat → Nat → Int32} {J : Nat → Nat → Int64} {n M : Nat} {gs B N : Nat → Nat}
theorem cw_up {col p c : Nat} (h : c ≠ col) : cw n M gs (up1 N col p) c = cw n M gs N c := by
  unfold cw up1
  rw [if_neg h]
theorem cw_upc {col p : Nat} (h : col < M) : cw n M gs (up1 N col p) col = lpc n gs p := by
  unfold cw up1
  rw [if_pos h, if_pos rfl]
/-- what goes has its own place -/
theorem up_back {col : Nat → Nat → Int} {B : Nat → Nat} {s l r : Nat} (G : Good (n + 1) (bs n col B)) (hl : l < n) (hr : r < n + 1) (hne : r ≠ l) : sP n col (up1 B l s) r (col (B l)) = - sP n col B r (col s) := by
  have t := up_row (s := s) G hl hr hne (col (B l))
  have a1 : sP n col B r (col (B l)) = 0 := by
    unfold sP
    rw [← bs_row (n := n) (col := col) (B := B) hl, cf_own (by omega) hr, if_neg hne]
  have a2 : sP n col B l (col (B l)) = sD n col B := by
    unfold sP sD
    rw [← bs_row (n := n) (col := col) (B := B) hl, vs_id]
  rw [a1, a2, Int.mul_zero, Int.zero_sub, ← Int.neg_mul, Int.mul_comm] at t
  have h0 : sD n col B ≠ 0 := G.1
  exact Int.eq_of_mul_eq_mul_right h0 t
theorem up_self {col : Nat → Nat → Int} {B : Nat → Nat} {s l : Nat} (hl : l < n) : sP n col (up1 B l s) l (col (B l)) = sD n col B := by
  rw [up_own hl]
  unfold sP sD
  rw [← bs_row (n := n) (col := col) (B := B) hl, vs_id]
def Clr (I' I : Nat → Nat → Int32) (n M : Nat) (gs B N : Nat → Nat) (r ln col c : Nat) : Prop := (∀ c', c' < c → c' ≠ col → c' ≤ M → I' (215 + r) c' = zI (sP n (lpc n gs) (up1 B ln (N col)) r (cw n M gs N c'))) ∧ (∀ c', c' ≤ M → (c ≤ c' ∨ c' = col) → I' (215 + r) c' = I (215 + r) c') ∧ ∀ b, b ≠ 215 + r → I' b = I b
theorem lp_clearBy (h8 : n < 8) (h12 : M ≤ 12) (hcols : I 213 4 = nI M) (hsc : I 213 5 = zI (sD n (lpc n gs) B)) (G : Good (n + 1) (bs n (lpc n gs) B)) {r ln col : Nat} (hr : r ≤ n) (hl : ln < n) (hne : r ≠ ln) (hc : col < M) (h1 : Rw1 I n M gs B N r) (h2 : Rw1 I n M gs B N ln) : ∀ k c (I' : Nat → Nat → Int32), k + c = M + 1 → Clr I' I n M gs B N r ln col c → am_u am_sh m_Pa_clearBy (fun x σ' => x = none ∧ ∃ I', σ' = (I', J, am_Rf f g) ∧ Rw1 I' n M gs (up1 B ln (N col)) (up1 N col (B ln)) r ∧ ∀ b, b ≠ 215 + r → I' b = I b) (am_at am_c_Pa_clearBy 23) 23 [some (.ref 213), some (.int (nI r)), some (.int (nI ln)), some (.int (nI col)), some (.int (I (215 + ln) col)), some (.int (I (215 + r) col)), some (.int (nI c))] [] (I', J, am_Rf f g) := by
  have ab : ∀ r c, (sP n (lpc n gs) B r (cw n M gs N c)).natAbs ≤ 40320 := fun r c => sP_abs h8 (cw_abs n M gs N c)
  have ab2 : ∀ r c, (sP n (lpc n gs) (up1 B ln (N col)) r (cw n M gs N c)).natAbs ≤ 40320 := fun r c => sP_abs h8 (cw_abs n M gs N c)
  have abD : (sD n (lpc n gs) B).natAbs ≤ 40320 := sD_abs h8
  have D0 : ¬ sD n (lpc n gs) B = 0 := G.1
  have sc0 : ¬ zI (sD n (lpc n gs) B) = 0 := by
    rw [← zI_0, zI_eq (by omega) (by omega) (by omega) (by omega)]
    exact D0
  intro k
  induction k with
  | zero =>
    intro c I' hk hI
    obtain rfl : c = M + 1 := by omega
    obtain ⟨i1, i2, i3⟩ := hI
    refine ⟨rfl, br_t (by rw [i3 213 (by omega), hcols]; exact nI_lt (by omega) (by omega)) (j_Pa_clearBy ?_)⟩
    refine ⟨214, rfl, rfl, 8, r, rfl, by omega, rfl, 215 + r, pk_R (by omega), 13, col, pk_h (by omega), by omega, rfl, rfl, _, rfl, fun c hc' => ?_, fun b hb => ?_⟩
    · by_cases e : c = col
      · subst e
        rw [am_up_eq, cw_upc hc, up_back G hl (by omega) hne, h1 c (by omega), cw_lt hc, zI_neg]
      · rw [am_up_ne (by omega), cw_up e]
        exact i1 c (by omega) e hc'
    · funext j
      rw [am_up_ne (by omega), i3 b hb]
  | succ k ih =>
    intro c I' hk hI
    obtain ⟨i1, i2, i3⟩ := id hI
    have e213 := i3 213 (by omega)
    refine ⟨rfl, br_f (by rw [e213, hcols]; exact nI_nlt (by omega) (by omega)) ⟨fun hq => j_Pa_clearBy (j_Pa_clearBy ?_), fun hq => ⟨rfl, br_f (by rw [e213, hsc]; exact sc0) ?_⟩⟩⟩
    · rw [nI_1]
      have e : c = col := by
        have hq : nI c = nI col := hq
        have := congrArg Int32.toInt hq
        rw [nI_toInt (by omega), nI_toInt (by omega)] at this
        omega
      refine ih (c + 1) I' (by omega) ⟨fun c' a b d => i1 c' (by omega) b d, fun c' a b => i2 c' a (by omega), i3⟩
    · have e : ¬ c = col := fun w => hq (by rw [w])
      have x1 := i2 c (by omega) (Or.inl (Nat.le_refl _))
      have x2 : I' (215 + ln) c = I (215 + ln) c := by rw [i3 _ (by omega)]
      have t := up_row (s := N col) G hl (show r < n + 1 by omega) hne (cw n M gs N c)
      have val : (I' (215 + r) c * I (215 + ln) col - I (215 + r) col * I' (215 + ln) c) / I' 213 5 = zI (sP n (lpc n gs) (up1 B ln (N col)) r (cw n M gs N c)) := by
        rw [x1, x2, e213, hsc, h1 c (by omega), h2 c (by omega), h1 col (by omega), h2 col (by omega), zI_mul, zI_mul, zI_sub]
        have e5 : sP n (lpc n gs) B r (cw n M gs N c) * sP n (lpc n gs) B ln (cw n M gs N col) - sP n (lpc n gs) B r (cw n M gs N col) * sP n (lpc n gs) B ln (cw n M gs N c) = sD n (lpc n gs) B * sP n (lpc n gs) (up1 B ln (N col)) r (cw n M gs N c) := by
          rw [t, cw_lt hc, Int.mul_comm (sP n (lpc n gs) B r (cw n M gs N c))]
        rw [e5]
        have b1 := abs_2 abD (ab2 r c)
        have b2 := ab2 r c
        exact zI_div D0 b1.1 b1.2 (by omega) (by omega) (by omega) (by omega)
      refine ⟨214, rfl, rfl, 8, r, rfl, by omega, rfl, 215 + r, pk_R (by omega), 214, rfl, rfl, 8, r, rfl, by omega, rfl, 215 + r, pk_R (by omega), 13, c, pk_h (by omega), by omega, rfl, 214, rfl, rfl, 8, ln, rfl, by omega, rfl, 215 + ln, pk_R (by omega), 13, c, pk_h (by omega), by omega, rfl, rfl, ?_, 13, c, pk_h (by omega), by omega, rfl, j_Pa_clearBy ?_⟩
      · show ¬ I' 213 5 = 0
        rw [e213, hsc]
        exact sc0
      · rw [nI_1]
        refine ih (c + 1) _ (by omega) ⟨fun c' a b d => ?_, fun c' a b => ?_, fun b hb => ?_⟩
        · by_cases w : c' = c
          · subst w
            rw [am_up_eq]
            exact val
          · rw [am_up_ne (by omega)]
            exact i1 c' (by omega) b d
        · rw [am_up_ne (by omega)]
          exact i2 c' a (by omega)
        · funext j
          rw [am_up_ne (by omega), i3 b hb]
theorem ev_clearBy (h8 : n < 8) (h12 : M ≤ 12) (hcols : I 213 4 = nI M) (hsc : I 213 5 = zI (sD n (lpc n gs) B)) (G : Good (n + 1) (bs n (lpc n gs) B)) {r ln col : Nat} (hr : r ≤ n) (hl : ln < n) (hne : r ≠ ln) (hc : col < M) (h1 : Rw1 I n M gs B N r) (h2 : Rw1 I n M gs B N ln) : am_ev am_sh m_Pa_clearBy [.ref 213, .int (nI r), .int (nI ln), .int (nI col)] (I, J, am_Rf f g) (fun x σ' => x = none ∧ ∃ I', σ' = (I', J, am_Rf f g) ∧ Rw1 I' n M gs (up1 B ln (N col)) (up1 N col (B ln)) r ∧ ∀ b, b ≠ 215 + r → I' b = I b) := by
  refine s_Pa_clearBy ⟨214, rfl, rfl, 8, ln, rfl, by omega, rfl, 215 + ln, pk_R (by omega), 13, col, pk_h (by omega), by omega, rfl, 214, rfl, rfl, 8, r, rfl, by omega, rfl, 215 + r, pk_R (by omega), 13, col, pk_h (by omega), by omega, rfl, j_Pa_clearBy ?_⟩
  exact lp_clearBy h8 h12 hcols hsc G hr hl hne hc h1 h2 (M + 1) 0 I (by omega) ⟨fun c' a => by omega, fun c' a b => rfl, fun b _ => rfl⟩
/-- rows done so far -/
def Pvr (I' I : Nat → Nat → Int32) (n M : Nat) (gs B N : Nat → Nat) (ln col r : Nat) : Prop := (∀ r', r' < r → r' ≤ n → r' ≠ ln → Rw1 I' n M gs (up1 B ln (N col)) (up1 N col (B ln)) r') ∧ (∀ b, (∀ r', r' < r → r' ≠ ln → b ≠ 215 + r') → I' b = I b)
theorem lp_pivot (hT : Tbl I n M gs B N) (G : Good (n + 1) (bs n (lpc n gs) B)) {ln col : Nat} (hl : ln < n) (hc : col < M) : ∀ k r (I' : Nat → Nat → Int32), k + r = n + 1 → Pvr I' I n M gs B N ln col r → am_u am_sh m_Pa_pivot (fun x σ' => x = none ∧ ∃ I', σ' = (I', J, am_Rf f g) ∧ Tbl I' n M gs (up1 B ln (N col)) (up1 N col (B ln)) ∧ ∀ b, b < 213 ∨ 224 < b → I' b = I b) (am_at am_c_Pa_pivot 12) 12 [some (.ref 213), some (.int (nI ln)), some (.int (nI col)), some (.int (I (215 + ln) col)), some (.int (nI r))] [] (I', J, am_Rf f g) := by
  obtain ⟨⟨h8, h12⟩, hrows, hcols, hsc, hB, hN, hcell⟩ := id hT
  intro k
  induction k with
  | zero =>
    intro r I' hk hI
    obtain rfl : r = n + 1 := by omega
    obtain ⟨i1, i2⟩ := hI
    have out : ∀ b, b < 215 ∨ 215 + n < b ∨ b = 215 + ln → I' b = I b := fun b hb => i2 b (fun r' a c => by omega)
    have e213 := out 213 (by omega)
    have e223 := out 223 (by omega)
    have e224 := out 224 (by omega)
    refine ⟨rfl, br_t (by rw [e213, hrows]; exact nI_lt (by omega) (by omega)) (j_Pa_pivot ?_)⟩
    refine ⟨214, rfl, rfl, 8, ln, rfl, by omega, rfl, 215 + ln, pk_R (by omega), rfl, 13, col, pk_h (by omega), by omega, rfl, rfl, 223, rfl, rfl, 7, ln, rfl, by omega, rfl, 223, rfl, rfl, 224, rfl, rfl, 12, col, rfl, by omega, rfl, 7, ln, rfl, by omega, rfl, 224, rfl, rfl, 12, col, rfl, by omega, rfl, rfl, _, rfl, ?_, fun b hb => ?_⟩
    · refine ⟨⟨h8, h12⟩, ?_, ?_, ?_, fun r hr => ?_, fun c hc' => ?_, fun r hr c hc' => ?_⟩
      · rw [am_up_ne (by omega), am_up_ne (by omega), am_up_ne (by omega), am_up_ne (by omega), e213]
        exact hrows
      · rw [am_up_ne (by omega), am_up_ne (by omega), am_up_ne (by omega), am_up_ne (by omega), e213]
        exact hcols
      · rw [am_up_ne (by omega), am_up_ne (by omega), am_up_eq, up_D hl, hcell ln (by omega) col (by omega), cw_lt hc]
      · by_cases e : r = ln
        · subst e
          rw [am_up_ne (by omega), am_up_eq]
          unfold up1
          rw [if_pos rfl]
          have : am_up (am_up I' (215 + r) col (I' 213 5)) 213 5 (I (215 + r) col) 224 col = nI (N col) := by
            rw [am_up_ne (by omega), am_up_ne (by omega), e224]
            exact (hN col hc).1
          exact ⟨this, (hN col hc).2⟩
        · rw [am_up_ne (by omega), am_up_ne (by omega), am_up_ne (by omega), am_up_ne (by omega), e223]
          unfold up1
          rw [if_neg e]
          exact hB r hr
      · by_cases e : c = col
        · subst e
          rw [am_up_eq]
          unfold up1
          rw [if_pos rfl]
          have : am_up (am_up I' (215 + ln) c (I' 213 5)) 213 5 (I (215 + ln) c) 223 ln = nI (B ln) := by
            rw [am_up_ne (by omega), am_up_ne (by omega), e223]
            exact (hB ln hl).1
          exact ⟨this, (hB ln hl).2⟩
        · rw [am_up_ne (by omega), am_up_ne (by omega), am_up_ne (by omega), am_up_ne (by omega), e224]
          unfold up1
          rw [if_neg e]
          exact hN c hc'
      · rw [am_up_ne (by omega), am_up_ne (by omega), am_up_ne (by omega)]
        by_cases e : r = ln
        · subst e
          by_cases w : c = col
          · subst w
            rw [am_up_eq, e213, hsc, cw_upc hc, up_self hl]
          · rw [am_up_ne (by omega), out _ (by omega), cw_up w, up_own hl]
            exact hcell r hr c hc'
        · rw [am_up_ne (by omega)]
          exact i1 r (by omega) hr e c hc'
    · funext j
      rw [am_up_ne (by omega), am_up_ne (by omega), am_up_ne (by omega), am_up_ne (by omega), out b (by omega)]
  | succ k ih =>
    intro r I' hk hI
    obtain ⟨i1, i2⟩ := id hI
    have e213 : I' 213 = I 213 := i2 213 (fun r' a c => by omega)
    refine ⟨rfl, br_f (by rw [e213, hrows]; exact nI_nlt (by omega) (by omega)) ⟨fun hq => j_Pa_pivot (j_Pa_pivot ?_), fun hq => ?_⟩⟩
    · have e : r = ln := by
        have hq : nI r = nI ln := hq
        have := congrArg Int32.toInt hq
        rw [nI_toInt (by omega), nI_toInt (by omega)] at this
        omega
      rw [nI_1]
      exact ih (r + 1) I' (by omega) ⟨fun r' a b c => i1 r' (by omega) b c, fun b hb => i2 b (fun r' a c => hb r' (by omega) c)⟩
    · have e : r ≠ ln := fun w => hq (by rw [w])
      have w1 : Rw1 I' n M gs B N r := fun c hc' => by
        rw [i2 (215 + r) (fun r' a c => by omega)]
        exact hcell r (by omega) c hc'
      have w2 : Rw1 I' n M gs B N ln := fun c hc' => by
        rw [i2 (215 + ln) (fun r' a c => by omega)]
        exact hcell ln (by omega) c hc'
      refine ⟨rfl, (ev_clearBy (I := I') h8 h12 (by rw [e213]; exact hcols) (by rw [e213]; exact hsc) G (show r ≤ n by omega) hl e hc w1 w2).mono ?_⟩
      rintro v σ' ⟨rfl, I1, rfl, hw, hF⟩
      refine j_Pa_pivot ?_
      rw [nI_1]
      refine ih (r + 1) I1 (by omega) ⟨fun r' a b c => ?_, fun b hb => ?_⟩
      · by_cases w : r' = r
        · subst w; exact hw
        · intro c' hc'
          rw [hF (215 + r') (by omega)]
          exact i1 r' (by omega) b c c' hc'
      · rw [hF b (hb r (by omega) e)]
        exact i2 b (fun r' a c => hb r' (by omega) c)
theorem ev_pivot (hT : Tbl I n M gs B N) (G : Good (n + 1) (bs n (lpc n gs) B)) {ln col : Nat} (hl : ln < n) (hc : col < M) : am_ev am_sh m_Pa_pivot [.ref 213, .int (nI ln), .int (nI col)] (I, J, am_Rf f g) (fun x σ' => x = none ∧ ∃ I', σ' = (I', J, am_Rf f g) ∧ Tbl I' n M gs (up1 B ln (N col)) (up1 N col (B ln)) ∧ ∀ b, b < 213 ∨ 224 < b → I' b = I b) := by
  have h8 := hT.1.1
  have h12 := hT.1.2
  refine s_Pa_pivot ⟨214, rfl, rfl, 8, ln, rfl, by omega, rfl, 215 + ln, pk_R (by omega), 13, col, pk_h (by omega), by omega, rfl, j_Pa_pivot ?_⟩
  exact lp_pivot hT G hl hc (n + 1) 0 I (by omega) ⟨fun r' a => by omega, fun b _ => rfl⟩
end PK
