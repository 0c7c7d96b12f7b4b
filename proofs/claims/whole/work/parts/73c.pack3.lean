/-! the class's Packing: its beginning, its turns -/
theorem bit_tab : ∀ g, g < 128 → ∀ r, r < 8 → nI g >>> (nI r &&& 31) &&& 1 = nI (g / 2 ^ r % 2) := by decide +kernel
def Bgn (I' I : Nat → Nat → Int32) (n M : Nat) (gs : Nat → Nat) (c r : Nat) : Prop := (I' 213 3 = nI n ∧ I' 213 4 = nI M ∧ I' 213 5 = 1) ∧ (∀ c', c' < c → I' 224 c' = nI c' ∧ I' (215 + n) c' = -1 ∧ ∀ r', r' < n → I' (215 + r') c' = nI (gs c' / 2 ^ r' % 2)) ∧ (∀ r', r' < r → I' 223 r' = nI (12 + r') ∧ I' (215 + r') M = 1) ∧ ∀ b, b < 213 ∨ 224 < b → I' b = I b
section PK
variable {f g : Nat → Nat} {I : Nat → Nat → Int32} {J : Nat → Nat → Int64} {n M : Nat} {gs : Nat → Nat} {q : am_Q}
theorem lp_begin2 (h8 : n < 8) (h12 : M ≤ 12) (hg : ∀ k, k < M → I 2 k = nI (gs k) ∧ gs k < 128) (hq : ∀ I', Bgn I' I n M gs M n → q none (am_up I' (215 + n) M 0, J, am_Rf f g)) : ∀ k r w (I' : Nat → Nat → Int32), k + r = n → Bgn I' I n M gs M r → am_u am_sh m_Pa_begin q (am_at am_c_Pa_begin 92) 92 [some (.ref 213), some (.ref 1), some (.int (nI r)), w] [] (I', J, am_Rf f g) := by
  intro k
  induction k with
  | zero =>
    intro r w I' hk hI
    obtain rfl : r = n := by omega
    have hq := hq I' hI
    obtain ⟨⟨i1, i2, i3⟩, _⟩ := hI
    exact ⟨rfl, br_t (by rw [i1]; exact nI_le (Nat.le_refl _) (by omega)) (j_Pa_begin ⟨214, rfl, rfl, rfl, 8, r, rfl, h8, i1, 215 + r, pk_R h8, rfl, 13, M, pk_h h8, by omega, i2, hq⟩)⟩
  | succ k ih =>
    intro r w I' hk hI
    obtain ⟨⟨i1, i2, i3⟩, i4, i5, i6⟩ := hI
    refine ⟨rfl, br_f (by rw [i1]; exact nI_ge (by omega) (by omega)) ⟨223, rfl, rfl, 7, r, rfl, by omega, rfl, 214, rfl, rfl, 8, r, rfl, by omega, rfl, 215 + r, pk_R (by omega), rfl, 13, M, pk_h (by omega), by omega, ?_, j_Pa_begin ?_⟩⟩
    · show am_up I' 223 r _ 213 4 = nI M
      rw [am_up_ne (by omega)]; exact i2
    · rw [nI_1, show (12 : Int32) + nI r = nI (12 + r) from nI_add 12 r]
      refine ih (r + 1) w _ (by omega) ⟨⟨?_, ?_, ?_⟩, fun c' hc' => ⟨?_, ?_, fun r' hr' => ?_⟩, fun r' hr' => ⟨?_, ?_⟩, fun b hb => ?_⟩
      · rw [am_up_ne (by omega), am_up_ne (by omega)]; exact i1
      · rw [am_up_ne (by omega), am_up_ne (by omega)]; exact i2
      · rw [am_up_ne (by omega), am_up_ne (by omega)]; exact i3
      · rw [am_up_ne (by omega), am_up_ne (by omega)]; exact (i4 c' hc').1
      · rw [am_up_ne (by omega), am_up_ne (by omega)]; exact (i4 c' hc').2.1
      · rw [am_up_ne (by omega), am_up_ne (by omega)]; exact (i4 c' hc').2.2 r' hr'
      · rw [am_up_ne (by omega)]
        by_cases e : r' = r
        · rw [e, am_up_eq]
        · rw [am_up_ne (by omega)]; exact (i5 r' (by omega)).1
      · by_cases e : r' = r
        · rw [e, am_up_eq]
        · rw [am_up_ne (by omega), am_up_ne (by omega)]; exact (i5 r' (by omega)).2
      · funext j
        rw [am_up_ne (by omega), am_up_ne (by omega), i6 b hb]
theorem lp_begin1 (h8 : n < 8) (h12 : M ≤ 12) (hg : ∀ k, k < M → I 2 k = nI (gs k) ∧ gs k < 128) {c : Nat} (hc : c < M) (K : ∀ w (I' : Nat → Nat → Int32), Bgn I' I n M gs (c + 1) 0 → am_u am_sh m_Pa_begin q (am_at am_c_Pa_begin 23) 23 [some (.ref 213), some (.ref 1), some (.int (nI (c + 1))), w] [] (I', J, am_Rf f g)) : ∀ k r (I' : Nat → Nat → Int32), k + r = n → Bgn I' I n M gs c 0 → I' 224 c = nI c → I' (215 + n) c = -1 → (∀ r', r' < r → I' (215 + r') c = nI (gs c / 2 ^ r' % 2)) → am_u am_sh m_Pa_begin q (am_at am_c_Pa_begin 52) 52 [some (.ref 213), some (.ref 1), some (.int (nI c)), some (.int (nI r))] [] (I', J, am_Rf f g) := by
  intro k
  induction k with
  | zero =>
    intro r I' hk hI h1 h2 h3
    obtain rfl : r = n := by omega
    obtain ⟨⟨i1, i2, i3⟩, i4, i5, i6⟩ := hI
    refine ⟨rfl, br_t (by rw [i1]; exact nI_le (Nat.le_refl _) (by omega)) (j_Pa_begin (j_Pa_begin ?_))⟩
    rw [nI_1]
    refine K _ I' ⟨⟨i1, i2, i3⟩, fun c' hc' => ?_, i5, i6⟩
    by_cases e : c' = c
    · subst e; exact ⟨h1, h2, h3⟩
    · exact i4 c' (by omega)
  | succ k ih =>
    intro r I' hk hI h1 h2 h3
    obtain ⟨⟨i1, i2, i3⟩, i4, i5, i6⟩ := hI
    have gc := hg c hc
    have val : I' 2 c >>> (nI r &&& 31) &&& 1 = nI (gs c / 2 ^ r % 2) := by
      rw [i6 2 (by omega), gc.1]
      exact bit_tab _ gc.2 r (by omega)
    refine ⟨rfl, br_f (by rw [i1]; exact nI_ge (by omega) (by omega)) ⟨214, rfl, rfl, 8, r, rfl, by omega, rfl, 215 + r, pk_R (by omega), 2, rfl, rfl, 12, c, rfl, by omega, rfl, 13, c, pk_h (by omega), by omega, rfl, j_Pa_begin ?_⟩⟩
    rw [nI_1, val]
    refine ih (r + 1) _ (by omega) ⟨⟨?_, ?_, ?_⟩, fun c' hc' => ⟨?_, ?_, fun r' hr' => ?_⟩, fun r' hr' => by omega, fun b hb => ?_⟩ ?_ ?_ (fun r' hr' => ?_)
    · rw [am_up_ne (by omega)]; exact i1
    · rw [am_up_ne (by omega)]; exact i2
    · rw [am_up_ne (by omega)]; exact i3
    · rw [am_up_ne (by omega)]; exact (i4 c' hc').1
    · rw [am_up_ne (by omega)]; exact (i4 c' hc').2.1
    · rw [am_up_ne (by omega)]; exact (i4 c' hc').2.2 r' hr'
    · funext j
      rw [am_up_ne (by omega), i6 b hb]
    · rw [am_up_ne (by omega)]; exact h1
    · rw [am_up_ne (by omega)]; exact h2
    · by_cases e : r' = r
      · rw [e, am_up_eq]
      · rw [am_up_ne (by omega)]; exact h3 r' (by omega)
theorem lp_pkbegin (h8 : n < 8) (h12 : M ≤ 12) (hg : ∀ k, k < M → I 2 k = nI (gs k) ∧ gs k < 128) (hq : ∀ I', Bgn I' I n M gs M n → q none (am_up I' (215 + n) M 0, J, am_Rf f g)) : ∀ k c w (I' : Nat → Nat → Int32), k + c = M → Bgn I' I n M gs c 0 → am_u am_sh m_Pa_begin q (am_at am_c_Pa_begin 23) 23 [some (.ref 213), some (.ref 1), some (.int (nI c)), w] [] (I', J, am_Rf f g) := by
  intro k
  induction k with
  | zero =>
    intro c w I' hk hI
    obtain rfl : c = M := by omega
    exact ⟨rfl, br_t (by rw [hI.1.2.1]; exact nI_le (Nat.le_refl _) (by omega)) (j_Pa_begin (j_Pa_begin (lp_begin2 h8 h12 hg hq n 0 w I' (by omega) hI)))⟩
  | succ k ih =>
    intro c w I' hk hI
    obtain ⟨⟨i1, i2, i3⟩, i4, i5, i6⟩ := hI
    refine ⟨rfl, br_f (by rw [i2]; exact nI_ge (by omega) (by omega)) ⟨224, rfl, rfl, 12, c, rfl, by omega, rfl, 214, rfl, rfl, rfl, 8, n, rfl, h8, ?_, 215 + n, pk_R h8, 13, c, pk_h h8, by omega, rfl, j_Pa_begin ?_⟩⟩
    · show am_up I' 224 c _ 213 3 = nI n
      rw [am_up_ne (by omega)]; exact i1
    · refine lp_begin1 h8 h12 hg (c := c) (by omega) (fun w I' hI => ih (c + 1) w I' (by omega) hI) n 0 _ (by omega) ⟨⟨?_, ?_, ?_⟩, fun c' hc' => ⟨?_, ?_, fun r' hr' => ?_⟩, fun r' hr' => by omega, fun b hb => ?_⟩ ?_ ?_ (fun r' hr' => by omega)
      · rw [am_up_ne (by omega), am_up_ne (by omega)]; exact i1
      · rw [am_up_ne (by omega), am_up_ne (by omega)]; exact i2
      · rw [am_up_ne (by omega), am_up_ne (by omega)]; exact i3
      · rw [am_up_ne (by omega), am_up_ne (by omega)]; exact (i4 c' hc').1
      · rw [am_up_ne (by omega), am_up_ne (by omega)]; exact (i4 c' hc').2.1
      · rw [am_up_ne (by omega), am_up_ne (by omega)]; exact (i4 c' hc').2.2 r' hr'
      · funext j
        rw [am_up_ne (by omega), am_up_ne (by omega), i6 b hb]
      · rw [am_up_ne (by omega), am_up_eq]
      · rw [am_up_eq]
theorem ev_pkbegin (h8 : n < 8) (h12 : M ≤ 12) (hn : I 1 0 = nI n) (hm : I 1 1 = nI M) (hg : ∀ k, k < M → I 2 k = nI (gs k) ∧ gs k < 128) : am_ev am_sh m_Pa_begin [.ref 213, .ref 1] (I, J, am_Rf f g) (fun x σ' => x = none ∧ ∃ I', σ' = (I', J, am_Rf f g) ∧ Tbl I' n M gs (fun r => 12 + r) (fun c => c) ∧ ∀ b, b < 213 ∨ 224 < b → I' b = I b) := by
  refine s_Pa_begin ⟨rfl, rfl, rfl, rfl, rfl, j_Pa_begin ?_⟩
  refine lp_pkbegin h8 h12 hg (fun I' hI => ?_) M 0 none _ (by omega) ⟨⟨?_, ?_, ?_⟩, fun c' hc' => by omega, fun r' hr' => by omega, fun b hb => ?_⟩
  · obtain ⟨⟨i1, i2, i3⟩, i4, i5, i6⟩ := hI
    refine ⟨rfl, _, rfl, ⟨⟨h8, h12⟩, ?_, ?_, ?_, fun r hr => ?_, fun c hc => ?_, fun r hr c hc => ?_⟩, fun b hb => ?_⟩
    · rw [am_up_ne (by omega)]; exact i1
    · rw [am_up_ne (by omega)]; exact i2
    · rw [am_up_ne (by omega), sD0]; exact i3
    · rw [am_up_ne (by omega)]; exact ⟨(i5 r hr).1, show 12 + r < 19 by omega⟩
    · rw [am_up_ne (by omega)]; exact ⟨(i4 c hc).1, show c < 19 by omega⟩
    · rw [sP0 (by omega)]
      by_cases e : c = M
      · subst e
        rw [cw_M]
        by_cases w : r = n
        · subst w
          rw [am_up_eq, lph_n]
          rfl
        · rw [am_up_ne (by omega), lph_1 (by omega)]
          exact (i5 r (by omega)).2
      · rw [am_up_ne (by omega), cw_lt (by omega)]
        by_cases w : r = n
        · subst w
          rw [lpc_n (by omega)]
          exact (i4 c (by omega)).2.1
        · rw [lpc_g (by omega) (by omega)]
          unfold zb
          rw [zI_nat]
          exact (i4 c (by omega)).2.2 r (by omega)
    · funext j
      rw [am_up_ne (by omega), i6 b hb]
  · rw [am_up_ne (by omega), am_up_ne (by omega), am_up_eq]; exact hn
  · rw [am_up_ne (by omega), am_up_eq, am_up_ne (by omega)]; exact hm
  · rw [am_up_eq]
  · funext j
    rw [am_up_ne (by omega), am_up_ne (by omega), am_up_ne (by omega)]
end PK
/-- every name is a row's or a column's -/
def Cov (n M : Nat) (B N : Nat → Nat) : Prop := (∀ u, LV n (fun c => c < M) u → Bas n B u ∨ ∃ c, c < M ∧ N c = u) ∧ ∀ c, c < M → LV n (fun c => c < M) (N c)
theorem Cov.up {n M : Nat} {B N : Nat → Nat} (h : Cov n M B N) {ln col : Nat} (hl : ln < n) (hc : col < M) (hV : LV n (fun c => c < M) (B ln)) : Cov n M (up1 B ln (N col)) (up1 N col (B ln)) := by
  refine ⟨fun u hu => ?_, fun c hc' => ?_⟩
  · by_cases e : u = B ln
    · exact Or.inr ⟨col, hc, by unfold up1; rw [if_pos rfl, e]⟩
    · rcases h.1 u hu with ⟨r, hr, hb⟩ | ⟨c, hc', hn⟩
      · by_cases w : r = ln
        · exact absurd (by rw [← hb, w]) e
        · exact Or.inl ⟨r, hr, by unfold up1; rw [if_neg w]; exact hb⟩
      · by_cases w : c = col
        · exact Or.inl ⟨ln, hl, by unfold up1; rw [if_pos rfl, ← hn, w]⟩
        · exact Or.inr ⟨c, hc', by unfold up1; rw [if_neg w]; exact hn⟩
  · unfold up1
    split
    · exact hV
    · exact h.2 c hc'
section PK
variable {f g : Nat → Nat} {I : Nat → Nat → Int32} {J : Nat → Nat → Int64} {n M : Nat} {gs : Nat → Nat}
abbrev SolQ (f g : Nat → Nat) (I : Nat → Nat → Int32) (J : Nat → Nat → Int64) (n M : Nat) (gs : Nat → Nat) : am_Q := fun x σ' => x = none ∧ ∃ I' B N, σ' = (I', J, am_Rf f g) ∧ Ok n (lpc n gs) (lph n) (LV n (fun c => c < M)) B ∧ Fin0 n (lpc n gs) (LV n (fun c => c < M)) B ∧ Tbl I' n M gs B N ∧ ∀ b, b < 213 ∨ 224 < b → I' b = I b
theorem lp_solve (h8 : n < 8) (h12 : M ≤ 12) (hgs : ∀ c, c < M → 1 ≤ gs c ∧ gs c < 2 ^ n) : ∀ k T w x (I' : Nat → Nat → Int32) (Bs : Nat → Nat → Nat) (s l N : Nat → Nat), k + T = 94184 → Run n (lpc n gs) (lph n) (LV n (fun c => c < M)) Bs s l T → Tbl I' n M gs (Bs T) N → Cov n M (Bs T) N → Entr n M gs (Bs T) N M x → (∀ b, b < 213 ∨ 224 < b → I' b = I b) → am_u am_sh m_Pa_solve (SolQ f g I J n M gs) (am_at am_c_Pa_solve 12) 12 [some (.ref 213), some (.ref 1), some (.int x), some (.int (nI T)), w] [] (I', J, am_Rf f g) := by
  intro k
  induction k with
  | zero =>
    intro T w x I' Bs s l N hk R hT hC hE hF
    have := R.short (by omega) (LV.lt h8)
    omega
  | succ k ih =>
    intro T w x I' Bs s l N hk R hT hC hE hF
    have O := R.ok (Nat.le_refl T)
    rcases hE with ⟨rfl, h2⟩ | ⟨b, b1, rfl, b3, b4⟩
    · refine br_t (by decide) (j_Pa_solve ⟨rfl, I', Bs T, N, rfl, O, fun u hu => ?_, hT, hF⟩)
      rcases hC.1 u hu with w | ⟨c, hc, rfl⟩
      · rw [psi_bas w]; exact Int.le_refl _
      · have := h2 c hc
        rw [cw_lt hc] at this
        exact this
    · refine br_f (nI_pos (by omega)) (br_f (nI_ge (b := 100000) (by omega) (by omega)) ⟨rfl, (ev_leaving hT b1).mono ?_⟩)
      rintro v σ' ⟨y, rfl, hL, rfl⟩
      rcases hL with ⟨rfl, h2⟩ | ⟨ln, l1, rfl, l3, l4⟩
      · exfalso
        obtain ⟨r, hr, ha⟩ := bears1 O (hC.2 b b1) LV.h1 (LV.h2 h8 hgs)
        have := h2 r hr
        rw [cw_lt b1] at this
        omega
      · refine br_t (nI_pos' (by omega)) (j_Pa_solve ⟨rfl, (ev_pivot hT O.2.1 l1 b1).mono ?_⟩)
        rintro v σ' ⟨rfl, I1, rfl, hT1, hF1⟩
        have hp : Pv n (lpc n gs) (lph n) (LV n (fun c => c < M)) (Bs T) (N b) ln := by
          rw [cw_lt b1] at b3 l3
          refine ⟨l1, hC.2 b b1, b3, fun u hu hn => ?_, l3, fun r hr ha => ?_⟩
          · rcases hC.1 u hu with w | ⟨c, hc, rfl⟩
            · rw [psi_bas w] at hn
              omega
            · exact b4 c hc (by rw [cw_lt hc]; exact hn)
          · have := l4 r hr (by rw [cw_lt b1]; exact ha)
            rw [cw_lt b1] at this
            exact this
        refine ⟨rfl, (ev_entering hT1).mono ?_⟩
        rintro v σ' ⟨y, rfl, hE1, rfl⟩
        refine j_Pa_solve ?_
        rw [nI_1]
        have eB : (if T + 1 ≤ T then Bs (T + 1) else up1 (Bs T) ln (N b)) = up1 (Bs T) ln (N b) := if_neg (by omega)
        refine ih (T + 1) _ y I1 _ _ _ (up1 N b (Bs T ln)) (by omega) (R.more hp) ?_ ?_ ?_ (fun c hc => by rw [hF1 c hc, hF c hc])
        · rw [eB]; exact hT1
        · rw [eB]; exact hC.up l1 b1 (O.1 ln l1)
        · rw [eB]; exact hE1
theorem ev_solve (h8 : n < 8) (h12 : M ≤ 12) (hn : I 1 0 = nI n) (hm : I 1 1 = nI M) (hg : ∀ k, k < M → I 2 k = nI (gs k) ∧ gs k < 128) (hgs : ∀ c, c < M → 1 ≤ gs c ∧ gs c < 2 ^ n) : am_ev am_sh m_Pa_solve [.ref 213, .ref 1] (I, J, am_Rf f g) (SolQ f g I J n M gs) := by
  refine s_Pa_solve ⟨rfl, (ev_pkbegin h8 h12 hn hm hg).mono ?_⟩
  rintro v σ' ⟨rfl, I1, rfl, hT, hF⟩
  refine ⟨rfl, (ev_entering hT).mono ?_⟩
  rintro v σ' ⟨x, rfl, hE, rfl⟩
  refine j_Pa_solve (lp_solve h8 h12 hgs 94184 0 none x I1 (fun _ r => 12 + r) (fun _ => 0) (fun _ => 0) (fun c => c) (by omega) ⟨ok0, fun k hk => by omega⟩ hT ⟨fun u hu => ?_, fun c hc => Or.inl ⟨show c < 12 by omega, hc⟩⟩ hE hF)
  rcases hu with ⟨_, h⟩ | ⟨h1, h2⟩
  · exact Or.inr ⟨u, h, rfl⟩
  · exact Or.inl ⟨u - 12, by omega, show 12 + (u - 12) = u by omega⟩
end PK
