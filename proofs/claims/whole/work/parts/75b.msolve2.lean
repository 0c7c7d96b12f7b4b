/-! the reference: a square is solved -/
/-- the cells are determinants of the basis b -/
def Svd (I : Nat → Nat → Int32) (z : Nat) (cl : Nat → Nat → Int) (b : Nat → Nat → Int) : Prop := ∀ r, r < z → ∀ c, c < 8 → I 238 (8 * r + c) = zI (dt z (vs b r (cl c)))
def One1 (b : Nat → Nat → Int) : Prop := ∀ i k, (b i k).natAbs ≤ 1
theorem fc_7 : ∀ n, n < 8 → fc n ≤ 5040 := by decide +kernel
theorem One1.vs {b : Nat → Nat → Int} {s : Nat} {x : Nat → Int} (h : One1 b) (hx : ∀ k, (x k).natAbs ≤ 1) : One1 (vs b s x) := fun i k => by
  by_cases q : i = s
  · rw [q, vs_eq]; exact hx k
  · rw [vs_ne q]; exact h i k
theorem One1.dt {b : Nat → Nat → Int} {z : Nat} (h : One1 b) (hz : z < 8) : (dt z b).natAbs ≤ 5040 := Nat.le_trans (dt_abs z b (fun i _ k _ => h i k)) (fc_7 z hz)
theorem One1.sw2 {b : Nat → Nat → Int} {s t : Nat} (h : One1 b) : One1 (swn b s t) := by
  unfold swn
  refine (h.vs (h t)).vs (fun k => ?_)
  have := h s k
  omega
theorem zI_0iff {a : Int} (h : a.natAbs ≤ 5040) : zI a = 0 ↔ a = 0 := by
  rw [← zI_0, zI_eq (by omega) (by omega) (by omega) (by omega)]
/-- what comes of solving -/
def Sol (I : Nat → Nat → Int32) (z : Nat) (cl : Nat → Nat → Int) (x : Int32) : Prop := (x = 0 ∧ ∃ w : Nat → Int, (∃ c, c < z ∧ w c ≠ 0) ∧ ∀ i, i < z → zs (fun c => w c * cl c i) z = 0) ∨ ∃ (ov : Int) (v : Nat → Int), x = zI ov ∧ ov ≠ 0 ∧ ov.natAbs ≤ 5040 ∧ (∀ r, r < z → I 238 (8 * r + 7) = zI (v r) ∧ (v r).natAbs ≤ 5040) ∧ ∀ i, i < z → ov * cl 7 i = zs (fun c => v c * cl c i) z
section MS
variable {f g : Nat → Nat} {I : Nat → Nat → Int32} {J : Nat → Nat → Int64} {z : Nat} {cl : Nat → Nat → Int} {q : am_Q}
abbrev SvQ (f g : Nat → Nat) (I : Nat → Nat → Int32) (J : Nat → Nat → Int64) (z : Nat) (cl : Nat → Nat → Int) : am_Q := fun x σ' => ∃ y I', x = some (.int y) ∧ σ' = (I', J, am_Rf f g) ∧ Sol I' z cl y ∧ ∀ b, b ≠ 238 → I' b = I b
/-- one row is cleared -/
theorem lp_elim1 {b : Nat → Nat → Int} {k r : Nat} {row : Int32} (hz : z < 8) (hG : Good z b) (h1 : One1 b) (hc1 : One1 cl) (hk : k < z) (hr : r < z) (hne : r ≠ k) {own : Int} (ho : own = dt z (vs b k (cl k))) {I0 : Nat → Nat → Int32} (hI0 : ∀ c, c < 8 → I0 238 (8 * r + c) = zI (dt z (vs b r (cl c)))) (hk0 : ∀ c, c < 8 → I0 238 (8 * k + c) = zI (dt z (vs b k (cl c)))) (K : ∀ w8 (I' : Nat → Nat → Int32), (∀ c, c < 8 → I' 238 (8 * r + c) = zI (dt z (vs (vs b k (cl k)) r (cl c)))) → (∀ x c, c < 8 → x ≠ r → I' 238 (8 * x + c) = I0 238 (8 * x + c)) → (∀ b, b ≠ 238 → I' b = I0 b) → am_run am_sh m_MD_solves q 160 [some (.ref 236), some (.int (nI z)), some (.int (zI (dt z b))), some (.int (nI k)), some (.int row), some (.int (zI own)), some (.int (nI r)), some (.int (zI (dt z (vs b r (cl k))))), w8] [] (I', J, am_Rf f g)) : ∀ m c (I' : Nat → Nat → Int32), m + c = 8 → (∀ c', c' < c → I' 238 (8 * r + c') = zI (dt z (vs (vs b k (cl k)) r (cl c')))) → (∀ x c', c' < 8 → (x ≠ r ∨ c ≤ c') → I' 238 (8 * x + c') = I0 238 (8 * x + c')) → (∀ b, b ≠ 238 → I' b = I0 b) → am_u am_sh m_MD_solves q (am_at am_c_MD_solves 94) 94 [some (.ref 236), some (.int (nI z)), some (.int (zI (dt z b))), some (.int (nI k)), some (.int row), some (.int (zI own)), some (.int (nI r)), some (.int (zI (dt z (vs b r (cl k))))), some (.int (nI c))] [] (I', J, am_Rf f g) := by
  intro m
  induction m with
  | zero =>
    intro c I' hm i1 i2 i3
    obtain rfl : c = 8 := by omega
    exact br_t (by decide) (K _ I' (fun c hc => i1 c hc) (fun x c hc hx => i2 x c hc (Or.inl hx)) i3)
  | succ m ih =>
    intro c I' hm i1 i2 i3
    have d0 : ¬ dt z b = 0 := hG.1
    have ab := h1.dt hz
    have ab2 := ((h1.vs (s := k) (hc1 k)).vs (s := r) (hc1 c)).dt hz
    have nz : ¬ zI (dt z b) = 0 := fun e => d0 ((zI_0iff ab).mp e)
    have t := piv_row hG hk hr hne (cl k) (cl c)
    have val : (zI own * I' 238 (8 * r + c) - zI (dt z (vs b r (cl k))) * I' 238 (8 * k + c)) / zI (dt z b) = zI (dt z (vs (vs b k (cl k)) r (cl c))) := by
      rw [i2 r c (by omega) (Or.inr (Nat.le_refl _)), i2 k c (by omega) (Or.inl (fun e => hne e.symm)), hI0 c (by omega), hk0 c (by omega), zI_mul, zI_mul, zI_sub, ho, ← t]
      have := abs_mul ab ab2
      exact zI_div d0 (by omega) (by omega) (by omega) (by omega) (by omega) (by omega)
    refine br_f (nI_ge (b := 8) (by omega) (by omega)) (br_f (fun e => hne (by
      have e : nI r = nI k := e
      rwa [nI_eq (by omega) (by omega)] at e)) ⟨238, rfl, rfl, 238, rfl, rfl, 56, 8 * r + c, rfl, by omega, ix8 r c, 238, rfl, rfl, 56, 8 * k + c, rfl, by omega, ix8 k c, nz, 56, 8 * r + c, rfl, by omega, ix8 r c, j_MD_solves ?_⟩)
    rw [nI_1]
    refine ih (c + 1) _ (by omega) (fun c' hc' => ?_) (fun x c' h8 hx => ?_) (fun b hb => ?_)
    · by_cases e : c' = c
      · subst e
        rw [am_up_eq]
        exact val
      · rw [am_up_ne (by omega)]
        exact i1 c' (by omega)
    · rw [am_up_ne (by omega)]
      exact i2 x c' h8 (by omega)
    · funext j
      rw [am_up_ne (by omega), i3 b hb]
/-- all other rows are cleared -/
theorem lp_elim {b : Nat → Nat → Int} {k : Nat} {row : Int32} (hz : z < 8) (hG : Good z b) (h1 : One1 b) (hc1 : One1 cl) (hk : k < z) {own : Int} (ho : own = dt z (vs b k (cl k))) {I0 : Nat → Nat → Int32} (hI0 : Svd I0 z cl b) (K : ∀ w6 w7 w8 (I' : Nat → Nat → Int32), Svd I' z cl (vs b k (cl k)) → (∀ b, b ≠ 238 → I' b = I0 b) → am_run am_sh m_MD_solves q 166 [some (.ref 236), some (.int (nI z)), some (.int (zI (dt z b))), some (.int (nI k)), some (.int row), some (.int (zI own)), w6, w7, w8] [] (I', J, am_Rf f g)) : ∀ m r w7 w8 (I' : Nat → Nat → Int32), m + r = z → (∀ r' c, r' < z → c < 8 → (r' < r ∨ r' = k) → I' 238 (8 * r' + c) = zI (dt z (vs (vs b k (cl k)) r' (cl c)))) → (∀ r' c, r' < z → c < 8 → (r ≤ r' ∨ r' = k) → I' 238 (8 * r' + c) = I0 238 (8 * r' + c)) → (∀ b, b ≠ 238 → I' b = I0 b) → am_u am_sh m_MD_solves q (am_at am_c_MD_solves 71) 71 [some (.ref 236), some (.int (nI z)), some (.int (zI (dt z b))), some (.int (nI k)), some (.int row), some (.int (zI own)), some (.int (nI r)), w7, w8] [] (I', J, am_Rf f g) := by
  intro m
  induction m with
  | zero =>
    intro r w7 w8 I' hm i1 i2 i3
    obtain rfl : r = z := by omega
    exact br_t (nI_le (Nat.le_refl _) (by omega)) (K _ _ _ I' (fun r' hr' c hc => i1 r' c hr' hc (Or.inl hr')) i3)
  | succ m ih =>
    intro r w7 w8 I' hm i1 i2 i3
    refine br_f (nI_ge (by omega) (by omega)) ⟨238, rfl, rfl, 56, 8 * r + k, rfl, by omega, ix8 r k, j_MD_solves ?_⟩
    have by0 : I' 238 (8 * r + k) = zI (dt z (vs b r (cl k))) := by rw [i2 r k (by omega) (by omega) (Or.inl (Nat.le_refl _)), hI0 r (by omega) k (by omega)]
    by_cases e : r = k
    · subst e
      refine br_f (by decide) (br_t rfl (j_MD_solves (j_MD_solves ?_)))
      rw [nI_1]
      exact ih (r + 1) _ _ I' (by omega) (fun r' c a b d => i1 r' c a b (by omega)) (fun r' c a b d => i2 r' c a b (by omega)) i3
    · show am_u am_sh m_MD_solves q (am_at am_c_MD_solves 94) 94 [_, _, _, _, _, _, _, some (.int (I' 238 (8 * r + k))), _] _ _
      rw [by0]
      refine lp_elim1 (I0 := I') hz hG h1 hc1 hk (show r < z by omega) e ho (fun c hc => by rw [i2 r c (by omega) hc (Or.inl (Nat.le_refl _))]; exact hI0 r (by omega) c hc) (fun c hc => by rw [i2 k c hk hc (Or.inr rfl)]; exact hI0 k hk c hc) (fun w8 I'' a1 a2 a3 => ?_) 8 0 I' (by omega) (fun c' hc' => by omega) (fun x c' _ _ => rfl) (fun b _ => rfl)
      refine j_MD_solves (j_MD_solves ?_)
      rw [nI_1]
      refine ih (r + 1) _ _ I'' (by omega) (fun r' c a b d => ?_) (fun r' c a b d => ?_) (fun b hb => by rw [a3 b hb, i3 b hb])
      · by_cases w : r' = r
        · rw [w]; exact a1 c b
        · rw [a2 r' c b w]
          exact i1 r' c a b (by omega)
      · rw [a2 r' c b (by omega)]
        exact i2 r' c a b (by omega)
/-- a row that isn't 0 there, or the last one -/
theorem lp_seek {k : Nat} {last : Int32} {w5 w6 w7 w8 : Option Value} (hz : z < 8) (hk : k < z) (K : ∀ row, k ≤ row → row < z → (∀ r', k ≤ r' → r' < row → I 238 (8 * r' + k) = 0) → (row = z - 1 ∨ ¬ I 238 (8 * row + k) = 0) → am_run am_sh m_MD_solves q 41 [some (.ref 236), some (.int (nI z)), some (.int last), some (.int (nI k)), some (.int (nI row)), w5, w6, w7, w8] [] (I, J, am_Rf f g)) : ∀ m row, m + row + 1 = z → k ≤ row → (∀ r', k ≤ r' → r' < row → I 238 (8 * r' + k) = 0) → am_u am_sh m_MD_solves q (am_at am_c_MD_solves 12) 12 [some (.ref 236), some (.int (nI z)), some (.int last), some (.int (nI k)), some (.int (nI row)), w5, w6, w7, w8] [] (I, J, am_Rf f g) := by
  intro m
  induction m with
  | zero =>
    intro row hm hkr h0
    refine br_t ?_ (K row hkr (by omega) h0 (Or.inl (by omega)))
    rw [show nI z - 1 = nI (z - 1) from nI_sub (b := 1) (by omega)]
    exact nI_le (by omega) (by omega)
  | succ m ih =>
    intro row hm hkr h0
    refine br_f ?_ ⟨238, rfl, rfl, 56, 8 * row + k, rfl, by omega, ix8 row k, fun h1 => K row hkr (by omega) h0 (Or.inr h1), fun h1 => j_MD_solves ?_⟩
    · rw [show nI z - 1 = nI (z - 1) from nI_sub (b := 1) (by omega)]
      exact nI_ge (by omega) (by omega)
    · rw [nI_1]
      refine ih (row + 1) (by omega) (by omega) (fun r' a b => ?_)
      by_cases e : r' = row
      · rw [e]; exact h1
      · exact h0 r' a (by omega)
theorem lp_solves (hz : z < 8) (hc1 : One1 cl) : ∀ m k w4 w5 w6 w7 w8 (I' : Nat → Nat → Int32) (b : Nat → Nat → Int), m + k = z → Good z b → One1 b → (∀ j, j < k → b j = cl j) → Svd I' z cl b → (∀ b, b ≠ 238 → I' b = I b) → am_u am_sh m_MD_solves (SvQ f g I J z cl) (am_at am_c_MD_solves 4) 4 [some (.ref 236), some (.int (nI z)), some (.int (zI (dt z b))), some (.int (nI k)), w4, w5, w6, w7, w8] [] (I', J, am_Rf f g) := by
  intro m
  induction m with
  | zero =>
    intro k w4 w5 w6 w7 w8 I' b hm hG h1 hj hS hF
    obtain rfl : k = z := by omega
    refine br_t (nI_le (Nat.le_refl _) (by omega)) (j_MD_solves ⟨_, I', rfl, rfl, Or.inr ⟨dt k b, fun r => dt k (vs b r (cl 7)), rfl, hG.1, h1.dt hz, fun r hr => ⟨hS r hr 7 (by omega), (h1.vs (hc1 7)).dt hz⟩, fun i hi => ?_⟩, hF⟩)
    rw [hG.2 (cl 7) i hi]
    exact zs_congr (fun c hc => by rw [hj c hc])
  | succ m ih =>
    intro k w4 w5 w6 w7 w8 I' b hm hG h1 hj hS hF
    have hk : k < z := by omega
    refine br_f (nI_ge (by omega) (by omega)) (j_MD_solves (lp_seek hz hk (fun row r1 r2 r3 r4 => j_MD_solves ⟨rfl, (ev_swaps (show k < 7 by omega) (show row < 7 by omega)).mono ?_⟩) (z - 1 - k) k (by omega) (Nat.le_refl _) (fun r' a b => by omega)))
    rintro x σ' ⟨rfl, I1, rfl, s1, _, s3⟩
    -- the basis with two places changed
    obtain ⟨b', hG', h1', hj', hD, hS', hown⟩ : ∃ b', Good z b' ∧ One1 b' ∧ (∀ j, j < k → b' j = cl j) ∧ dt z b' = dt z b ∧ Svd I1 z cl b' ∧ dt z (vs b' k (cl k)) = dt z (vs b row (cl k)) := by
      by_cases e : k = row
      · subst e
        refine ⟨b, hG, h1, hj, rfl, fun r hr c hc => ?_, rfl⟩
        rw [s1 r c hc hc, if_pos rfl]
        exact hS r hr c hc
      · refine ⟨swn b k row, good_swn hG hk r2 e, h1.sw2, fun j hjk => ?_, dt_swn hk r2 e, fun r hr c hc => ?_, ?_⟩
        · unfold swn
          rw [vs_ne (by omega), vs_ne (by omega)]
          exact hj j hjk
        · rw [s1 r c hc hc, if_neg e, swn_cf hk r2 e hr]
          by_cases e1 : r = k
          · rw [if_pos e1, if_pos e1]
            exact hS row r2 c hc
          · rw [if_neg e1, if_neg e1]
            by_cases e2 : r = row
            · rw [if_pos e2, if_pos e2, hS k hk c hc, zI_neg]
            · rw [if_neg e2, if_neg e2]
              exact hS r hr c hc
        · rw [swn_cf hk r2 e hk, if_pos rfl]
    have oc := hS' k hk k (by omega)
    have oab := (h1'.vs (s := k) (hc1 k)).dt hz
    refine ⟨238, rfl, rfl, 56, 8 * k + k, rfl, by omega, ix8 k k, fun h0 => j_MD_solves (j_MD_solves ?_), fun h0 => ?_⟩
    · have h0 : ¬ I1 238 (8 * k + k) = 0 := h0
      show am_u am_sh m_MD_solves _ (am_at am_c_MD_solves 71) 71 [_, _, some (.int (zI (dt z b))), _, _, some (.int (I1 238 (8 * k + k))), _, _, _] _ _
      rw [oc] at h0 ⊢
      have ow0 : ¬ dt z (vs b' k (cl k)) = 0 := fun e => h0 ((zI_0iff oab).mpr e)
      rw [← hD]
      refine lp_elim hz hG' h1' hc1 hk rfl hS' (fun w6 w7 w8 I2 a1 a2 => ?_) z 0 w7 w8 I1 (by omega) (fun r' c a b d => ?_) (fun r' c a b d => rfl) (fun b _ => rfl)
      · refine j_MD_solves (j_MD_solves ?_)
        rw [nI_1]
        refine ih (k + 1) _ _ _ _ _ I2 (vs b' k (cl k)) (by omega) (good_piv hG' hk (cl k) ow0) (h1'.vs (hc1 k)) (fun j hjk => ?_) a1 (fun b hb => by rw [a2 b hb, s3 b hb, hF b hb])
        by_cases e : j = k
        · rw [e, vs_eq]
        · rw [vs_ne e]
          exact hj' j (by omega)
      · obtain rfl : r' = k := by omega
        rw [vs_vs]
        exact hS' r' a c b
    · have h0 : I1 238 (8 * k + k) = 0 := h0
      rw [oc, zI_0iff oab, hown] at h0
      refine ⟨0, I1, rfl, rfl, Or.inl ⟨rfl, fun c => if c = k then - dt z b else if c < k then dt z (vs b c (cl k)) else 0, ⟨k, hk, by show (if k = k then _ else _) ≠ 0; rw [if_pos rfl]; have := hG.1; omega⟩, fun i hi => ?_⟩, fun b hb => by rw [s3 b hb, hF b hb]⟩
      have ab := fun r => (h1.vs (s := r) (hc1 k)).dt hz
      have z0 : ∀ r, k ≤ r → r < z → dt z (vs b r (cl k)) = 0 := by
        intro r hr hrz
        rcases Nat.lt_or_ge r row with w | w
        · have := r3 r hr w
          rw [hS r hrz k (by omega), zI_0iff (ab r)] at this
          exact this
        · rcases r4 with q | q
          · rw [show r = row by omega]; exact h0
          · rw [hS row r2 k (by omega), zI_0iff (ab row)] at q
            exact absurd h0 q
      have t := hG.2 (cl k) i hi
      have t2 : zs (fun s => dt z (vs b s (cl k)) * b s i) z = zs (fun s => dt z (vs b s (cl k)) * b s i) k := zs_cut (by omega) (fun u a d => by rw [z0 u a d, Int.zero_mul])
      have t3 : zs (fun c => (if c = k then - dt z b else if c < k then dt z (vs b c (cl k)) else 0) * cl c i) z = zs (fun c => (if c = k then - dt z b else if c < k then dt z (vs b c (cl k)) else 0) * cl c i) (k + 1) := zs_cut (by omega) (fun u a d => by rw [if_neg (by omega), if_neg (by omega), Int.zero_mul])
      rw [t3, zs_s, if_pos rfl, zs_congr (G := fun s => dt z (vs b s (cl k)) * b s i) (fun c hc => by rw [if_neg (by omega), if_pos hc, hj c hc]), ← t2, ← t, Int.neg_mul]
      omega
theorem ev_solves (hz : z < 8) (hc1 : One1 cl) (hS : ∀ r, r < z → ∀ c, c < 8 → I 238 (8 * r + c) = zI (cl c r)) : am_ev am_sh m_MD_solves [.ref 236, .int (nI z)] (I, J, am_Rf f g) (SvQ f g I J z cl) := by
  refine s_MD_solves (j_MD_solves ?_)
  have e1 : One1 e1v := fun i k => by unfold e1v; split <;> decide
  have := lp_solves (f := f) (g := g) (I := I) (J := J) hz hc1 z 0 none none none none none I e1v (by omega) (good_id z) e1 (fun j hj => by omega) (fun r hr c hc => by rw [dt_unit hr]; exact hS r hr c hc) (fun b _ => rfl)
  rw [dt_id] at this
  exact this
end MS
