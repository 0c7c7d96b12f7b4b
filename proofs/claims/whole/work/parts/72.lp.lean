/-! the plain task: groups packed on elements; both of its sides -/
theorem zs_add (F G : Nat → Int) (n : Nat) : zs (fun i => F i + G i) n = zs F n + zs G n := by
  induction n with
  | zero => rfl
  | succ n ih =>
    show zs _ n + (F n + G n) = zs F n + F n + (zs G n + G n)
    rw [ih]
    omega
theorem zs_swap (F : Nat → Nat → Int) (m : Nat) : ∀ n, zs (fun e => zs (fun r => F e r) m) n = zs (fun r => zs (fun e => F e r) n) m
  | 0 => (zs_0 (fun _ _ => rfl)).symm
  | n + 1 => by
    show zs _ n + zs (fun r => F n r) m = zs (fun r => zs (fun e => F e r) n + F n r) m
    rw [zs_swap F m n, zs_add]
theorem zs_le {F G : Nat → Int} {n : Nat} (h : ∀ i, i < n → F i ≤ G i) : zs F n ≤ zs G n := by
  induction n with
  | zero => exact Int.le_refl _
  | succ n ih =>
    show zs F n + F n ≤ zs G n + G n
    have a := ih (fun i hi => h i (by omega))
    have b := h n (by omega)
    omega
theorem zs_nn {F : Nat → Int} {n : Nat} (h : ∀ i, i < n → 0 ≤ F i) : 0 ≤ zs F n := by
  have := zs_le (F := fun _ => 0) h
  rw [zs_0 (fun _ _ => rfl)] at this
  exact this
theorem zs_mulr (F : Nat → Int) (a : Int) (n : Nat) : zs (fun i => F i * a) n = zs F n * a := by
  rw [Int.mul_comm, ← zs_mul]
  exact zs_congr (fun i _ => Int.mul_comm _ _)
theorem dt_unit {m s : Nat} (hs : s < m) (a : Nat → Int) : dt m (vs e1v s a) = a s := by
  have h0 : dt m e1v ≠ 0 := by rw [dt_id]; decide
  refine (cramer h0 hs (fun k hk => ?_)).symm
  rw [dt_id, Int.one_mul, zs_one (s := k) hk]
  · rw [show e1v k k = 1 from if_pos rfl, Int.mul_one]
  · intro i _ hn
    rw [show e1v i k = 0 from if_neg hn, Int.mul_zero]
def zb (g e : Nat) : Int := ((g / 2 ^ e % 2 : Nat) : Int)
theorem zb_01 (g e : Nat) : 0 ≤ zb g e ∧ zb g e ≤ 1 := by
  unfold zb
  omega
def lpc (n : Nat) (gs : Nat → Nat) (u k : Nat) : Int := if u < 12 then (if k = n then -1 else zb (gs u) k) else e1v (u - 12) k
def lph (n k : Nat) : Int := if k < n then 1 else 0
def LV (n : Nat) (P : Nat → Prop) (u : Nat) : Prop := (u < 12 ∧ P u) ∨ (12 ≤ u ∧ u < 12 + n)
section LP
variable {n : Nat} {gs : Nat → Nat} {P : Nat → Prop} {B : Nat → Nat}
theorem lpc_g {u k : Nat} (hu : u < 12) (hk : k < n) : lpc n gs u k = zb (gs u) k := by
  unfold lpc
  rw [if_pos hu, if_neg (by omega)]
theorem lpc_n {u : Nat} (hu : u < 12) : lpc n gs u n = -1 := by
  unfold lpc
  rw [if_pos hu, if_pos rfl]
theorem lpc_s {e : Nat} : lpc n gs (12 + e) = e1v e := by
  funext k
  unfold lpc
  rw [if_neg (by omega), show 12 + e - 12 = e by omega]
theorem bit_ex : ∀ n, n < 8 → ∀ g, g < 128 → 1 ≤ g → g < 2 ^ n → bx (fun k => decide (g / 2 ^ k % 2 = 1)) n = true := by decide +kernel
theorem LV.h1 : ∀ u, LV n P u → ∀ k, k < n → 0 ≤ lpc n gs u k := by
  rintro u (⟨h1, _⟩ | ⟨h1, h2⟩) k hk
  · rw [lpc_g h1 hk]; exact (zb_01 _ _).1
  · obtain ⟨e, rfl⟩ : ∃ e, u = 12 + e := ⟨u - 12, by omega⟩
    rw [lpc_s]
    unfold e1v
    split <;> decide
theorem LV.h2 (h8 : n < 8) (hg : ∀ c, P c → 1 ≤ gs c ∧ gs c < 2 ^ n) : ∀ u, LV n P u → ∃ k, k < n ∧ 0 < lpc n gs u k := by
  rintro u (⟨h1, hp⟩ | ⟨h1, h2⟩)
  · obtain ⟨g1, g2⟩ := hg u hp
    have h7 := pow_le7 h8
    obtain ⟨k, hk, e⟩ := bx_iff.mp (bit_ex n h8 (gs u) (by omega) g1 g2)
    refine ⟨k, hk, ?_⟩
    rw [lpc_g h1 hk]
    unfold zb
    rw [of_decide_eq_true e]
    decide
  · obtain ⟨e, rfl⟩ : ∃ e, u = 12 + e := ⟨u - 12, by omega⟩
    refine ⟨e, by omega, ?_⟩
    rw [lpc_s, show e1v e e = 1 from if_pos rfl]
    decide
theorem LV.lt (h8 : n < 8) : ∀ u, LV n P u → u < 19 := by
  rintro u (⟨h1, _⟩ | ⟨h1, h2⟩) <;> omega
theorem bs0 : bs n (lpc n gs) (fun r => 12 + r) = e1v := by
  funext r
  unfold bs
  by_cases e : r = n
  · rw [if_pos e, e]
  · rw [if_neg e, lpc_s]
theorem sP0 {r : Nat} (hr : r < n + 1) (v : Nat → Int) : sP n (lpc n gs) (fun r => 12 + r) r v = v r := by
  unfold sP
  rw [bs0]
  exact dt_unit hr v
theorem sD0 : sD n (lpc n gs) (fun r => 12 + r) = 1 := by
  unfold sD
  rw [bs0]
  exact dt_id _
theorem ok0 : Ok n (lpc n gs) (lph n) (LV n P) (fun r => 12 + r) := by
  refine ⟨fun r hr => Or.inr ⟨Nat.le_add_right 12 r, Nat.add_lt_add_left hr 12⟩, ?_, by rw [sD0]; decide, fun r hr => ?_⟩
  · rw [bs0]; exact good_id _
  · rw [sP0 (by omega)]
    unfold lph
    rw [if_pos hr]
    decide
theorem psi_lin (v : Nat → Int) : sP n (lpc n gs) B n v = zs (fun e => v e * sP n (lpc n gs) B n (e1v e)) n + v n * sD n (lpc n gs) B := by
  have e2 : sP n (lpc n gs) B n v = dt (n + 1) (vs (bs n (lpc n gs) B) n (fun k => zs (fun j => v j * e1v j k) (n + 1))) := by
    unfold sP
    refine dt_congr (n + 1) _ _ (fun i _ k hk => ?_)
    by_cases q : i = n
    · subst q
      rw [vs_eq, vs_eq, zs_one (s := k) hk]
      · rw [show e1v k k = 1 from if_pos rfl, Int.mul_one]
      · intro j _ hn
        rw [show e1v j k = 0 from if_neg hn, Int.mul_zero]
    · rw [vs_ne q, vs_ne q]
  rw [e2, dt_zs (by omega), ← sP_last]
  rfl
theorem lph_n : lph n n = 0 := if_neg (by omega)
theorem lph_1 {e : Nat} (h : e < n) : lph n e = 1 := if_pos h
/-- shares of elements: none below 0, each group has enough; the sum -/
theorem dual_nn (hF : Fin0 n (lpc n gs) (LV n P) B) {e : Nat} (he : e < n) : 0 ≤ sP n (lpc n gs) B n (e1v e) := by
  have := hF (12 + e) (Or.inr ⟨by omega, by omega⟩)
  rw [lpc_s] at this
  exact this
theorem dual_ge (hF : Fin0 n (lpc n gs) (LV n P) B) {c : Nat} (hc : c < 12) (hp : P c) : sD n (lpc n gs) B ≤ zs (fun e => zb (gs c) e * sP n (lpc n gs) B n (e1v e)) n := by
  have := hF c (Or.inl ⟨hc, hp⟩)
  rw [psi_lin, lpc_n hc, zs_congr (fun e he => by rw [lpc_g hc he])] at this
  omega
theorem dual_sum : sP n (lpc n gs) B n (lph n) = zs (fun e => sP n (lpc n gs) B n (e1v e)) n := by
  rw [psi_lin, lph_n, Int.zero_mul, Int.add_zero]
  exact zs_congr (fun e he => by rw [lph_1 he, Int.one_mul])
/-- weights by rows -/
theorem prim_e (hB : Ok n (lpc n gs) (lph n) (LV n P) B) {e : Nat} (he : e < n) : sD n (lpc n gs) B = zs (fun r => sP n (lpc n gs) B r (lph n) * lpc n gs (B r) e) n := by
  have t := hB.2.1.2 (lph n) e (by omega)
  rw [lph_1 he, Int.mul_one] at t
  refine Eq.trans t ?_
  rw [zs_s, bs_last, show e1v n e = 0 from if_neg (by omega), Int.mul_zero, Int.add_zero]
  exact zs_congr (fun r hr => by rw [bs_row hr]; rfl)
theorem prim_z (hB : Ok n (lpc n gs) (lph n) (LV n P) B) : sP n (lpc n gs) B n (lph n) = zs (fun r => if B r < 12 then sP n (lpc n gs) B r (lph n) else 0) n := by
  have t := hB.2.1.2 (lph n) n (by omega)
  rw [lph_n, Int.mul_zero] at t
  have t2 : zs (fun r => dt (n + 1) (vs (bs n (lpc n gs) B) r (lph n)) * bs n (lpc n gs) B r n) (n + 1) = zs (fun r => (-1) * (if B r < 12 then sP n (lpc n gs) B r (lph n) else 0)) n + sP n (lpc n gs) B n (lph n) := by
    rw [zs_s, bs_last, show e1v n n = 1 from if_pos rfl, Int.mul_one]
    congr 1
    refine zs_congr (fun r hr => ?_)
    rw [bs_row hr]
    rcases hB.1 r hr with ⟨q, _⟩ | ⟨q1, q2⟩
    · rw [lpc_n q, if_pos q, Int.mul_comm]
      rfl
    · obtain ⟨e, he⟩ : ∃ e, B r = 12 + e := ⟨B r - 12, by omega⟩
      rw [he, lpc_s, show e1v e n = 0 from if_neg (by omega), if_neg (by omega), Int.mul_zero, Int.mul_zero]
  rw [t2, zs_mul] at t
  omega
/-- no shares of elements do with less -/
theorem weak1 (hB : Ok n (lpc n gs) (lph n) (LV n P) B) {E : Nat → Int} {ov : Int} (hE : ∀ e, e < n → 0 ≤ E e) (hc : ∀ c, c < 12 → P c → ov ≤ zs (fun e => zb (gs c) e * E e) n) : sP n (lpc n gs) B n (lph n) * ov ≤ sD n (lpc n gs) B * zs E n := by
  rw [prim_z hB, ← zs_mulr, ← zs_mul]
  have e1 : zs (fun e => sD n (lpc n gs) B * E e) n = zs (fun r => sP n (lpc n gs) B r (lph n) * zs (fun e => lpc n gs (B r) e * E e) n) n := by
    have : zs (fun e => sD n (lpc n gs) B * E e) n = zs (fun e => zs (fun r => sP n (lpc n gs) B r (lph n) * lpc n gs (B r) e * E e) n) n := zs_congr (fun e he => by
      rw [zs_mulr, ← prim_e hB he])
    rw [this, zs_swap]
    refine zs_congr (fun r hr => ?_)
    rw [← zs_mul]
    exact zs_congr (fun e _ => Int.mul_assoc _ _ _)
  rw [e1]
  refine zs_le (fun r hr => ?_)
  have hx := hB.2.2.2 r hr
  rcases hB.1 r hr with ⟨q, hp⟩ | ⟨q1, q2⟩
  · rw [if_pos q, zs_congr (fun e he => by rw [lpc_g q he])]
    exact Int.mul_le_mul_of_nonneg_left (hc _ q hp) hx
  · rw [if_neg (by omega), Int.zero_mul]
    exact Int.mul_nonneg hx (zs_nn (fun e he => Int.mul_nonneg (LV.h1 (P := P) _ (hB.1 r hr) e he) (hE e he)))
/-- no weights of groups come to more -/
theorem weak2 (hF : Fin0 n (lpc n gs) (LV n P) B) {W : Nat → Int} {ot : Int} (hW : ∀ c, c < 12 → 0 ≤ W c) (hP : ∀ c, c < 12 → ¬ W c = 0 → P c) (hl : ∀ e, e < n → zs (fun c => zb (gs c) e * W c) 12 ≤ ot) : sD n (lpc n gs) B * zs W 12 ≤ ot * sP n (lpc n gs) B n (lph n) := by
  have a1 : zs (fun c => sD n (lpc n gs) B * W c) 12 ≤ zs (fun c => zs (fun e => zb (gs c) e * sP n (lpc n gs) B n (e1v e) * W c) n) 12 := by
    refine zs_le (fun c hc => ?_)
    rw [zs_mulr]
    by_cases q : W c = 0
    · rw [q, Int.mul_zero, Int.mul_zero]; exact Int.le_refl _
    · exact Int.mul_le_mul_of_nonneg_right (dual_ge hF hc (hP c hc q)) (hW c hc)
  have a2 : zs (fun c => zs (fun e => zb (gs c) e * sP n (lpc n gs) B n (e1v e) * W c) n) 12 = zs (fun e => sP n (lpc n gs) B n (e1v e) * zs (fun c => zb (gs c) e * W c) 12) n := by
    rw [zs_swap]
    refine zs_congr (fun e he => ?_)
    rw [← zs_mul]
    refine zs_congr (fun c _ => ?_)
    rw [Int.mul_comm (zb (gs c) e), Int.mul_assoc]
  have a3 : zs (fun e => sP n (lpc n gs) B n (e1v e) * zs (fun c => zb (gs c) e * W c) 12) n ≤ zs (fun e => sP n (lpc n gs) B n (e1v e) * ot) n := zs_le (fun e he => Int.mul_le_mul_of_nonneg_left (hl e he) (dual_nn hF he))
  rw [zs_mulr, ← dual_sum] at a3
  rw [← zs_mul, Int.mul_comm ot]
  omega
/-- whoever has both has the worth -/
theorem worth (hB : Ok n (lpc n gs) (lph n) (LV n P) B) (hF : Fin0 n (lpc n gs) (LV n P) B) {E W : Nat → Int} {ov ot : Int} (hE : ∀ e, e < n → 0 ≤ E e) (hc : ∀ c, c < 12 → P c → ov ≤ zs (fun e => zb (gs c) e * E e) n) (hW : ∀ c, c < 12 → 0 ≤ W c) (hP : ∀ c, c < 12 → ¬ W c = 0 → P c) (hl : ∀ e, e < n → zs (fun c => zb (gs c) e * W c) 12 ≤ ot) (h0 : 0 < ov) (h1 : 0 < ot) (he : ov * zs W 12 = ot * zs E n) : sP n (lpc n gs) B n (lph n) * ov = sD n (lpc n gs) B * zs E n := by
  have w1 := weak1 hB hE hc
  have w2 := weak2 hF hW hP hl
  have w3 := Int.mul_le_mul_of_nonneg_left w2 (Int.le_of_lt h0)
  have e1 : ov * (sD n (lpc n gs) B * zs W 12) = ot * (sD n (lpc n gs) B * zs E n) := by
    rw [Int.mul_left_comm, he, Int.mul_left_comm]
  have e2 : ov * (ot * sP n (lpc n gs) B n (lph n)) = ot * (sP n (lpc n gs) B n (lph n) * ov) := by
    rw [Int.mul_left_comm, Int.mul_comm ov]
  rw [e1, e2] at w3
  have := le_cancel h1 w3
  omega
theorem lpc_abs (u k : Nat) : (lpc n gs u k).natAbs ≤ 1 := by
  unfold lpc
  split
  · split
    · decide
    · have := zb_01 (gs u) k
      omega
  · unfold e1v
    split <;> decide
theorem lph_abs (k : Nat) : (lph n k).natAbs ≤ 1 := by
  unfold lph
  split <;> decide
theorem bs_abs (r k : Nat) : (bs n (lpc n gs) B r k).natAbs ≤ 1 := by
  unfold bs
  split
  · unfold e1v
    split <;> decide
  · exact lpc_abs _ _
theorem fc_le : ∀ n, n < 9 → fc n ≤ 40320 := by decide +kernel
theorem sD_abs (h8 : n < 8) : (sD n (lpc n gs) B).natAbs ≤ 40320 := Nat.le_trans (dt_abs _ _ (fun i _ k _ => bs_abs i k)) (fc_le _ (by omega))
theorem sP_abs (h8 : n < 8) {r : Nat} {v : Nat → Int} (hv : ∀ k, (v k).natAbs ≤ 1) : (sP n (lpc n gs) B r v).natAbs ≤ 40320 := by
  refine Nat.le_trans (dt_abs _ _ (fun i _ k _ => ?_)) (fc_le _ (by omega))
  by_cases q : i = r
  · subst q
    rw [vs_eq]; exact hv k
  · rw [vs_ne q]; exact bs_abs i k
end LP
