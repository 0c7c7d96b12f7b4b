/-! the reference: even pairs, the arithmetic -/
theorem en_sum7 {S : Nat} {me : Nat → Nat} (hS : S < 128) (hme : Enm (tb S) 12 me) (F V : Nat → Int) : zs (fun e => F e * (if tb S e = true then V (cn (tb S) e) else 0)) 7 = zs (fun c => F (me c) * V c) (cn (tb S) 12) := by
  have t := zs_enum (F := fun e => F e * V (cn (tb S) e)) hme
  rw [zs_cut (a := 7) (b := 12) (by omega) (fun u a _ => by rw [tb_out (n := 7) hS a, if_neg (by decide)])] at t
  have t2 : zs (fun e => F e * (if tb S e = true then V (cn (tb S) e) else 0)) 7 = zs (fun u => if tb S u = true then F u * V (cn (tb S) u) else 0) 7 := zs_congr (fun e _ => by
    split
    · rfl
    · exact Int.mul_zero _)
  rw [t2, t]
  exact zs_congr (fun c hc => by rw [(hme c hc).2.2])
theorem en_sumM {G M : Nat} {mi : Nat → Nat} (hG : ∀ u, tb G u = true → u < M) (h12 : M ≤ 12) (hmi : Enm (tb G) 12 mi) (F V : Nat → Int) : zs (fun k => F k * (if tb G k = true then V (cn (tb G) k) else 0)) M = zs (fun c => F (mi c) * V c) (cn (tb G) 12) := by
  have t := zs_enum (F := fun e => F e * V (cn (tb G) e)) hmi
  rw [zs_cut (a := M) (b := 12) h12 (fun u a _ => by rw [if_neg (fun w => by have := hG u w; omega)])] at t
  have t2 : zs (fun e => F e * (if tb G e = true then V (cn (tb G) e) else 0)) M = zs (fun u => if tb G u = true then F u * V (cn (tb G) u) else 0) M := zs_congr (fun e _ => by
    split
    · rfl
    · exact Int.mul_zero _)
  rw [t2, t]
  exact zs_congr (fun c hc => by rw [(hmi c hc).2.2])
theorem sgv_self {ov : Int} (h : ov ≠ 0) : 0 < sgv ov ov := by unfold sgv; split <;> omega
theorem sgv_abs (ov x : Int) : (sgv ov x).natAbs = x.natAbs := by unfold sgv; split <;> omega
theorem sgv_mul (ov a x : Int) : sgv ov (a * x) = sgv ov a * x := by
  unfold sgv
  split
  · rw [Int.neg_mul]
  · rfl
theorem sgv_mul2 (ov a x : Int) : sgv ov (a * x) = a * sgv ov x := by
  unfold sgv
  split
  · rw [Int.mul_neg]
  · rfl
theorem sgv_zs (ov : Int) (F : Nat → Int) (n : Nat) : sgv ov (zs F n) = zs (fun i => sgv ov (F i)) n := by
  unfold sgv
  split
  · have := zs_mul (F := F) (a := -1) n
    rw [show - zs F n = -1 * zs F n by omega, ← this]
    exact zs_congr (fun i _ => by omega)
  · rfl
/-- an answer is the one answer -/
theorem one_way {z : Nat} {A : Nat → Nat → Int} {ov d : Int} {v y : Nat → Int} (hU : ∀ w : Nat → Int, (∀ i, i < z → zs (fun c => w c * A c i) z = 0) → ∀ c, c < z → w c = 0) (hv : ∀ i, i < z → ov = zs (fun c => v c * A c i) z) (hy : ∀ i, i < z → zs (fun c => y c * A c i) z = d) : ∀ c, c < z → d * sgv ov (v c) = sgv ov ov * y c := by
  intro c hc
  have := hU (fun c => d * v c + (-ov) * y c) (fun i hi => by
    have e : zs (fun c => (d * v c + (-ov) * y c) * A c i) z = zs (fun c => d * (v c * A c i) + (-ov) * (y c * A c i)) z := zs_congr (fun c _ => by rw [Int.add_mul, Int.mul_assoc, Int.mul_assoc])
    rw [e, zs_lin, ← hv i hi, hy i hi, Int.neg_mul, Int.mul_comm]
    omega) c hc
  have this : d * v c + (-ov) * y c = 0 := this
  rw [Int.neg_mul] at this
  rw [← sgv_mul2, ← sgv_mul, show d * v c = ov * y c by omega]
theorem nn_of {d a y x : Int} (hd : 0 < d) (ha : 0 ≤ a) (hy : 0 ≤ y) (h : d * x = a * y) : 0 ≤ x := pos_of_mul hd (by rw [h]; exact Int.mul_nonneg ha hy)
/-- sums over both answers -/
theorem both_sums {z : Nat} {A : Nat → Nat → Int} {ov ot : Int} {V W : Nat → Int} (hV : ∀ i, i < z → ov = zs (fun c => V c * A i c) z) (hW : ∀ i, i < z → ot = zs (fun c => W c * A c i) z) : ov * zs W z = ot * zs V z := by
  have e1 : ov * zs W z = zs (fun i => zs (fun c => V c * A i c * W i) z) z := by
    rw [← zs_mul]
    refine zs_congr (fun i hi => ?_)
    rw [zs_mulr, ← hV i hi]
  have e2 : ot * zs V z = zs (fun c => zs (fun i => V c * A i c * W i) z) z := by
    rw [← zs_mul]
    refine zs_congr (fun c hc => ?_)
    have : zs (fun i => V c * A i c * W i) z = V c * zs (fun i => W i * A i c) z := by
      rw [← zs_mul]
      exact zs_congr (fun i _ => by rw [Int.mul_assoc, Int.mul_comm (A i c)])
    rw [this, ← hW c hc, Int.mul_comm]
  rw [e1, e2, zs_swap]
theorem scale_ge {z : Nat} {d a : Int} {V y F : Nat → Int} (hd : 0 < d) (ha : 0 ≤ a) (hV : ∀ c, c < z → d * V c = a * y c) (hF : d ≤ zs (fun c => y c * F c) z) : a ≤ zs (fun c => F c * V c) z := by
  refine le_cancel hd ?_
  have e : d * zs (fun c => F c * V c) z = a * zs (fun c => y c * F c) z := by
    rw [← zs_mul, ← zs_mul]
    exact zs_congr (fun c hc => by rw [Int.mul_left_comm, hV c hc, Int.mul_left_comm, Int.mul_comm (F c)])
  rw [e, Int.mul_comm d]
  exact Int.mul_le_mul_of_nonneg_left hF ha
theorem scale_le {z : Nat} {d a : Int} {V y F : Nat → Int} (hd : 0 < d) (ha : 0 ≤ a) (hV : ∀ c, c < z → d * V c = a * y c) (hF : zs (fun c => y c * F c) z ≤ d) : zs (fun c => F c * V c) z ≤ a := by
  refine le_cancel hd ?_
  have e : d * zs (fun c => F c * V c) z = a * zs (fun c => y c * F c) z := by
    rw [← zs_mul, ← zs_mul]
    exact zs_congr (fun c hc => by rw [Int.mul_left_comm, hV c hc, Int.mul_left_comm, Int.mul_comm (F c)])
  rw [e, Int.mul_comm d]
  exact Int.mul_le_mul_of_nonneg_left hF ha
/-- what was filled in, over all places -/
theorem Fil.all {I' I : Nat → Nat → Int32} {a S N z : Nat} {ix : Nat → Nat} {V : Nat → Int} (hz : z = cn (tb S) 12) (h12 : N ≤ 12) (he : Enm (tb S) 12 ix) (h : Fil I' I a ix V z) (h0 : ∀ j, j < N → I a j = 0) : ∀ j, j < N → I' a j = zI (if tb S j = true then V (cn (tb S) j) else 0) := by
  intro j hj
  by_cases q : tb S j = true
  · obtain ⟨a1, a2⟩ := he.hit (show j < 12 by omega) q
    have := h.1 _ (by rw [hz]; exact a1)
    rw [a2] at this
    rw [if_pos q]
    exact this
  · rw [if_neg q, h.2.1 j (fun r' hr' e => q (by rw [e]; exact (he r' (by rw [← hz]; exact hr')).2.1)), h0 j hj]
    rfl
theorem zb_abs (g e : Nat) (x : Int) : (zb g e * x).natAbs ≤ x.natAbs := by
  have h := zb_01 g e
  rw [Int.natAbs_mul]
  have : (zb g e).natAbs ≤ 1 := by omega
  have := Nat.mul_le_mul_right x.natAbs this
  omega
