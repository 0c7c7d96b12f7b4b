/-! determinants of whole numbers: columns v i, coordinates v i k -/
def zs (F : Nat → Int) : Nat → Int
  | 0 => 0
  | n + 1 => zs F n + F n
theorem zs_congr {F G : Nat → Int} {n : Nat} (h : ∀ i, i < n → F i = G i) : zs F n = zs G n := by
  induction n with
  | zero => rfl
  | succ n ih =>
    show zs F n + F n = zs G n + G n
    rw [ih (fun i hi => h i (by omega)), h n (by omega)]
theorem zs_lin {F G : Nat → Int} {a b : Int} (n : Nat) : zs (fun i => a * F i + b * G i) n = a * zs F n + b * zs G n := by
  induction n with
  | zero => simp [zs]
  | succ n ih =>
    show zs _ n + (a * F n + b * G n) = a * (zs F n + F n) + b * (zs G n + G n)
    rw [ih, Int.mul_add, Int.mul_add]
    omega
theorem zs_mul {F : Nat → Int} {a : Int} (n : Nat) : zs (fun i => a * F i) n = a * zs F n := by
  have h := zs_lin (F := F) (G := F) (a := a) (b := 0) n
  rw [Int.zero_mul, Int.add_zero] at h
  rw [← h]
  exact zs_congr (fun i _ => by rw [Int.zero_mul, Int.add_zero])
theorem zs_0 {F : Nat → Int} {n : Nat} (h : ∀ i, i < n → F i = 0) : zs F n = 0 := by
  induction n with
  | zero => rfl
  | succ n ih =>
    show zs F n + F n = 0
    rw [ih (fun i hi => h i (by omega)), h n (by omega)]
    rfl
theorem zs_one {F : Nat → Int} {s n : Nat} (hs : s < n) (h : ∀ i, i < n → i ≠ s → F i = 0) : zs F n = F s := by
  induction n with
  | zero => omega
  | succ n ih =>
    show zs F n + F n = F s
    by_cases e : s = n
    · subst e
      rw [zs_0 (fun i hi => h i (by omega) (by omega)), Int.zero_add]
    · rw [ih (by omega) (fun i hi => h i (by omega)), h n (by omega) (by omega), Int.add_zero]
theorem zs_two {F : Nat → Int} {s t n : Nat} (hst : s < t) (ht : t < n) (h : ∀ i, i < n → i ≠ s → i ≠ t → F i = 0) : zs F n = F s + F t := by
  induction n with
  | zero => omega
  | succ n ih =>
    show zs F n + F n = F s + F t
    by_cases e : t = n
    · subst e
      rw [zs_one (s := s) (by omega) (fun i hi q => h i (by omega) q (by omega))]
    · rw [ih (by omega) (fun i hi => h i (by omega)), h n (by omega) (by omega) (by omega), Int.add_zero]
theorem zs_abs {F : Nat → Int} {B : Nat} (n : Nat) (h : ∀ i, i < n → (F i).natAbs ≤ B) : (zs F n).natAbs ≤ n * B := by
  induction n with
  | zero => exact Nat.zero_le _
  | succ n ih =>
    show (zs F n + F n).natAbs ≤ _
    have h1 := Int.natAbs_add_le (zs F n) (F n)
    have h2 := ih (fun i hi => h i (by omega))
    have h3 := h n (by omega)
    rw [Nat.add_mul, Nat.one_mul]
    omega
def skp (j i : Nat) : Nat := if i < j then i else i + 1
def sgn2 (j : Nat) : Int := if j % 2 = 0 then 1 else -1
def dt : Nat → (Nat → Nat → Int) → Int
  | 0, _ => 1
  | n + 1, v => zs (fun j => sgn2 j * (v j 0 * dt n (fun i k => v (skp j i) (k + 1)))) (n + 1)
theorem dt_s (n : Nat) (v : Nat → Nat → Int) : dt (n + 1) v = zs (fun j => sgn2 j * (v j 0 * dt n (fun i k => v (skp j i) (k + 1)))) (n + 1) := rfl
theorem skp_lt {j i n : Nat} (hi : i < n) : skp j i < n + 1 := by unfold skp; split <;> omega
theorem skp_ne (j i : Nat) : skp j i ≠ j := by unfold skp; split <;> omega
theorem dt_congr : ∀ (n : Nat) (v w : Nat → Nat → Int), (∀ i, i < n → ∀ k, k < n → v i k = w i k) → dt n v = dt n w
  | 0, _, _, _ => rfl
  | n + 1, v, w, h => by
    rw [dt_s, dt_s]
    refine zs_congr (fun j hj => ?_)
    rw [h j hj 0 (by omega), dt_congr n _ _ (fun i hi k hk => h (skp j i) (skp_lt hi) (k + 1) (by omega))]
/-- a column becomes another -/
def vs (v : Nat → Nat → Int) (s : Nat) (x : Nat → Int) : Nat → Nat → Int := fun i => if i = s then x else v i
theorem vs_eq {v : Nat → Nat → Int} {s : Nat} {x : Nat → Int} : vs v s x s = x := by unfold vs; rw [if_pos rfl]
theorem vs_ne {v : Nat → Nat → Int} {s i : Nat} {x : Nat → Int} (h : i ≠ s) : vs v s x i = v i := by unfold vs; rw [if_neg h]
theorem vs_id {v : Nat → Nat → Int} {s : Nat} : vs v s (v s) = v := by
  funext i
  by_cases h : i = s
  · rw [h, vs_eq]
  · rw [vs_ne h]
theorem vs_vs {v : Nat → Nat → Int} {s : Nat} {x y : Nat → Int} : vs (vs v s x) s y = vs v s y := by
  funext i
  by_cases h : i = s
  · rw [h, vs_eq, vs_eq]
  · rw [vs_ne h, vs_ne h, vs_ne h]
theorem vs_com {v : Nat → Nat → Int} {s t : Nat} {x y : Nat → Int} (h : s ≠ t) : vs (vs v s x) t y = vs (vs v t y) s x := by
  funext i
  by_cases h1 : i = s
  · subst h1; rw [vs_ne h, vs_eq, vs_eq]
  · by_cases h2 : i = t
    · subst h2; rw [vs_eq, vs_ne h1, vs_eq]
    · rw [vs_ne h2, vs_ne h1, vs_ne h1, vs_ne h2]
/-- where column s stands once column j is gone -/
def bk (j s : Nat) : Nat := if s < j then s else s - 1
theorem skp_bk {j s i : Nat} (h : s ≠ j) : skp j i = s ↔ i = bk j s := by unfold skp bk; split <;> split <;> omega
theorem bk_lt {j s n : Nat} (h : s ≠ j) (hj : j < n + 1) (hs : s < n + 1) : bk j s < n := by unfold bk; split <;> omega
theorem vs_skp {v : Nat → Nat → Int} {j s : Nat} {x : Nat → Int} (h : s ≠ j) : (fun i k => vs v s x (skp j i) (k + 1)) = vs (fun i k => v (skp j i) (k + 1)) (bk j s) (fun k => x (k + 1)) := by
  funext i k
  by_cases e : i = bk j s
  · rw [(skp_bk h).mpr e, vs_eq, e, vs_eq]
  · rw [vs_ne (fun q => e ((skp_bk h).mp q)), vs_ne e]
theorem vs_skp0 {v : Nat → Nat → Int} {s : Nat} {x : Nat → Int} : (fun i k => vs v s x (skp s i) (k + 1)) = fun i k => v (skp s i) (k + 1) := by
  funext i k
  rw [vs_ne (skp_ne s i)]
theorem ring1 (a b g x y D : Int) : g * ((a * x + b * y) * D) = a * (g * (x * D)) + b * (g * (y * D)) := by
  rw [Int.add_mul, Int.mul_add, Int.mul_assoc a, Int.mul_assoc b, Int.mul_left_comm g a, Int.mul_left_comm g b]
theorem ring2 (a b g u x y : Int) : g * (u * (a * x + b * y)) = a * (g * (u * x)) + b * (g * (u * y)) := by
  rw [Int.mul_add, Int.mul_add, Int.mul_left_comm u a, Int.mul_left_comm u b, Int.mul_left_comm g a, Int.mul_left_comm g b]
theorem dt_lin : ∀ (n : Nat) (v : Nat → Nat → Int) (s : Nat) (x y : Nat → Int) (a b : Int), s < n → dt n (vs v s (fun k => a * x k + b * y k)) = a * dt n (vs v s x) + b * dt n (vs v s y)
  | 0, _, _, _, _, _, _, h => by omega
  | n + 1, v, s, x, y, a, b, h => by
    rw [dt_s, dt_s, dt_s, ← zs_lin]
    refine zs_congr (fun j hj => ?_)
    by_cases e : s = j
    · subst e
      rw [vs_eq, vs_eq, vs_eq, vs_skp0, vs_skp0, vs_skp0]
      exact ring1 ..
    · rw [vs_ne (fun q => e q.symm), vs_ne (fun q => e q.symm), vs_ne (fun q => e q.symm), vs_skp e, vs_skp e, vs_skp e, dt_lin n _ _ (fun k => x (k + 1)) (fun k => y (k + 1)) a b (bk_lt e hj h)]
      exact ring2 ..
theorem sgn2_s (j : Nat) : sgn2 (j + 1) = - sgn2 j := by
  unfold sgn2
  by_cases h : j % 2 = 0
  · rw [if_pos h, if_neg (by omega)]
  · rw [if_neg h, if_pos (by omega)]
    rfl
/-- two columns side by side are alike -/
theorem dt_adj : ∀ (n : Nat) (v : Nat → Nat → Int) (s : Nat), s + 1 < n → v s = v (s + 1) → dt n v = 0
  | 0, _, _, h, _ => by omega
  | n + 1, v, s, h, hv => by
    rw [dt_s, zs_two (s := s) (t := s + 1) (by omega) h]
    · have e : (fun i k => v (skp s i) (k + 1)) = fun i k => v (skp (s + 1) i) (k + 1) := by
        funext i k
        by_cases q : i = s
        · subst q
          unfold skp
          rw [if_neg (by omega), if_pos (by omega), hv]
        · have : skp s i = skp (s + 1) i := by unfold skp; split <;> split <;> omega
          rw [this]
      rw [sgn2_s, e, hv, Int.neg_mul]
      omega
    · intro i hi h1 h2
      have : dt n (fun i' k => v (skp i i') (k + 1)) = 0 := by
        rcases Nat.lt_or_ge i s with q | q
        · refine dt_adj n _ (s - 1) (by omega) ?_
          funext k
          have a1 : skp i (s - 1) = s := by unfold skp; split <;> omega
          have a2 : skp i (s - 1 + 1) = s + 1 := by unfold skp; split <;> omega
          rw [a1, a2, hv]
        · refine dt_adj n _ s (by omega) ?_
          funext k
          have a1 : skp i s = s := by unfold skp; split <;> omega
          have a2 : skp i (s + 1) = s + 1 := by unfold skp; split <;> omega
          rw [a1, a2, hv]
      rw [this, Int.mul_zero, Int.mul_zero]
theorem vs_sum (x y : Nat → Int) : (fun k => (1 : Int) * x k + 1 * y k) = fun k => x k + y k := by
  funext k
  rw [Int.one_mul, Int.one_mul]
/-- if it's 0 wherever two columns are alike, two that change places change the sign -/
theorem dt_sw0 {n s t : Nat} (hs : s < n) (ht : t < n) (hst : s ≠ t) (h0 : ∀ w : Nat → Nat → Int, w s = w t → dt n w = 0) (v : Nat → Nat → Int) (x y : Nat → Int) : dt n (vs (vs v s x) t y) = - dt n (vs (vs v s y) t x) := by
  have z : ∀ a : Nat → Int, dt n (vs (vs v s a) t a) = 0 := fun a => h0 _ (by rw [vs_ne hst, vs_eq, vs_eq])
  have e1 := z (fun k => 1 * x k + 1 * y k)
  rw [dt_lin n _ t x y 1 1 ht, vs_com hst, dt_lin n _ s x y 1 1 hs, vs_com hst, dt_lin n _ s x y 1 1 hs, vs_com (fun q => hst q.symm), vs_com (fun q => hst q.symm), vs_com (fun q => hst q.symm), vs_com (fun q => hst q.symm), z x, z y] at e1
  omega
theorem dt_alt0 {n : Nat} : ∀ (d : Nat) (v : Nat → Nat → Int) (s : Nat), s + d + 1 < n → v s = v (s + d + 1) → dt n v = 0
  | 0, v, s, h, hv => dt_adj n v s h hv
  | d + 1, v, s, h, hv => by
    have e := dt_sw0 (n := n) (s := s + d + 1) (t := s + d + 2) (by omega) (by omega) (by omega) (fun w hw => dt_adj n w (s + d + 1) (by omega) hw) v (v (s + d + 1)) (v (s + d + 2))
    rw [vs_id, vs_id] at e
    rw [e, dt_alt0 d _ s (by omega)]
    · rfl
    · rw [vs_ne (by omega), vs_ne (by omega), vs_ne (by omega), vs_eq]
      exact hv
theorem dt_alt {n s t : Nat} {v : Nat → Nat → Int} (hs : s < n) (ht : t < n) (hst : s ≠ t) (hv : v s = v t) : dt n v = 0 := by
  rcases Nat.lt_or_ge s t with q | q
  · obtain ⟨d, rfl⟩ : ∃ d, t = s + d + 1 := ⟨t - s - 1, by omega⟩
    exact dt_alt0 d v s (by omega) hv
  · obtain ⟨d, rfl⟩ : ∃ d, s = t + d + 1 := ⟨s - t - 1, by omega⟩
    exact dt_alt0 d v t (by omega) hv.symm
theorem dt_swap {n s t : Nat} (hs : s < n) (ht : t < n) (hst : s ≠ t) (v : Nat → Nat → Int) (x y : Nat → Int) : dt n (vs (vs v s x) t y) = - dt n (vs (vs v s y) t x) := dt_sw0 hs ht hst (fun _ hw => dt_alt hs ht hst hw) v x y
theorem dt_mul {n s : Nat} (hs : s < n) (v : Nat → Nat → Int) (x : Nat → Int) (a : Int) : dt n (vs v s (fun k => a * x k)) = a * dt n (vs v s x) := by
  have h := dt_lin n v s x x a 0 hs
  rw [Int.zero_mul, Int.add_zero] at h
  rw [← h]
  congr 2
  funext k
  rw [Int.zero_mul, Int.add_zero]
theorem dt_zs {n s : Nat} (hs : s < n) (v w : Nat → Nat → Int) (T : Nat → Int) : ∀ N, dt n (vs v s (fun k => zs (fun j => T j * w j k) N)) = zs (fun j => T j * dt n (vs v s (w j))) N
  | 0 => by
    exact (dt_mul hs v (fun _ => 0) 0).trans (Int.zero_mul _)
  | N + 1 => by
    have h := dt_lin n v s (fun k => zs (fun j => T j * w j k) N) (w N) 1 (T N) hs
    rw [dt_zs hs v w T N, Int.one_mul] at h
    show _ = zs (fun j => T j * dt n (vs v s (w j))) N + T N * dt n (vs v s (w N))
    rw [← h]
    congr 2
    funext k
    rw [Int.one_mul]
    rfl
def fc : Nat → Nat
  | 0 => 1
  | n + 1 => (n + 1) * fc n
theorem dt_abs : ∀ (n : Nat) (v : Nat → Nat → Int), (∀ i, i < n → ∀ k, k < n → (v i k).natAbs ≤ 1) → (dt n v).natAbs ≤ fc n
  | 0, _, _ => Nat.le_refl _
  | n + 1, v, h => by
    rw [dt_s]
    refine zs_abs (n + 1) (fun j hj => ?_)
    have h1 := dt_abs n (fun i k => v (skp j i) (k + 1)) (fun i hi k hk => h (skp j i) (skp_lt hi) (k + 1) (by omega))
    have h2 := h j hj 0 (by omega)
    have h3 : (sgn2 j).natAbs = 1 := by unfold sgn2; split <;> rfl
    rw [Int.natAbs_mul, Int.natAbs_mul, h3, Nat.one_mul]
    have := Nat.mul_le_mul h2 h1
    rw [Nat.one_mul] at this
    exact this
def e1v : Nat → Nat → Int := fun i k => if i = k then 1 else 0
theorem dt_id : ∀ n, dt n e1v = 1
  | 0 => rfl
  | n + 1 => by
    rw [dt_s, zs_one (s := 0) (by omega)]
    · have e : (fun i k => e1v (skp 0 i) (k + 1)) = e1v := by
        funext i k
        unfold e1v skp
        rw [if_neg (Nat.not_lt_zero _)]
        by_cases q : i = k
        · rw [if_pos q, if_pos (by omega)]
        · rw [if_neg q, if_neg (by omega)]
      rw [e, dt_id n]
      rfl
    · intro i _ hi
      have : e1v i 0 = 0 := if_neg hi
      rw [this, Int.zero_mul, Int.mul_zero]
