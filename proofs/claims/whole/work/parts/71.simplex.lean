/-! the simplex method over bases of names: V the names there are, col their vectors, h the right side; Bland's rule -/
def bs (n : Nat) (col : Nat → Nat → Int) (B : Nat → Nat) : Nat → Nat → Int := fun r => if r = n then e1v n else col (B r)
def up1 (B : Nat → Nat) (l s : Nat) : Nat → Nat := fun r => if r = l then s else B r
def sD (n : Nat) (col : Nat → Nat → Int) (B : Nat → Nat) : Int := dt (n + 1) (bs n col B)
def sP (n : Nat) (col : Nat → Nat → Int) (B : Nat → Nat) (r : Nat) (v : Nat → Int) : Int := dt (n + 1) (vs (bs n col B) r v)
theorem zs_s (F : Nat → Int) (n : Nat) : zs F (n + 1) = zs F n + F n := rfl
section SX
variable {n : Nat} {col : Nat → Nat → Int} {h : Nat → Int} {V : Nat → Prop}
theorem bs_up {B : Nat → Nat} {l s : Nat} (hl : l < n) : bs n col (up1 B l s) = vs (bs n col B) l (col s) := by
  funext r
  unfold bs up1 vs
  by_cases e : r = l
  · subst e
    rw [if_neg (by omega), if_pos rfl, if_pos rfl]
  · rw [if_neg e, if_neg e]
theorem bs_row {B : Nat → Nat} {r : Nat} (hr : r < n) : bs n col B r = col (B r) := if_neg (by omega)
theorem bs_last {B : Nat → Nat} : bs n col B n = e1v n := if_pos rfl
/-- a determinant by another basis -/
theorem fun_tell {m s : Nat} {b b' : Nat → Nat → Int} (G : Good m b) (hs : s < m) (v : Nat → Int) : dt m b * dt m (vs b' s v) = zs (fun r => dt m (vs b r v) * dt m (vs b' s (b r))) m := by
  have e1 := dt_mul hs b' v (dt m b)
  have e2 : dt m (vs b' s (fun k => dt m b * v k)) = dt m (vs b' s (fun k => zs (fun j => dt m (vs b j v) * b j k) m)) := by
    refine dt_congr m _ _ (fun i _ k hk => ?_)
    by_cases q : i = s
    · subst q; rw [vs_eq, vs_eq]; exact G.2 v k hk
    · rw [vs_ne q, vs_ne q]
  rw [← e1, e2, dt_zs hs b' b (fun j => dt m (vs b j v)) m]
theorem sP_last {B : Nat → Nat} : sP n col B n (e1v n) = sD n col B := by
  have : vs (bs n col B) n (e1v n) = bs n col B := by
    have := vs_id (v := bs n col B) (s := n)
    rw [bs_last] at this
    exact this
  unfold sP sD
  rw [this]
def Bas (n : Nat) (B : Nat → Nat) (u : Nat) : Prop := ∃ r, r < n ∧ B r = u
theorem psi_bas {B : Nat → Nat} {u : Nat} (hb : Bas n B u) : sP n col B n (col u) = 0 := by
  obtain ⟨r, hr, rfl⟩ := hb
  unfold sP
  rw [← bs_row (n := n) (col := col) hr, cf_own (by omega) (by omega), if_neg (by omega)]
theorem psi_tell {B B' : Nat → Nat} (G : Good (n + 1) (bs n col B)) (v : Nat → Int) : sD n col B * sP n col B' n v = zs (fun r => sP n col B r v * sP n col B' n (col (B r))) n + sP n col B n v * sD n col B' := by
  have e := fun_tell (b' := bs n col B') G (Nat.lt_succ_self n) v
  have e2 : zs (fun r => dt (n + 1) (vs (bs n col B) r v) * dt (n + 1) (vs (bs n col B') n (bs n col B r))) (n + 1) = zs (fun r => sP n col B r v * sP n col B' n (col (B r))) n + sP n col B n v * sD n col B' := by
    rw [zs_s, bs_last, ← sP_last]
    congr 1
    refine zs_congr (fun r hr => ?_)
    rw [bs_row hr]
    rfl
  rw [← e2]
  exact e
theorem bs_inj {B : Nat → Nat} (G : Good (n + 1) (bs n col B)) {r r' : Nat} (hr : r < n) (hr' : r' < n) (e : B r = B r') : r = r' := by
  by_cases q : r = r'
  · exact q
  · exact absurd (dt_alt (n := n + 1) (by omega) (by omega) q (by rw [bs_row hr, bs_row hr', e])) G.1
/-- names, a basis, a scale above 0, nothing below 0 -/
def Ok (n : Nat) (col : Nat → Nat → Int) (h : Nat → Int) (V : Nat → Prop) (B : Nat → Nat) : Prop := (∀ r, r < n → V (B r)) ∧ Good (n + 1) (bs n col B) ∧ 0 < sD n col B ∧ ∀ r, r < n → 0 ≤ sP n col B r h
/-- s comes, the one of row l goes -/
def Pv (n : Nat) (col : Nat → Nat → Int) (h : Nat → Int) (V : Nat → Prop) (B : Nat → Nat) (s l : Nat) : Prop := l < n ∧ V s ∧ sP n col B n (col s) < 0 ∧ (∀ u, V u → sP n col B n (col u) < 0 → s ≤ u) ∧ 0 < sP n col B l (col s) ∧ ∀ r, r < n → 0 < sP n col B r (col s) → sP n col B l h * sP n col B r (col s) ≤ sP n col B r h * sP n col B l (col s) ∧ (sP n col B l h * sP n col B r (col s) = sP n col B r h * sP n col B l (col s) → B l ≤ B r)
theorem up_D {B : Nat → Nat} {s l : Nat} (hl : l < n) : sD n col (up1 B l s) = sP n col B l (col s) := by
  unfold sD sP
  rw [bs_up hl]
theorem up_own {B : Nat → Nat} {s l : Nat} (hl : l < n) (v : Nat → Int) : sP n col (up1 B l s) l v = sP n col B l v := by
  unfold sP
  rw [bs_up hl, vs_vs]
theorem up_row {B : Nat → Nat} {s l r : Nat} (G : Good (n + 1) (bs n col B)) (hl : l < n) (hr : r < n + 1) (hne : r ≠ l) (v : Nat → Int) : sD n col B * sP n col (up1 B l s) r v = sP n col B l (col s) * sP n col B r v - sP n col B r (col s) * sP n col B l v := by
  unfold sD sP
  rw [bs_up hl]
  exact piv_row G (by omega) hr hne (col s) v
theorem pos_of_mul {a b : Int} (ha : 0 < a) (h : 0 ≤ a * b) : 0 ≤ b := by
  by_cases q : 0 ≤ b
  · exact q
  · have := Int.mul_neg_of_pos_of_neg ha (show b < 0 by omega)
    omega
theorem zero_of_mul {a b : Int} (ha : 0 < a) (h : a * b = 0) : b = 0 := by
  rcases Int.mul_eq_zero.mp h with q | q
  · omega
  · exact q
theorem Ok.step {B : Nat → Nat} {s l : Nat} (hB : Ok n col h V B) (hp : Pv n col h V B s l) : Ok n col h V (up1 B l s) := by
  obtain ⟨h1, G, hd, hx⟩ := hB
  obtain ⟨hl, hV, hc, hmin, ha, hr⟩ := hp
  refine ⟨fun r hr => ?_, ?_, ?_, fun r hr' => ?_⟩
  · unfold up1
    by_cases e : r = l
    · rw [if_pos e]; exact hV
    · rw [if_neg e]; exact h1 r hr
  · rw [bs_up hl]
    exact good_piv G (by omega) (col s) (by unfold sP at ha; omega)
  · rw [up_D hl]; exact ha
  · by_cases e : r = l
    · subst e
      rw [up_own hl]
      exact hx r hr'
    · have q := up_row (s := s) G hl (show r < n + 1 by omega) e h
      refine pos_of_mul hd ?_
      rw [q]
      have a1 := hx r hr'
      have a2 := hx l hl
      by_cases c : 0 < sP n col B r (col s)
      · have := (hr r hr' c).1
        rw [Int.mul_comm (sP n col B l (col s)), Int.mul_comm (sP n col B r (col s))]
        omega
      · have b1 := Int.mul_nonneg (Int.le_of_lt ha) a1
        have b2 := Int.mul_nonneg (show 0 ≤ - sP n col B r (col s) by omega) a2
        rw [Int.neg_mul] at b2
        omega
theorem ent_nbas {B : Nat → Nat} {s l : Nat} (hp : Pv n col h V B s l) : ¬ Bas n B s := fun q => by
  have := psi_bas (col := col) q
  have := hp.2.2.1
  omega
theorem bas_step {B : Nat → Nat} {s l u : Nat} (hB : Ok n col h V B) (hl : l < n) : Bas n (up1 B l s) u ↔ u = s ∨ (Bas n B u ∧ u ≠ B l) := by
  constructor
  · rintro ⟨r, hr, e⟩
    unfold up1 at e
    by_cases q : r = l
    · rw [if_pos q] at e; exact Or.inl e.symm
    · rw [if_neg q] at e
      exact Or.inr ⟨⟨r, hr, e⟩, fun e2 => q (bs_inj hB.2.1 hr hl (e.trans e2))⟩
  · rintro (rfl | ⟨⟨r, hr, e⟩, hne⟩)
    · exact ⟨l, hl, by unfold up1; rw [if_pos rfl]⟩
    · exact ⟨r, hr, by unfold up1; rw [if_neg (fun q => hne (by rw [← e, q]))]; exact e⟩
/-- a run of T turns -/
def Run (n : Nat) (col : Nat → Nat → Int) (h : Nat → Int) (V : Nat → Prop) (B : Nat → Nat → Nat) (s l : Nat → Nat) (T : Nat) : Prop := Ok n col h V (B 0) ∧ ∀ k, k < T → Pv n col h V (B k) (s k) (l k) ∧ B (k + 1) = up1 (B k) (l k) (s k)
variable {B : Nat → Nat → Nat} {s l : Nat → Nat} {T : Nat}
theorem Run.ok (R : Run n col h V B s l T) : ∀ {k : Nat}, k ≤ T → Ok n col h V (B k)
  | 0, _ => R.1
  | k + 1, hk => by
    rw [(R.2 k (by omega)).2]
    exact (R.ok (k := k) (by omega)).step (R.2 k (by omega)).1
/-- what the objective does in a turn -/
theorem Run.obj (R : Run n col h V B s l T) {k : Nat} (hk : k < T) : sD n col (B k) * sP n col (B (k + 1)) n h = sD n col (B (k + 1)) * sP n col (B k) n h - sP n col (B k) n (col (s k)) * sP n col (B k) (l k) h := by
  have hp := (R.2 k hk).1
  have hl := hp.1
  rw [(R.2 k hk).2, up_D hl]
  exact up_row (R.ok (k := k) (by omega)).2.1 hl (by omega) (by omega) h
theorem le_cancel {a x y : Int} (ha : 0 < a) (h : a * x ≤ a * y) : x ≤ y := Int.le_of_mul_le_mul_left h ha
theorem lt_cancel {a x y : Int} (ha : 0 < a) (h : a * x < a * y) : x < y := Int.lt_of_mul_lt_mul_left h (Int.le_of_lt ha)
theorem Run.mono (R : Run n col h V B s l T) {i : Nat} : ∀ {k : Nat}, i ≤ k → k ≤ T → sP n col (B i) n h * sD n col (B k) < sP n col (B k) n h * sD n col (B i) ∨ (sP n col (B i) n h * sD n col (B k) = sP n col (B k) n h * sD n col (B i) ∧ ∀ j, i ≤ j → j < k → sP n col (B j) (l j) h = 0) := by
  intro k
  induction k with
  | zero =>
    intro h1 h2
    obtain rfl : i = 0 := by omega
    exact Or.inr ⟨rfl, fun j a b => by omega⟩
  | succ k ih =>
    intro h1 h2
    by_cases e : i = k + 1
    · subst e
      exact Or.inr ⟨rfl, fun j a b => by omega⟩
    have hp := (R.2 k (by omega)).1
    have ob := R.obj (k := k) (by omega)
    have dk := (R.ok (k := k) (by omega)).2.2.1
    have di := (R.ok (k := i) (by omega)).2.2.1
    have dk1 := (R.ok (k := k + 1) (by omega)).2.2.1
    have hc := hp.2.2.1
    have hx := (R.ok (k := k) (by omega)).2.2.2 (l k) hp.1
    generalize sP n col (B k) n (col (s k)) = c at ob hc
    generalize hxx : sP n col (B k) (l k) h = x at ob hx
    have ih := ih (by omega) (by omega)
    generalize sP n col (B k) n h = zk at ob ih
    generalize sP n col (B (k + 1)) n h = zk1 at ob ⊢
    generalize sP n col (B i) n h = zi at ih ⊢
    generalize sD n col (B k) = d at ob dk ih
    generalize sD n col (B (k + 1)) = d1 at ob dk1 ⊢
    generalize sD n col (B i) = d0 at di ih ⊢
    -- d * (zi * d1) against d * (zk1 * d0)
    have key : d * (zk1 * d0) = d1 * (zk * d0) + (-c) * x * d0 := by
      rw [← Int.mul_assoc, ob, Int.sub_mul, Int.mul_assoc, Int.neg_mul, Int.neg_mul]
      omega
    have key2 : d * (zi * d1) = d1 * (zi * d) := by
      rw [Int.mul_comm zi d1, Int.mul_left_comm, Int.mul_comm d zi]
    have nn : 0 ≤ (-c) * x * d0 := Int.mul_nonneg (Int.mul_nonneg (by omega) hx) (Int.le_of_lt di)
    rcases ih with q | ⟨q1, q2⟩
    · left
      have := Int.mul_lt_mul_of_pos_left q dk1
      exact lt_cancel dk (by omega)
    · by_cases x0 : x = 0
      · right
        refine ⟨?_, fun j a b => ?_⟩
        · have : d * (zi * d1) = d * (zk1 * d0) := by rw [key, key2, q1, x0]; simp
          exact Int.eq_of_mul_eq_mul_left (by omega) this
        · by_cases q : j = k
          · rw [q, hxx]; exact x0
          · exact q2 j a (by omega)
      · left
        have : 0 < (-c) * x * d0 := Int.mul_pos (Int.mul_pos (by omega) (by omega)) di
        refine lt_cancel dk ?_
        rw [key, key2, q1]
        omega
/-- a name's worth is nothing -/
def Zr (n : Nat) (col : Nat → Nat → Int) (h : Nat → Int) (B : Nat → Nat) (u : Nat) : Prop := ∀ r, r < n → B r = u → sP n col B r h = 0
theorem Zr.step {B : Nat → Nat} {s l u : Nat} (hB : Ok n col h V B) (hp : Pv n col h V B s l) (hx : sP n col B l h = 0) : Zr n col h (up1 B l s) u ↔ Zr n col h B u := by
  have hl := hp.1
  have hd := hB.2.2.1
  have ha := hp.2.2.2.2.1
  constructor
  · intro z r hr e
    by_cases q : r = l
    · rw [q]; exact hx
    · have z1 := z r hr (by unfold up1; rw [if_neg q]; exact e)
      have t := up_row (s := s) hB.2.1 hl (show r < n + 1 by omega) q h
      rw [z1, hx, Int.mul_zero, Int.mul_zero, Int.sub_zero] at t
      exact zero_of_mul ha t.symm
  · intro z r hr e
    by_cases q : r = l
    · rw [q, up_own hl]; exact hx
    · unfold up1 at e
      rw [if_neg q] at e
      have t := up_row (s := s) hB.2.1 hl (show r < n + 1 by omega) q h
      rw [z r hr e, hx, Int.mul_zero, Int.mul_zero, Int.sub_zero] at t
      exact zero_of_mul hd t
theorem Run.zr (R : Run n col h V B s l T) {i j u : Nat} (hj : j ≤ T) (hx : ∀ k, i ≤ k → k < j → sP n col (B k) (l k) h = 0) : ∀ {k : Nat}, i ≤ k → k ≤ j → (Zr n col h (B k) u ↔ Zr n col h (B i) u) := by
  intro k
  induction k with
  | zero =>
    intro a b
    obtain rfl : i = 0 := by omega
    exact Iff.rfl
  | succ k ih =>
    intro a b
    by_cases e : i = k + 1
    · rw [e]
    · rw [(R.2 k (by omega)).2, Zr.step (R.ok (k := k) (by omega)) (R.2 k (by omega)).1 (hx k (by omega) (by omega))]
      exact ih (by omega) (by omega)
end SX
theorem fall {P : Nat → Prop} {a : Nat} : ∀ {b : Nat}, a ≤ b → P a → ¬ P b → ∃ k, a ≤ k ∧ k < b ∧ P k ∧ ¬ P (k + 1) := by
  intro b
  induction b with
  | zero =>
    intro h1 h2 h3
    obtain rfl : a = 0 := by omega
    exact absurd h2 h3
  | succ b ih =>
    intro h1 h2 h3
    by_cases e : a = b + 1
    · rw [e] at h2; exact absurd h2 h3
    · by_cases q : P b
      · exact ⟨b, by omega, by omega, q, h3⟩
      · obtain ⟨k, k1, k2, k3, k4⟩ := ih (by omega) h2 q
        exact ⟨k, k1, by omega, k3, k4⟩
theorem rise {P : Nat → Prop} {a b : Nat} (h1 : a ≤ b) (h2 : ¬ P a) (h3 : P b) : ∃ k, a ≤ k ∧ k < b ∧ ¬ P k ∧ P (k + 1) := by
  obtain ⟨k, k1, k2, k3, k4⟩ := fall (P := fun k => ¬ P k) h1 h2 (fun q => q h3)
  exact ⟨k, k1, k2, k3, Classical.not_not.mp k4⟩
theorem greatest {f : Nat → Nat} {i : Nat} : ∀ {j : Nat}, i < j → ∃ k, i ≤ k ∧ k < j ∧ ∀ k', i ≤ k' → k' < j → f k' ≤ f k := by
  intro j
  induction j with
  | zero => intro h; omega
  | succ j ih =>
    intro h
    by_cases e : i = j
    · exact ⟨j, by omega, by omega, fun k' a b => by rw [show k' = j by omega]; exact Nat.le_refl _⟩
    · obtain ⟨k, k1, k2, k3⟩ := ih (by omega)
      by_cases q : f j ≤ f k
      · exact ⟨k, k1, by omega, fun k' a b => by
          by_cases e2 : k' = j
          · rw [e2]; exact q
          · exact k3 k' a (by omega)⟩
      · exact ⟨j, by omega, by omega, fun k' a b => by
          by_cases e2 : k' = j
          · rw [e2]; exact Nat.le_refl _
          · have := k3 k' a (by omega)
            omega⟩
theorem zs_pos {F : Nat → Int} : ∀ {n : Nat}, 0 < zs F n → ∃ r, r < n ∧ 0 < F r := by
  intro n
  induction n with
  | zero => intro h; exact absurd h (Int.lt_irrefl 0)
  | succ n ih =>
    intro h
    have h : 0 < zs F n + F n := h
    by_cases q : 0 < F n
    · exact ⟨n, by omega, q⟩
    · obtain ⟨r, hr, hF⟩ := ih (by omega)
      exact ⟨r, by omega, hF⟩
