/-! bases: every vector is told by them; pivots, changes of places -/
def Good (m : Nat) (b : Nat → Nat → Int) : Prop := dt m b ≠ 0 ∧ ∀ (a : Nat → Int) (k : Nat), k < m → dt m b * a k = zs (fun s => dt m (vs b s a) * b s k) m
/-- Cramer: what tells a vector is determinants -/
theorem cramer {m s : Nat} {b : Nat → Nat → Int} {T a : Nat → Int} (h0 : dt m b ≠ 0) (hs : s < m) (h : ∀ k, k < m → dt m b * a k = zs (fun j => T j * b j k) m) : T s = dt m (vs b s a) := by
  have e1 := dt_mul hs b a (dt m b)
  have e2 : dt m (vs b s (fun k => dt m b * a k)) = dt m (vs b s (fun k => zs (fun j => T j * b j k) m)) := by
    refine dt_congr m _ _ (fun i _ k hk => ?_)
    by_cases q : i = s
    · subst q; rw [vs_eq, vs_eq]; exact h k hk
    · rw [vs_ne q, vs_ne q]
  rw [e2, dt_zs hs b b T m, zs_one (s := s) hs, vs_id] at e1
  · rw [Int.mul_comm] at e1
    exact Int.eq_of_mul_eq_mul_left h0 e1
  · intro i hi hn
    have : dt m (vs b s (b i)) = 0 := dt_alt (s := s) (t := i) hs hi (fun q => hn q.symm) (by rw [vs_eq, vs_ne hn])
    rw [this, Int.mul_zero]
theorem good_id (m : Nat) : Good m e1v := by
  have h0 : dt m e1v ≠ 0 := by rw [dt_id]; decide
  have key : ∀ (a : Nat → Int) (k : Nat), k < m → dt m e1v * a k = zs (fun j => a j * e1v j k) m := by
    intro a k hk
    rw [dt_id, Int.one_mul, zs_one (s := k) hk]
    · have : e1v k k = 1 := if_pos rfl
      rw [this, Int.mul_one]
    · intro i _ hn
      have : e1v i k = 0 := if_neg hn
      rw [this, Int.mul_zero]
  refine ⟨h0, fun a k hk => ?_⟩
  rw [key a k hk]
  refine zs_congr (fun s hs => ?_)
  rw [cramer h0 hs (key a)]
/-- a vector's own determinants: those of a basis vector -/
theorem cf_own {m s r : Nat} {b : Nat → Nat → Int} (hs : s < m) (hr : r < m) : dt m (vs b r (b s)) = if r = s then dt m b else 0 := by
  by_cases e : r = s
  · subst e
    rw [if_pos rfl, vs_id]
  · rw [if_neg e]
    exact dt_alt (s := r) (t := s) hr hs e (by rw [vs_eq, vs_ne (fun q => e q.symm)])
/-- a pivot's other rows -/
theorem piv_row {m l r : Nat} {b : Nat → Nat → Int} (hG : Good m b) (hl : l < m) (hr : r < m) (hne : r ≠ l) (ak a : Nat → Int) : dt m b * dt m (vs (vs b l ak) r a) = dt m (vs b l ak) * dt m (vs b r a) - dt m (vs b r ak) * dt m (vs b l a) := by
  have e1 := dt_mul hr (vs b l ak) a (dt m b)
  have e2 : dt m (vs (vs b l ak) r (fun k => dt m b * a k)) = dt m (vs (vs b l ak) r (fun k => zs (fun j => dt m (vs b j a) * b j k) m)) := by
    refine dt_congr m _ _ (fun i _ k hk => ?_)
    by_cases q : i = r
    · subst q; rw [vs_eq, vs_eq]; exact hG.2 a k hk
    · rw [vs_ne q, vs_ne q]
  rw [e2, dt_zs hr (vs b l ak) b (fun j => dt m (vs b j a)) m] at e1
  rw [← e1]
  have t1 : dt m (vs (vs b l ak) r (b r)) = dt m (vs b l ak) := by
    congr 1
    rw [vs_com (fun q => hne q.symm), vs_id]
  have t2 : dt m (vs (vs b l ak) r (b l)) = - dt m (vs b r ak) := by
    rw [dt_swap hl hr (fun q => hne q.symm), vs_id]
  have two : ∀ F : Nat → Int, (∀ i, i < m → i ≠ l → i ≠ r → F i = 0) → zs F m = F l + F r := by
    intro F hF
    rcases Nat.lt_or_ge l r with q | q
    · exact zs_two q hr hF
    · rw [zs_two (s := r) (t := l) (by omega) hl (fun i hi h1 h2 => hF i hi h2 h1), Int.add_comm]
  rw [two]
  · rw [t1, t2, Int.mul_neg, Int.mul_comm (dt m (vs b l a)), Int.mul_comm (dt m (vs b r a))]
    omega
  · intro i hi h1 h2
    have : dt m (vs (vs b l ak) r (b i)) = 0 := dt_alt (s := r) (t := i) hr hi (fun q => h2 q.symm) (by rw [vs_eq, vs_ne h2, vs_ne h1])
    rw [this, Int.mul_zero]
theorem piv_own {m l : Nat} {b : Nat → Nat → Int} (ak a : Nat → Int) : dt m (vs (vs b l ak) l a) = dt m (vs b l a) := by rw [vs_vs]
theorem zs_set {F G : Nat → Int} {l n : Nat} (hl : l < n) (h : ∀ i, i < n → i ≠ l → F i = G i) : zs F n = zs G n - G l + F l := by
  induction n with
  | zero => omega
  | succ n ih =>
    show zs F n + F n = zs G n + G n - G l + F l
    by_cases e : l = n
    · subst e
      rw [zs_congr (fun i hi => h i (by omega) (by omega))]
      omega
    · rw [ih (by omega) (fun i hi => h i (by omega)), h n (by omega) (by omega)]
      omega
theorem good_piv {m l : Nat} {b : Nat → Nat → Int} (hG : Good m b) (hl : l < m) (ak : Nat → Int) (hp : dt m (vs b l ak) ≠ 0) : Good m (vs b l ak) := by
  refine ⟨hp, fun a k hk => ?_⟩
  have ha := hG.2 a k hk
  have hA := hG.2 ak k hk
  refine Int.eq_of_mul_eq_mul_left hG.1 ?_
  -- all times dt m b
  have e1 : dt m b * zs (fun s => dt m (vs (vs b l ak) s a) * vs b l ak s k) m = zs (fun s => dt m b * (dt m (vs (vs b l ak) s a) * vs b l ak s k)) m := (zs_mul m).symm
  have e2 : zs (fun s => dt m b * (dt m (vs (vs b l ak) s a) * vs b l ak s k)) m = zs (fun s => dt m (vs b l ak) * (dt m (vs b s a) * b s k) + (- dt m (vs b l a)) * (dt m (vs b s ak) * b s k)) m - (dt m (vs b l ak) * (dt m (vs b l a) * b l k) + (- dt m (vs b l a)) * (dt m (vs b l ak) * b l k)) + dt m b * (dt m (vs b l a) * ak k) := by
    rw [zs_set (F := fun s => dt m b * (dt m (vs (vs b l ak) s a) * vs b l ak s k)) (G := fun s => dt m (vs b l ak) * (dt m (vs b s a) * b s k) + (- dt m (vs b l a)) * (dt m (vs b s ak) * b s k)) hl]
    · rw [piv_own, vs_eq]
    · intro i hi hn
      show dt m b * (dt m (vs (vs b l ak) i a) * vs b l ak i k) = dt m (vs b l ak) * (dt m (vs b i a) * b i k) + (- dt m (vs b l a)) * (dt m (vs b i ak) * b i k)
      rw [vs_ne hn, ← Int.mul_assoc, piv_row hG hl hi hn ak a, Int.sub_mul, Int.mul_assoc, Int.neg_mul, Int.mul_comm (dt m (vs b i ak)) (dt m (vs b l a)), Int.mul_assoc]
      omega
  rw [e1, e2, zs_lin, ← ha, ← hA, Int.neg_mul, Int.neg_mul]
  generalize dt m (vs b l ak) = p
  generalize dt m (vs b l a) = t
  generalize dt m b = d
  rw [Int.mul_left_comm p t (b l k), Int.mul_left_comm t d (ak k), Int.mul_left_comm p d (a k)]
  omega
/-- two basis vectors change places, one with its sign changed -/
def swn (b : Nat → Nat → Int) (s t : Nat) : Nat → Nat → Int := vs (vs b s (b t)) t (fun k => (-1) * b s k)
theorem dt_swn {m s t : Nat} {b : Nat → Nat → Int} (hs : s < m) (ht : t < m) (hst : s ≠ t) : dt m (swn b s t) = dt m b := by
  unfold swn
  rw [dt_mul ht, dt_swap hs ht hst, vs_id, vs_id]
  omega
theorem swn_cf {m s t r : Nat} {b : Nat → Nat → Int} (hs : s < m) (ht : t < m) (hst : s ≠ t) (hr : r < m) (a : Nat → Int) : dt m (vs (swn b s t) r a) = if r = s then dt m (vs b t a) else if r = t then - dt m (vs b s a) else dt m (vs b r a) := by
  unfold swn
  by_cases h1 : r = s
  · subst h1
    rw [if_pos rfl, vs_com (fun q => hst q.symm), vs_vs, vs_com hst]
    have e := dt_mul hr (vs b t a) (b r) (-1)
    have e2 : dt m (vs (vs b r a) t (fun k => (-1) * b r k)) = (-1) * dt m (vs (vs b r a) t (b r)) := dt_mul ht _ _ _
    rw [vs_com (fun q => hst q.symm), e2, dt_swap hs ht hst, vs_id]
    omega
  · rw [if_neg h1]
    by_cases h2 : r = t
    · subst h2
      rw [if_pos rfl, vs_vs, dt_swap hs hr hst, vs_com hst, vs_id]
    · rw [if_neg h2]
      have e : vs (vs (vs b s (b t)) t (fun k => (-1) * b s k)) r a = vs (vs (vs b r a) s (b t)) t (fun k => (-1) * b s k) := by
        rw [vs_com (fun q => h2 q.symm), vs_com (fun q => h1 q.symm)]
      have e3 : dt m (vs (vs (vs b r a) s (b t)) t (fun k => (-1) * b s k)) = (-1) * dt m (vs (vs (vs b r a) s (b t)) t (b s)) := dt_mul ht _ _ _
      have e4 : vs (vs (vs b r a) s (b s)) t (b t) = vs b r a := by
        rw [vs_com h1, vs_id, vs_com h2, vs_id]
      rw [e, e3, dt_swap hs ht hst, e4]
      omega
theorem good_swn {m s t : Nat} {b : Nat → Nat → Int} (hG : Good m b) (hs : s < m) (ht : t < m) (hst : s ≠ t) : Good m (swn b s t) := by
  refine ⟨by rw [dt_swn hs ht hst]; exact hG.1, fun a k hk => ?_⟩
  rw [dt_swn hs ht hst, hG.2 a k hk]
  have e1 : swn b s t s = b t := by unfold swn; rw [vs_ne hst, vs_eq]
  have e2 : swn b s t t = fun k => (-1) * b s k := by unfold swn; rw [vs_eq]
  have e3 : ∀ i, i ≠ s → i ≠ t → swn b s t i = b i := fun i h1 h2 => by unfold swn; rw [vs_ne h2, vs_ne h1]
  have step : zs (fun i => dt m (vs (swn b s t) i a) * swn b s t i k) m = zs (fun i => if i = s then dt m (vs b t a) * b t k else if i = t then dt m (vs b s a) * b s k else dt m (vs b i a) * b i k) m := by
    refine zs_congr (fun i hi => ?_)
    rw [swn_cf hs ht hst hi]
    by_cases h1 : i = s
    · subst h1
      rw [if_pos rfl, if_pos rfl, e1]
    · rw [if_neg h1, if_neg h1]
      by_cases h2 : i = t
      · subst h2
        rw [if_pos rfl, if_pos rfl, e2, Int.neg_mul]
        show - (dt m (vs b s a) * ((-1) * b s k)) = _
        rw [Int.mul_left_comm]
        omega
      · rw [if_neg h2, if_neg h2, e3 i h1 h2]
  rw [step]
  have a1 := zs_set (F := fun i => if i = s then dt m (vs b t a) * b t k else if i = t then dt m (vs b s a) * b s k else dt m (vs b i a) * b i k) (G := fun i => if i = t then dt m (vs b s a) * b s k else dt m (vs b i a) * b i k) hs (fun i _ hn => by show (if i = s then _ else _) = _; rw [if_neg hn])
  have a2 := zs_set (F := fun i => if i = t then dt m (vs b s a) * b s k else dt m (vs b i a) * b i k) (G := fun i => dt m (vs b i a) * b i k) ht (fun i _ hn => by show (if i = t then _ else _) = _; rw [if_neg hn])
  rw [if_pos rfl, if_neg hst] at a1
  rw [if_pos rfl] at a2
  omega
