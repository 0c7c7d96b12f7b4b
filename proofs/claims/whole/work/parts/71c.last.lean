/-! the row that goes; the last basis -/
/-- a worth over its share, then a name: no greater -/
def Ahe (x a : Int) (p : Nat) (x' a' : Int) (p' : Nat) : Prop := x * a' ≤ x' * a ∧ (x * a' = x' * a → p ≤ p')
theorem Ahe.rf (x a : Int) (p : Nat) : Ahe x a p x a p := ⟨Int.le_refl _, fun _ => Nat.le_refl _⟩
theorem Ahe.tr {x a x' a' x'' a'' : Int} {p p' p'' : Nat} (ha : 0 < a) (ha' : 0 < a') (ha'' : 0 < a'') (h1 : Ahe x a p x' a' p') (h2 : Ahe x' a' p' x'' a'' p'') : Ahe x a p x'' a'' p'' := by
  obtain ⟨u1, v1⟩ := h1
  obtain ⟨u2, v2⟩ := h2
  have e1 : a' * (x * a'') = a'' * (x * a') := by rw [Int.mul_comm x a'', Int.mul_left_comm, Int.mul_comm a' x]
  have e2 : a' * (x'' * a) = a * (x'' * a') := by rw [Int.mul_comm x'' a, Int.mul_left_comm, Int.mul_comm a' x'']
  have e3 : a'' * (x' * a) = a * (x' * a'') := by rw [Int.mul_comm x' a, Int.mul_left_comm, Int.mul_comm a'' x']
  have w1 := Int.mul_le_mul_of_nonneg_left u1 (Int.le_of_lt ha'')
  have w2 := Int.mul_le_mul_of_nonneg_left u2 (Int.le_of_lt ha)
  refine ⟨le_cancel ha' (by omega), fun e => ?_⟩
  have e4 : a' * (x * a'') = a' * (x'' * a) := by rw [e]
  have f1 : x * a' = x' * a := Int.eq_of_mul_eq_mul_left (show a'' ≠ 0 by omega) (by omega)
  have f2 : x' * a'' = x'' * a' := Int.eq_of_mul_eq_mul_left (show a ≠ 0 by omega) (by omega)
  have := v1 f1
  have := v2 f2
  omega
/-- of any two one is ahead -/
theorem Ahe.of {x a x' a' : Int} {p p' : Nat} (h : ¬ (x' * a < x * a' ∨ (x' * a = x * a' ∧ p' < p))) : Ahe x a p x' a' p' := by
  refine ⟨?_, fun e => ?_⟩
  · by_cases q : x' * a < x * a'
    · exact absurd (Or.inl q) h
    · omega
  · by_cases q : p' < p
    · exact absurd (Or.inr ⟨e.symm, q⟩) h
    · omega
theorem Ahe.of2 {x a x' a' : Int} {p p' : Nat} (h : x * a' < x' * a ∨ (x * a' = x' * a ∧ p < p')) : Ahe x a p x' a' p' := by
  rcases h with q | ⟨q1, q2⟩
  · exact ⟨by omega, fun e => by omega⟩
  · exact ⟨by omega, fun _ => by omega⟩
theorem first_row {x a : Nat → Int} {p : Nat → Nat} : ∀ {n : Nat}, (∃ r, r < n ∧ 0 < a r) → ∃ l, l < n ∧ 0 < a l ∧ ∀ r, r < n → 0 < a r → Ahe (x l) (a l) (p l) (x r) (a r) (p r) := by
  intro n
  induction n with
  | zero => rintro ⟨r, h, _⟩; omega
  | succ n ih =>
    rintro ⟨r, hr, har⟩
    by_cases q : ∃ r, r < n ∧ 0 < a r
    · obtain ⟨l, l1, l2, l3⟩ := ih q
      by_cases c : 0 < a n ∧ (x n * a l < x l * a n ∨ (x n * a l = x l * a n ∧ p n < p l))
      · refine ⟨n, by omega, c.1, fun r hr h => ?_⟩
        by_cases e : r = n
        · rw [e]; exact Ahe.rf _ _ _
        · exact Ahe.tr c.1 l2 h (Ahe.of2 c.2) (l3 r (by omega) h)
      · refine ⟨l, by omega, l2, fun r hr h => ?_⟩
        by_cases e : r = n
        · subst e
          exact Ahe.of (fun w => c ⟨h, w⟩)
        · exact l3 r (by omega) h
    · have e : r = n := by
        by_cases e : r = n
        · exact e
        · exact absurd ⟨r, by omega, har⟩ q
      subst e
      refine ⟨r, by omega, har, fun r' hr' h => ?_⟩
      by_cases e : r' = r
      · rw [e]; exact Ahe.rf _ _ _
      · exact absurd ⟨r', by omega, h⟩ q
theorem least_of {Q : Nat → Prop} : ∀ {u : Nat}, Q u → ∃ s, Q s ∧ ∀ v, Q v → s ≤ v := by
  intro u
  induction u using Nat.strongRecOn with
  | ind u ih =>
    intro hu
    by_cases q : ∃ v, v < u ∧ Q v
    · obtain ⟨v, hv, hq⟩ := q
      exact ih v hv hq
    · refine ⟨u, hu, fun v hv => ?_⟩
      rcases Nat.lt_or_ge v u with w | w
      · exact absurd ⟨v, w, hv⟩ q
      · exact w
section SX
variable {n : Nat} {col : Nat → Nat → Int} {h : Nat → Int} {V : Nat → Prop}
/-- nothing more to come -/
def Fin0 (n : Nat) (col : Nat → Nat → Int) (V : Nat → Prop) (B : Nat → Nat) : Prop := ∀ u, V u → 0 ≤ sP n col B n (col u)
theorem next_turn {B : Nat → Nat} (hB : Ok n col h V B) (h1 : ∀ u, V u → ∀ k, k < n → 0 ≤ col u k) (h2 : ∀ u, V u → ∃ k, k < n ∧ 0 < col u k) (hF : ¬ Fin0 n col V B) : ∃ s l, Pv n col h V B s l := by
  have ex : ∃ u, V u ∧ sP n col B n (col u) < 0 := by
    refine Classical.byContradiction (fun q => hF (fun u hu => ?_))
    by_cases w : 0 ≤ sP n col B n (col u)
    · exact w
    · exact absurd ⟨u, hu, by omega⟩ q
  obtain ⟨u, hu⟩ := ex
  obtain ⟨s, ⟨s1, s2⟩, s3⟩ := least_of (Q := fun u => V u ∧ sP n col B n (col u) < 0) hu
  obtain ⟨l, l1, l2, l3⟩ := first_row (x := fun r => sP n col B r h) (a := fun r => sP n col B r (col s)) (p := B) (bears1 hB s1 h1 h2)
  exact ⟨s, l, l1, s1, s2, fun u a b => s3 u ⟨a, b⟩, l2, fun r hr har => l3 r hr har⟩
theorem Run.more {B : Nat → Nat → Nat} {s l : Nat → Nat} {T : Nat} (R : Run n col h V B s l T) {s' l' : Nat} (hp : Pv n col h V (B T) s' l') : Run n col h V (fun k => if k ≤ T then B k else up1 (B T) l' s') (fun k => if k < T then s k else s') (fun k => if k < T then l k else l') (T + 1) := by
  refine ⟨by simpa using R.1, fun k hk => ?_⟩
  by_cases e : k = T
  · subst e
    simp only [Nat.le_refl, if_true, Nat.lt_irrefl, if_false, show ¬ (k + 1 ≤ k) by omega]
    exact ⟨hp, trivial⟩
  · simp only [show k ≤ T by omega, show k + 1 ≤ T by omega, show k < T by omega, if_true]
    exact R.2 k (by omega)
theorem last_basis {B0 : Nat → Nat} (hn : n ≤ 7) (hV : ∀ u, V u → u < 19) (hB : Ok n col h V B0) (h1 : ∀ u, V u → ∀ k, k < n → 0 ≤ col u k) (h2 : ∀ u, V u → ∃ k, k < n ∧ 0 < col u k) : ∃ B, Ok n col h V B ∧ Fin0 n col V B := by
  refine Classical.byContradiction (fun q => ?_)
  have all : ∀ T, ∃ B s l, Run n col h V B s l T := by
    intro T
    induction T with
    | zero => exact ⟨fun _ => B0, fun _ => 0, fun _ => 0, hB, fun k hk => by omega⟩
    | succ T ih =>
      obtain ⟨B, s, l, R⟩ := ih
      have O := R.ok (Nat.le_refl T)
      obtain ⟨s', l', hp⟩ := next_turn O h1 h2 (fun w => q ⟨_, O, w⟩)
      exact ⟨_, _, _, R.more hp⟩
  obtain ⟨B, s, l, R⟩ := all 94184
  have := R.short hn hV
  omega
end SX
