/-! reading and writing locals -/
theorem ac_lget_of {v : Value} {K : Value → Prop} (h : K v) : ∀ {ls : am_L} {i : Nat}, ls[i]? = some (some v) → am_lget ls i K
  | [], _, e => by cases e
  | x :: xs, 0, e => by
    have e1 : x = some v := Option.some.inj e
    subst e1
    exact h
  | x :: xs, i + 1, e => ac_lget_of h (ls := xs) (i := i) e
theorem ac_lset_of {x : Int32} : ∀ {ls : am_L} {i : Nat} {K : am_L → Prop}, ac_nlg ls = true → i < ls.length → K (ls.set i (some (.int x))) → am_lset ls i (.int x) K
  | [], _, _, _, h, _ => absurd h (Nat.not_lt_zero _)
  | y :: ys, 0, _, _, _, h => h
  | y :: ys, i + 1, K, hn, hi, h => by
    have hi' : i < ys.length := by simpa using hi
    have hn' : ac_nlg ys = true ∧ (∀ z, y ≠ some (.long z)) ∧ ∀ z, y ≠ some (.double z) := by
      unfold ac_nlg at hn
      split at hn
      · rename_i e
        cases e
      · cases hn
      · cases hn
      · rename_i e1 e2 e3
        injection e3 with e4 e5
        subst e4
        subst e5
        exact ⟨hn, fun z e => e1 z e, fun z e => e2 z e⟩
    refine ac_lset_of (ls := ys) (i := i) hn'.1 hi' ?_
    unfold am_cut
    split
    · split
      · exact absurd rfl (hn'.2.1 _)
      · exact absurd rfl (hn'.2.2 _)
      · exact h
    · exact h
