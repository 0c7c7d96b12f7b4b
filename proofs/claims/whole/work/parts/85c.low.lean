/-! what the checks of the interpreter say -/
theorem ac_loS_of {n : Nat} : ∀ {st : List Value}, ac_loS n st = true → ac_lowS n st
  | [], _, i, h => by cases h
  | v :: r, hs, i, h => by
    cases v with
    | ref j =>
      have hs' : (Nat.ble (j + 1) n && ac_loS n r) = true := hs
      rw [Bool.and_eq_true] at hs'
      rcases List.mem_cons.mp h with e | h
      · injection e with e
        subst e
        exact Nat.le_of_ble_eq_true hs'.1
      · exact ac_loS_of hs'.2 i h
    | _ =>
      rcases List.mem_cons.mp h with e | h
      · cases e
      · exact ac_loS_of (st := r) hs i h
theorem ac_loL_of {n : Nat} : ∀ {ls : am_L}, ac_loL n ls = true → ac_lowL n ls
  | [], _, i, h => by cases h
  | none :: r, hs, i, h => by
    rcases List.mem_cons.mp h with e | h
    · cases e
    · exact ac_loL_of (ls := r) hs i h
  | some v :: r, hs, i, h => by
    cases v with
    | ref j =>
      have hs' : (Nat.ble (j + 1) n && ac_loL n r) = true := hs
      rw [Bool.and_eq_true] at hs'
      rcases List.mem_cons.mp h with e | h
      · injection e with e
        injection e with e
        subst e
        exact Nat.le_of_ble_eq_true hs'.1
      · exact ac_loL_of hs'.2 i h
    | _ =>
      rcases List.mem_cons.mp h with e | h
      · cases e
      · exact ac_loL_of (ls := r) hs i h
theorem ac_loR_of {n : Nat} : ∀ {u : List (Nat × Nat × Nat)}, ac_loR n u = true → ∀ i k j, ac_R u i k = some j → i < n ∧ j < n
  | [], _, i, k, j, h => by cases h
  | (a, b, c) :: r, hs, i, k, j, h => by
    have hs' : (Nat.ble (a + 1) n && Nat.ble (c + 1) n && ac_loR n r) = true := hs
    rw [Bool.and_eq_true, Bool.and_eq_true] at hs'
    have h' : (if i = a ∧ k = b then some c else ac_R r i k) = some j := h
    by_cases e : i = a ∧ k = b
    · rw [if_pos e] at h'
      have e2 : c = j := Option.some.inj h'
      have h1 := Nat.le_of_ble_eq_true hs'.1.1
      have h2 := Nat.le_of_ble_eq_true hs'.1.2
      omega
    · rw [if_neg e] at h'
      exact ac_loR_of hs'.2 i k j h'
theorem ac_loI_of {n : Nat} : ∀ {u : List (Nat × Nat × Int32)}, ac_loI n u = true → ∀ i k, n ≤ i → ac_I u i k = 0
  | [], _, _, _, _ => rfl
  | (a, b, c) :: r, hs, i, k, hi => by
    have hs' : (Nat.ble (a + 1) n && ac_loI n r) = true := hs
    rw [Bool.and_eq_true] at hs'
    have h1 := Nat.le_of_ble_eq_true hs'.1
    show (if i = a ∧ k = b then c else ac_I r i k) = 0
    rw [if_neg (by omega)]
    exact ac_loI_of hs'.2 i k hi
theorem ac_lo_of {n : Nat} {ls : am_L} {st : List Value} {w : ac_W} (h : ac_lo n ls st w = true) : ac_lowL n ls ∧ ac_lowS n st ∧ ac_low n (ac_sg w) ∧ (∀ i k, n ≤ i → (ac_sg w).1 i k = 0) ∧ ∀ i k, n ≤ i → (ac_sg w).2.2 i k = none := by
  unfold ac_lo at h
  rw [Bool.and_eq_true, Bool.and_eq_true, Bool.and_eq_true] at h
  obtain ⟨⟨⟨h1, h2⟩, h3⟩, h4⟩ := h
  refine ⟨ac_loL_of h1, ac_loS_of h2, fun i k j _ e => (ac_loR_of h3 i k j e).2, ac_loI_of h4, fun i k hi => ?_⟩
  cases e : (ac_sg w).2.2 i k with
  | none => rfl
  | some j =>
    have := (ac_loR_of h3 i k j e).1
    omega
