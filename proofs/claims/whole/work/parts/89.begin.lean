/-! the start is a state that is kept -/
theorem ac_f0_ok : Hf ac_f0 := ⟨fun j hj => ⟨j, hj, rfl⟩, fun i j _ _ e => by unfold ac_f0 at e; omega⟩
theorem ac_g0_ok : Hg ac_g0 := ⟨fun j hj => ⟨j, hj, rfl⟩, fun i j _ _ e => by unfold ac_g0 at e; omega⟩
theorem ac_inv {u : List (Nat × Nat × Int32)} (h : ac_finI u = true) : Inv (ac_I u, fun _ _ => 0, am_Rf ac_f0 ac_g0) := by
  unfold ac_finI at h
  simp only [Bool.and_eq_true, decide_eq_true_eq, ac_e, List.all_eq_true, List.mem_range] at h
  obtain ⟨⟨⟨⟨⟨⟨⟨⟨⟨⟨⟨⟨⟨⟨⟨⟨⟨h1, h2⟩, h3⟩, h4⟩, h5⟩, h6⟩, h7⟩, h8⟩, h9⟩, h10⟩, h11⟩, h12⟩, h13⟩, h14⟩, h15⟩, h16⟩, h17⟩, h18⟩ := h
  have z0 : nI 0 = 0 := nI_0
  refine ⟨ac_I u, fun _ _ => 0, ac_f0, ac_g0, rfl, ⟨(ac_I u 1 0).toNatClampNeg, 0, 0, fun _ => 0, ⟨h3, h4.trans h3, Nat.le_of_ble_eq_true h1, Nat.le_of_ble_eq_true h2⟩, ⟨h5.trans z0.symm, h6.trans z0.symm, by omega⟩, fun k hk => absurd hk (Nat.not_lt_zero k), fun i j hi => absurd hi (Nat.not_lt_zero i), ⟨h7, h8⟩, ⟨h9.trans z0.symm, h10.trans z0.symm, by omega⟩, fun p hp => absurd hp (Nat.not_lt_zero p), fun p i hp => absurd hp (Nat.not_lt_zero p), fun p q hp => absurd hp (Nat.not_lt_zero p)⟩, ac_f0_ok, ac_g0_ok, ⟨0, by omega, h11.trans z0.symm, h12.trans z0.symm, fun j hj => absurd hj (Nat.not_lt_zero j)⟩, Or.inl ⟨h13, h14⟩, ⟨0, by omega, h15.trans z0.symm, h16.trans z0.symm, fun k hk => absurd hk (Nat.not_lt_zero k)⟩, fun t ht => ?_, fun s hs => h18 s hs⟩
  obtain ⟨⟨t1, t2⟩, t3⟩ := h17 t ht
  exact ⟨0, by omega, t1.trans z0.symm, Or.inl ⟨t2, t3⟩⟩
def al_agr (R R' : Nat → Nat → Option Nat) (i : Nat) (x : Nat × Nat) : Prop := (x.1 < 12 → ∀ j, j < am_nf x.1 → R' i j = R i j) ∧ (17 ≤ x.1 → ∀ j, j < x.2 → R' i j = R i j)
theorem al_vat {D : va_G} {cy : Nat → ClassId} {α : Nat → Nat} {I : Nat → Nat → Int32} {J : Nat → Nat → Int64} {R R' : Nat → Nat → Option Nat} {i : Nat} {x : Nat × Nat} {H : Heap} (hR : al_agr R R' i x) (h : va_at D am_cl (α i, am_cell cy α (I, J, R) i x) H) : va_at D am_cl (α i, am_cell cy α (I, J, R') i x) H := by
  obtain ⟨k, n⟩ := x
  by_cases h1 : k < 12
  · rw [am_cell_O h1] at h ⊢
    have e : (List.range (am_nf k)).map (am_fv α (I, J, R') i k) = (List.range (am_nf k)).map (am_fv α (I, J, R) i k) := by
      apply List.map_congr_left
      intro j hj
      unfold am_fv
      dsimp only
      rw [hR.1 h1 j (List.mem_range.mp hj)]
    rw [e]
    exact h
  · by_cases h2 : 17 ≤ k
    · rw [am_cell_R h2] at h ⊢
      have e : arrV (cy k) n (fun j => va_rf ((R' i j).map α)) = arrV (cy k) n (fun j => va_rf ((R i j).map α)) := ac_arrV (fun j hj => by rw [hR.2 h2 j hj])
      show H[α i]? = some (arrV (cy k) n (fun j => va_rf ((R' i j).map α)))
      rw [e]
      exact h
    · have e : am_cell cy α (I, J, R') i (k, n) = am_cell cy α (I, J, R) i (k, n) := by
        unfold am_cell
        dsimp only
        rw [if_neg h1, if_neg h1, if_neg h2, if_neg h2]
      rw [e]
      exact h
theorem al_hr_eq {D : va_G} {cy : Nat → ClassId} {α adV : Nat → Nat} {B0 n : Nat} {I : Nat → Nat → Int32} {J : Nat → Nat → Int64} {R R' : Nat → Nat → Option Nat} {s : State} {H : Heap} (hR : ∀ i x, i < n → am_sh[i]? = some x → al_agr R R' i x) (hh : am_hr D cy α adV B0 (am_sh.take n) (I, J, R) s H) : am_hr D cy α adV B0 (am_sh.take n) (I, J, R') s H := by
  obtain ⟨h1, h2, h3⟩ := hh
  refine ⟨fun k q hq => ?_, ⟨fun i j p q hp hq e => ?_, fun k q hq => ?_⟩, h3⟩
  · obtain ⟨x, a1, a2, rfl⟩ := ac_get hq
    exact al_vat (hR k x a1 a2) (h1 k _ (ac_ws_at a1 a2))
  · obtain ⟨x, a1, a2, rfl⟩ := ac_get hp
    obtain ⟨y, b1, b2, rfl⟩ := ac_get hq
    exact h2.1 i j _ _ (ac_ws_at a1 a2) (ac_ws_at b1 b2) e
  · obtain ⟨x, a1, a2, rfl⟩ := ac_get hq
    exact h2.2 k (α k, am_cell cy α (I, J, R) k x) (ac_ws_at a1 a2)
theorem ac_finR_of {z : List (Nat × Nat × Nat)} (h : ac_finR z = true) : ∀ i x, i < 255 → am_sh[i]? = some x → al_agr (ac_R z) (am_Rf ac_f0 ac_g0) i x := by
  intro i x hi hx
  obtain ⟨k, n⟩ := x
  unfold ac_finR at h
  have h0 := List.all_eq_true.mp h i (List.mem_range.mpr hi)
  rw [hx] at h0
  dsimp only at h0
  refine ⟨fun h1 j hj => ?_, fun h2 j hj => ?_⟩
  · have e : Nat.blt k 12 = true := Nat.ble_eq_true_of_le h1
    rw [e] at h0
    exact (of_decide_eq_true (List.all_eq_true.mp h0 j (List.mem_range.mpr hj))).symm
  · have e : Nat.blt k 12 = false := by
      cases hb : Nat.blt k 12 with
      | false => rfl
      | true =>
        have h3 : k + 1 ≤ 12 := Nat.le_of_ble_eq_true hb
        have h4 : 17 ≤ k := h2
        omega
    have e2 : Nat.blt 16 k = true := Nat.ble_eq_true_of_le h2
    rw [e] at h0
    dsimp only at h0
    rw [e2] at h0
    exact (of_decide_eq_true (List.all_eq_true.mp h0 j (List.mem_range.mpr hj))).symm
