/-! each class can be made -/
theorem ac_mk {ci : Nat} {C : String} {T : u_T} {N : Nat} (h : am_cl[ci]? = some (C, T, N)) : Cond.instantiable C N ∈ am_TS ∧ Cond.initialized C ∈ am_TS := by
  match ci, h with
  | 0, h => cases h; exact ⟨am_w_in (c := 0) (i := 87) (by decide +kernel), am_w_in (c := 0) (i := 4) (by decide +kernel)⟩
  | 1, h => cases h; exact ⟨am_w_in (c := 0) (i := 151) (by decide +kernel), am_w_in (c := 0) (i := 7) (by decide +kernel)⟩
  | 2, h => cases h; exact ⟨am_w_in (c := 0) (i := 192) (by decide +kernel), am_w_in (c := 0) (i := 9) (by decide +kernel)⟩
  | 3, h => cases h; exact ⟨am_w_in (c := 0) (i := 35) (by decide +kernel), am_w_in (c := 0) (i := 3) (by decide +kernel)⟩
  | 4, h => cases h; exact ⟨am_w_in (c := 0) (i := 167) (by decide +kernel), am_w_in (c := 0) (i := 8) (by decide +kernel)⟩
  | 5, h => cases h; exact ⟨am_w_in (c := 0) (i := 104) (by decide +kernel), am_w_in (c := 0) (i := 5) (by decide +kernel)⟩
  | 6, h => cases h; exact ⟨am_w_in (c := 0) (i := 219) (by decide +kernel), am_w_in (c := 0) (i := 10) (by decide +kernel)⟩
  | 7, h => cases h; exact ⟨am_w_in (c := 0) (i := 234) (by decide +kernel), am_w_in (c := 0) (i := 11) (by decide +kernel)⟩
  | 8, h => cases h; exact ⟨am_w_in (c := 0) (i := 29) (by decide +kernel), am_w_in (c := 0) (i := 2) (by decide +kernel)⟩
  | 9, h => cases h; exact ⟨am_w_in (c := 0) (i := 110) (by decide +kernel), am_w_in (c := 0) (i := 6) (by decide +kernel)⟩
  | 10, h => cases h; exact ⟨am_w_in (c := 0) (i := 21) (by decide +kernel), am_w_in (c := 0) (i := 1) (by decide +kernel)⟩
  | 11, h => cases h; exact ⟨am_w_in (c := 3) (i := 140) (by decide +kernel), am_w_in (c := 0) (i := 12) (by decide +kernel)⟩
  | n + 12, h => simp at h
theorem ac_dv {ci : Nat} (h : ci < 12) : ∀ j, j < am_nf ci → defaultValue (am_ft ci j) = if am_isR (am_ft ci j) = true then .null else .int 0 := (by decide +kernel : ∀ ci, ci < 12 → ∀ j, j < am_nf ci → defaultValue (am_ft ci j) = if am_isR (am_ft ci j) = true then .null else .int 0) ci h
