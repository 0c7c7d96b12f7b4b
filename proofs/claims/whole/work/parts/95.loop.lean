/-! the law's loop, round by round -/
theorem al_y {L k : Nat} (hL : L ≤ 3072) (hk : 6 * k ≤ 3072) (h : ¬ nI L - 6 < nI (6 * k)) : 6 * k + 6 ≤ L := by
  by_cases h6 : L < 6
  · have h1 : nI L - 6 < 0 := (by decide +kernel : ∀ L, L < 6 → nI L - 6 < 0) L h6
    have h2 : 0 ≤ nI (6 * k) := nI_pos' (by omega)
    exact absurd (Int32.lt_of_lt_of_le h1 h2) h
  · have e : nI L - 6 = nI (L - 6) := by
      have h1 : nI (L - 6) + 6 = nI L := by
        have h2 := nI_add (L - 6) 6
        rw [show L - 6 + 6 = L by omega] at h2
        exact h2
      rw [← h1]
      exact Int32.add_sub_cancel _ _
    rw [e, nI_ltI (by omega) (by omega)] at h
    omega
section LOOP
variable {X : al_T} {L : Nat} {xs : Nat → Int32}
set_option maxRecDepth 20000 in
theorem al_inc {k : Nat} {σ : am_S} (A : al_ok X L xs) (ih : al_run X 255 18 (al_ls (6 * (k + 1))) [] σ) : al_run X 255 970 (al_ls (6 * k)) [] σ := by
  obtain ⟨I, J, R⟩ := σ
  refine al_jmp A ?_
  have e : nI (6 * k) + 6 = nI (6 * (k + 1)) := nI_add (6 * k) 6
  show al_run X 255 18 [some (.ref am_SC), some (.ref 0), some (.ref 236), some (.int (nI (6 * k) + 6))] [] (I, J, R)
  rw [e]
  exact ih
set_option maxRecDepth 20000 in
theorem al_over {k : Nat} {σ : am_S} (A : al_ok X L xs) : al_run X 255 976 (al_ls (6 * k)) [] σ := by
  obtain ⟨I, J, R⟩ := σ
  exact al_jmp A ⟨Or.inr rfl, rfl⟩
set_option maxRecDepth 20000 in
theorem al_one {k : Nat} {σ : am_S} (A : al_ok X L xs) (hL : L ≤ 3072) (hk : 6 * k ≤ 3072) (hI : Inv σ) (ih : 6 * k + 6 ≤ L → ∀ σ', Inv σ' → al_run X 255 18 (al_ls (6 * (k + 1))) [] σ') : al_run X 255 18 (al_ls (6 * k)) [] σ := by
  obtain ⟨I, J, R⟩ := σ
  refine al_jmp A ⟨rfl, fun _ => al_over A, fun hle => ?_⟩
  have h6 := al_y hL hk hle
  have ih2 : ∀ σ', Inv σ' → al_run X 255 970 (al_ls (6 * k)) [] σ' := fun σ' h => al_inc A (ih h6 σ' h)
  exact ⟨rfl, 6 * k, by omega, rfl, al_jmp A ⟨fun _ => al_k_group A hI h6 ih2, fun _ => ⟨fun _ => al_k_element A hI h6 ih2, fun _ => ⟨fun _ => al_k_count A hI h6 ih2, fun _ => ⟨fun _ => al_k_load A hI h6 ih2, fun _ => ⟨fun _ => al_k_plan A hI h6 ih2, fun _ => ⟨fun _ => al_k_standing A hI h6 ih2, fun _ => ⟨fun _ => al_k_stands A hI h6 ih2, fun _ => ⟨fun _ => al_k_free A hI h6 ih2, fun _ => ⟨fun _ => al_k_probe A hI h6 ih2, fun _ => ⟨fun _ => al_k_add A hI h6 ih2, fun _ => ⟨fun _ => al_k_out A hI h6 ih2, fun _ => ⟨fun _ => al_k_size A hI h6 ih2, fun _ => ⟨fun _ => al_k_type A hI h6 ih2, fun _ => ⟨fun _ => al_k_read A hI h6 ih2, fun _ => ⟨fun _ => al_k_drift A hI h6 ih2, fun _ => ⟨fun _ => al_k_undo A hI h6 ih2, fun _ => ⟨fun _ => al_k_seed A hI h6 ih2, fun _ => ⟨fun _ => al_k_image A hI h6 ih2, fun _ => ⟨fun _ => al_k_restore A hI h6 ih2, fun _ => ⟨fun _ => al_k_keep A hI h6 ih2, fun _ => ⟨fun _ => al_k_what A hI h6 ih2, fun _ => ⟨fun _ => al_k_film A hI h6 ih2, fun _ => ⟨fun _ => al_k_sheet A hI h6 ih2, fun _ => ⟨fun _ => al_k_drop A hI h6 ih2, fun _ => ⟨fun _ => al_k_item A hI h6 ih2, fun _ => ⟨fun _ => al_k_copy A hI h6 ih2, fun _ => ih2 _ hI⟩⟩⟩⟩⟩⟩⟩⟩⟩⟩⟩⟩⟩⟩⟩⟩⟩⟩⟩⟩⟩⟩⟩⟩⟩⟩⟩
theorem al_loop (A : al_ok X L xs) (hL : L ≤ 3072) : ∀ d k σ, Inv σ → 6 * k ≤ 3072 → L < 6 * k + 6 + 6 * d → al_run X 255 18 (al_ls (6 * k)) [] σ
  | 0, k, σ, hI, hk, hd => al_one A hL hk hI (fun h => by omega)
  | d + 1, k, σ, hI, hk, hd => al_one A hL hk hI (fun h σ' h' => al_loop A hL d (k + 1) σ' h' (by omega) (by omega))
set_option maxRecDepth 20000 in
theorem al_all (A : al_ok X L xs) (hL : L ≤ 3072) : al_run X 0 0 [some (.ref am_SC), none, none, none] [] (ac_sg (0, [], [])) := by
  refine al_begin A (fun σ hI => ?_)
  have h := al_loop A hL 600 0 σ hI (by omega) (by omega)
  obtain ⟨I, J, R⟩ := σ
  exact al_jmp A h
end LOOP
