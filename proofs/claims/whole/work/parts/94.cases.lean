/-! the law's loop -/
def al_ls (i : Nat) : am_L := [some (.ref am_SC), some (.ref 0), some (.ref 236), some (.int (nI i))]
theorem al_c0 : am_sh[0]? = some (10, 0) := by decide +kernel
theorem al_c236 : am_sh[236]? = some (11, 0) := by decide +kernel
section LOOP
variable {X : al_T} {L : Nat} {xs : Nat → Int32} {k : Nat} {σ : am_S}
set_option maxRecDepth 20000 in
theorem al_k_group (A : al_ok X L xs) (hI : Inv σ) (hk : 6 * k + 6 ≤ L) (ih : ∀ σ', Inv σ' → al_run X 255 970 (al_ls (6 * k)) [] σ') : al_run X 255 152 (al_ls (6 * k)) [] σ := by
  obtain ⟨I, J, R⟩ := σ
  refine al_jmp A ⟨rfl, 6 * k + 1, by omega, nI_add (6 * k) 1, rfl, 6 * k + 2, by omega, nI_add (6 * k) 2, al_c0, (T_group (xs (6 * k + 1)) (xs (6 * k + 2)) hI).mono (fun r σ1 h => ?_)⟩
  obtain ⟨v, rfl, h2⟩ := h
  obtain ⟨I1, J1, R1⟩ := σ1
  refine ⟨rfl, 6 * k + 1, by omega, nI_add (6 * k) 1, rfl, 6 * k + 2, by omega, nI_add (6 * k) 2, al_c236, h2.mono (fun r σ2 h => ?_)⟩
  obtain ⟨rfl, hI2⟩ := h
  obtain ⟨I2, J2, R2⟩ := σ2
  exact ⟨fun _ => ih (I2, J2, R2) hI2, fun hn => absurd rfl hn⟩
set_option maxRecDepth 20000 in
theorem al_k_element (A : al_ok X L xs) (hI : Inv σ) (hk : 6 * k + 6 ≤ L) (ih : ∀ σ', Inv σ' → al_run X 255 970 (al_ls (6 * k)) [] σ') : al_run X 255 185 (al_ls (6 * k)) [] σ := by
  obtain ⟨I, J, R⟩ := σ
  refine al_jmp A ⟨rfl, 6 * k + 1, by omega, nI_add (6 * k) 1, rfl, 6 * k + 2, by omega, nI_add (6 * k) 2, al_c0, (T_element (xs (6 * k + 1)) (xs (6 * k + 2)) hI).mono (fun r σ1 h => ?_)⟩
  obtain ⟨v, rfl, h2⟩ := h
  obtain ⟨I1, J1, R1⟩ := σ1
  refine ⟨rfl, 6 * k + 1, by omega, nI_add (6 * k) 1, rfl, 6 * k + 2, by omega, nI_add (6 * k) 2, al_c236, h2.mono (fun r σ2 h => ?_)⟩
  obtain ⟨rfl, hI2⟩ := h
  obtain ⟨I2, J2, R2⟩ := σ2
  exact ⟨fun _ => ih (I2, J2, R2) hI2, fun hn => absurd rfl hn⟩
set_option maxRecDepth 20000 in
theorem al_k_count (A : al_ok X L xs) (hI : Inv σ) (hk : 6 * k + 6 ≤ L) (ih : ∀ σ', Inv σ' → al_run X 255 970 (al_ls (6 * k)) [] σ') : al_run X 255 218 (al_ls (6 * k)) [] σ := by
  obtain ⟨I, J, R⟩ := σ
  refine al_jmp A ⟨rfl, 6 * k + 1, by omega, nI_add (6 * k) 1, al_c0, (T_count (xs (6 * k + 1)) hI).mono (fun r σ1 h => ?_)⟩
  obtain ⟨v, rfl, h2⟩ := h
  obtain ⟨I1, J1, R1⟩ := σ1
  refine ⟨rfl, 6 * k + 1, by omega, nI_add (6 * k) 1, al_c236, h2.mono (fun r σ2 h => ?_)⟩
  obtain ⟨rfl, hI2⟩ := h
  obtain ⟨I2, J2, R2⟩ := σ2
  exact ⟨fun _ => ih (I2, J2, R2) hI2, fun hn => absurd rfl hn⟩
set_option maxRecDepth 20000 in
theorem al_k_load (A : al_ok X L xs) (hI : Inv σ) (hk : 6 * k + 6 ≤ L) (ih : ∀ σ', Inv σ' → al_run X 255 970 (al_ls (6 * k)) [] σ') : al_run X 255 241 (al_ls (6 * k)) [] σ := by
  obtain ⟨I, J, R⟩ := σ
  refine al_jmp A ⟨rfl, 6 * k + 1, by omega, nI_add (6 * k) 1, al_c0, (T_load (xs (6 * k + 1)) hI).mono (fun r σ1 h => ?_)⟩
  obtain ⟨v, rfl, h2⟩ := h
  obtain ⟨I1, J1, R1⟩ := σ1
  refine ⟨rfl, 6 * k + 1, by omega, nI_add (6 * k) 1, al_c236, h2.mono (fun r σ2 h => ?_)⟩
  obtain ⟨rfl, hI2⟩ := h
  obtain ⟨I2, J2, R2⟩ := σ2
  exact ⟨fun _ => ih (I2, J2, R2) hI2, fun hn => absurd rfl hn⟩
set_option maxRecDepth 20000 in
theorem al_k_plan (A : al_ok X L xs) (hI : Inv σ) (hk : 6 * k + 6 ≤ L) (ih : ∀ σ', Inv σ' → al_run X 255 970 (al_ls (6 * k)) [] σ') : al_run X 255 264 (al_ls (6 * k)) [] σ := by
  obtain ⟨I, J, R⟩ := σ
  refine al_jmp A ⟨rfl, 6 * k + 1, by omega, nI_add (6 * k) 1, rfl, 6 * k + 2, by omega, nI_add (6 * k) 2, al_c0, (T_plan (xs (6 * k + 1)) (xs (6 * k + 2)) hI).mono (fun r σ1 h => ?_)⟩
  obtain ⟨v, rfl, h2⟩ := h
  obtain ⟨I1, J1, R1⟩ := σ1
  refine ⟨rfl, 6 * k + 1, by omega, nI_add (6 * k) 1, rfl, 6 * k + 2, by omega, nI_add (6 * k) 2, al_c236, h2.mono (fun r σ2 h => ?_)⟩
  obtain ⟨rfl, hI2⟩ := h
  obtain ⟨I2, J2, R2⟩ := σ2
  exact ⟨fun _ => ih (I2, J2, R2) hI2, fun hn => absurd rfl hn⟩
set_option maxRecDepth 20000 in
theorem al_k_standing (A : al_ok X L xs) (hI : Inv σ) (hk : 6 * k + 6 ≤ L) (ih : ∀ σ', Inv σ' → al_run X 255 970 (al_ls (6 * k)) [] σ') : al_run X 255 297 (al_ls (6 * k)) [] σ := by
  obtain ⟨I, J, R⟩ := σ
  refine al_jmp A ⟨rfl, 6 * k + 1, by omega, nI_add (6 * k) 1, al_c0, (T_standing (xs (6 * k + 1)) hI).mono (fun r σ1 h => ?_)⟩
  obtain ⟨v, rfl, h2⟩ := h
  obtain ⟨I1, J1, R1⟩ := σ1
  refine ⟨rfl, 6 * k + 1, by omega, nI_add (6 * k) 1, al_c236, h2.mono (fun r σ2 h => ?_)⟩
  obtain ⟨rfl, hI2⟩ := h
  obtain ⟨I2, J2, R2⟩ := σ2
  exact ⟨fun _ => ih (I2, J2, R2) hI2, fun hn => absurd rfl hn⟩
set_option maxRecDepth 20000 in
theorem al_k_stands (A : al_ok X L xs) (hI : Inv σ) (hk : 6 * k + 6 ≤ L) (ih : ∀ σ', Inv σ' → al_run X 255 970 (al_ls (6 * k)) [] σ') : al_run X 255 320 (al_ls (6 * k)) [] σ := by
  obtain ⟨I, J, R⟩ := σ
  refine al_jmp A ⟨rfl, 6 * k + 1, by omega, nI_add (6 * k) 1, rfl, 6 * k + 2, by omega, nI_add (6 * k) 2, al_c0, (T_stands (xs (6 * k + 1)) (xs (6 * k + 2)) hI).mono (fun r σ1 h => ?_)⟩
  obtain ⟨v, rfl, h2⟩ := h
  obtain ⟨I1, J1, R1⟩ := σ1
  refine ⟨rfl, 6 * k + 1, by omega, nI_add (6 * k) 1, rfl, 6 * k + 2, by omega, nI_add (6 * k) 2, al_c236, h2.mono (fun r σ2 h => ?_)⟩
  obtain ⟨rfl, hI2⟩ := h
  obtain ⟨I2, J2, R2⟩ := σ2
  exact ⟨fun _ => ih (I2, J2, R2) hI2, fun hn => absurd rfl hn⟩
set_option maxRecDepth 20000 in
theorem al_k_free (A : al_ok X L xs) (hI : Inv σ) (hk : 6 * k + 6 ≤ L) (ih : ∀ σ', Inv σ' → al_run X 255 970 (al_ls (6 * k)) [] σ') : al_run X 255 353 (al_ls (6 * k)) [] σ := by
  obtain ⟨I, J, R⟩ := σ
  refine al_jmp A ⟨rfl, 6 * k + 1, by omega, nI_add (6 * k) 1, al_c0, (T_free (xs (6 * k + 1)) hI).mono (fun r σ1 h => ?_)⟩
  obtain ⟨v, rfl, h2⟩ := h
  obtain ⟨I1, J1, R1⟩ := σ1
  refine ⟨rfl, 6 * k + 1, by omega, nI_add (6 * k) 1, al_c236, h2.mono (fun r σ2 h => ?_)⟩
  obtain ⟨rfl, hI2⟩ := h
  obtain ⟨I2, J2, R2⟩ := σ2
  exact ⟨fun _ => ih (I2, J2, R2) hI2, fun hn => absurd rfl hn⟩
set_option maxRecDepth 20000 in
theorem al_k_probe (A : al_ok X L xs) (hI : Inv σ) (hk : 6 * k + 6 ≤ L) (ih : ∀ σ', Inv σ' → al_run X 255 970 (al_ls (6 * k)) [] σ') : al_run X 255 376 (al_ls (6 * k)) [] σ := by
  obtain ⟨I, J, R⟩ := σ
  refine al_jmp A ⟨rfl, 6 * k + 1, by omega, nI_add (6 * k) 1, rfl, 6 * k + 2, by omega, nI_add (6 * k) 2, rfl, 6 * k + 3, by omega, nI_add (6 * k) 3, al_c0, (T_probe (xs (6 * k + 1)) (xs (6 * k + 2)) (xs (6 * k + 3)) hI).mono (fun r σ1 h => ?_)⟩
  obtain ⟨v, rfl, h2⟩ := h
  obtain ⟨I1, J1, R1⟩ := σ1
  refine ⟨rfl, 6 * k + 1, by omega, nI_add (6 * k) 1, rfl, 6 * k + 2, by omega, nI_add (6 * k) 2, rfl, 6 * k + 3, by omega, nI_add (6 * k) 3, al_c236, h2.mono (fun r σ2 h => ?_)⟩
  obtain ⟨rfl, hI2⟩ := h
  obtain ⟨I2, J2, R2⟩ := σ2
  exact ⟨fun _ => ih (I2, J2, R2) hI2, fun hn => absurd rfl hn⟩
set_option maxRecDepth 20000 in
theorem al_k_add (A : al_ok X L xs) (hI : Inv σ) (hk : 6 * k + 6 ≤ L) (ih : ∀ σ', Inv σ' → al_run X 255 970 (al_ls (6 * k)) [] σ') : al_run X 255 419 (al_ls (6 * k)) [] σ := by
  obtain ⟨I, J, R⟩ := σ
  refine al_jmp A ⟨rfl, 6 * k + 1, by omega, nI_add (6 * k) 1, al_c0, (T_add (xs (6 * k + 1)) hI).mono (fun r σ1 h => ?_)⟩
  obtain ⟨v, rfl, h2⟩ := h
  obtain ⟨I1, J1, R1⟩ := σ1
  refine ⟨rfl, 6 * k + 1, by omega, nI_add (6 * k) 1, al_c236, h2.mono (fun r σ2 h => ?_)⟩
  obtain ⟨rfl, hI2⟩ := h
  obtain ⟨I2, J2, R2⟩ := σ2
  exact ⟨fun _ => ih (I2, J2, R2) hI2, fun hn => absurd rfl hn⟩
set_option maxRecDepth 20000 in
theorem al_k_out (A : al_ok X L xs) (hI : Inv σ) (hk : 6 * k + 6 ≤ L) (ih : ∀ σ', Inv σ' → al_run X 255 970 (al_ls (6 * k)) [] σ') : al_run X 255 442 (al_ls (6 * k)) [] σ := by
  obtain ⟨I, J, R⟩ := σ
  refine al_jmp A ⟨rfl, 6 * k + 1, by omega, nI_add (6 * k) 1, al_c0, (T_out (xs (6 * k + 1)) hI).mono (fun r σ1 h => ?_)⟩
  obtain ⟨v, rfl, h2⟩ := h
  obtain ⟨I1, J1, R1⟩ := σ1
  refine ⟨rfl, 6 * k + 1, by omega, nI_add (6 * k) 1, al_c236, h2.mono (fun r σ2 h => ?_)⟩
  obtain ⟨rfl, hI2⟩ := h
  obtain ⟨I2, J2, R2⟩ := σ2
  exact ⟨fun _ => ih (I2, J2, R2) hI2, fun hn => absurd rfl hn⟩
set_option maxRecDepth 20000 in
theorem al_k_size (A : al_ok X L xs) (hI : Inv σ) (hk : 6 * k + 6 ≤ L) (ih : ∀ σ', Inv σ' → al_run X 255 970 (al_ls (6 * k)) [] σ') : al_run X 255 465 (al_ls (6 * k)) [] σ := by
  obtain ⟨I, J, R⟩ := σ
  refine al_jmp A ⟨rfl, 6 * k + 1, by omega, nI_add (6 * k) 1, al_c0, (T_size (xs (6 * k + 1)) hI).mono (fun r σ1 h => ?_)⟩
  obtain ⟨v, rfl, h2⟩ := h
  obtain ⟨I1, J1, R1⟩ := σ1
  refine ⟨rfl, 6 * k + 1, by omega, nI_add (6 * k) 1, al_c236, h2.mono (fun r σ2 h => ?_)⟩
  obtain ⟨rfl, hI2⟩ := h
  obtain ⟨I2, J2, R2⟩ := σ2
  exact ⟨fun _ => ih (I2, J2, R2) hI2, fun hn => absurd rfl hn⟩
set_option maxRecDepth 20000 in
theorem al_k_type (A : al_ok X L xs) (hI : Inv σ) (hk : 6 * k + 6 ≤ L) (ih : ∀ σ', Inv σ' → al_run X 255 970 (al_ls (6 * k)) [] σ') : al_run X 255 488 (al_ls (6 * k)) [] σ := by
  obtain ⟨I, J, R⟩ := σ
  refine al_jmp A ⟨rfl, 6 * k + 1, by omega, nI_add (6 * k) 1, al_c0, (T_type (xs (6 * k + 1)) hI).mono (fun r σ1 h => ?_)⟩
  obtain ⟨v, rfl, h2⟩ := h
  obtain ⟨I1, J1, R1⟩ := σ1
  refine ⟨rfl, 6 * k + 1, by omega, nI_add (6 * k) 1, al_c236, h2.mono (fun r σ2 h => ?_)⟩
  obtain ⟨rfl, hI2⟩ := h
  obtain ⟨I2, J2, R2⟩ := σ2
  exact ⟨fun _ => ih (I2, J2, R2) hI2, fun hn => absurd rfl hn⟩
set_option maxRecDepth 20000 in
theorem al_k_read (A : al_ok X L xs) (hI : Inv σ) (hk : 6 * k + 6 ≤ L) (ih : ∀ σ', Inv σ' → al_run X 255 970 (al_ls (6 * k)) [] σ') : al_run X 255 511 (al_ls (6 * k)) [] σ := by
  obtain ⟨I, J, R⟩ := σ
  refine al_jmp A ⟨al_c0, (T_read hI).mono (fun r σ1 h => ?_)⟩
  obtain ⟨v, rfl, h2⟩ := h
  obtain ⟨I1, J1, R1⟩ := σ1
  refine ⟨al_c236, h2.mono (fun r σ2 h => ?_)⟩
  obtain ⟨rfl, hI2⟩ := h
  obtain ⟨I2, J2, R2⟩ := σ2
  exact ⟨fun _ => ih (I2, J2, R2) hI2, fun hn => absurd rfl hn⟩
set_option maxRecDepth 20000 in
theorem al_k_drift (A : al_ok X L xs) (hI : Inv σ) (hk : 6 * k + 6 ≤ L) (ih : ∀ σ', Inv σ' → al_run X 255 970 (al_ls (6 * k)) [] σ') : al_run X 255 524 (al_ls (6 * k)) [] σ := by
  obtain ⟨I, J, R⟩ := σ
  refine al_jmp A ⟨rfl, 6 * k + 1, by omega, nI_add (6 * k) 1, al_c0, (T_drift (xs (6 * k + 1)) hI).mono (fun r σ1 h => ?_)⟩
  obtain ⟨v, rfl, h2⟩ := h
  obtain ⟨I1, J1, R1⟩ := σ1
  refine ⟨rfl, 6 * k + 1, by omega, nI_add (6 * k) 1, al_c236, h2.mono (fun r σ2 h => ?_)⟩
  obtain ⟨rfl, hI2⟩ := h
  obtain ⟨I2, J2, R2⟩ := σ2
  exact ⟨fun _ => ih (I2, J2, R2) hI2, fun hn => absurd rfl hn⟩
set_option maxRecDepth 20000 in
theorem al_k_undo (A : al_ok X L xs) (hI : Inv σ) (hk : 6 * k + 6 ≤ L) (ih : ∀ σ', Inv σ' → al_run X 255 970 (al_ls (6 * k)) [] σ') : al_run X 255 547 (al_ls (6 * k)) [] σ := by
  obtain ⟨I, J, R⟩ := σ
  refine al_jmp A ⟨al_c0, (T_undo hI).mono (fun r σ1 h => ?_)⟩
  obtain ⟨v, rfl, h2⟩ := h
  obtain ⟨I1, J1, R1⟩ := σ1
  refine ⟨al_c236, h2.mono (fun r σ2 h => ?_)⟩
  obtain ⟨rfl, hI2⟩ := h
  obtain ⟨I2, J2, R2⟩ := σ2
  exact ⟨fun _ => ih (I2, J2, R2) hI2, fun hn => absurd rfl hn⟩
set_option maxRecDepth 20000 in
theorem al_k_seed (A : al_ok X L xs) (hI : Inv σ) (hk : 6 * k + 6 ≤ L) (ih : ∀ σ', Inv σ' → al_run X 255 970 (al_ls (6 * k)) [] σ') : al_run X 255 560 (al_ls (6 * k)) [] σ := by
  obtain ⟨I, J, R⟩ := σ
  refine al_jmp A ⟨rfl, 6 * k + 1, by omega, nI_add (6 * k) 1, al_c0, (T_seed (xs (6 * k + 1)) hI).mono (fun r σ1 h => ?_)⟩
  obtain ⟨v, rfl, h2⟩ := h
  obtain ⟨I1, J1, R1⟩ := σ1
  refine ⟨rfl, 6 * k + 1, by omega, nI_add (6 * k) 1, al_c236, h2.mono (fun r σ2 h => ?_)⟩
  obtain ⟨rfl, hI2⟩ := h
  obtain ⟨I2, J2, R2⟩ := σ2
  exact ⟨fun _ => ih (I2, J2, R2) hI2, fun hn => absurd rfl hn⟩
set_option maxRecDepth 20000 in
theorem al_k_image (A : al_ok X L xs) (hI : Inv σ) (hk : 6 * k + 6 ≤ L) (ih : ∀ σ', Inv σ' → al_run X 255 970 (al_ls (6 * k)) [] σ') : al_run X 255 583 (al_ls (6 * k)) [] σ := by
  obtain ⟨I, J, R⟩ := σ
  refine al_jmp A ⟨al_c0, (T_image hI).mono (fun r σ1 h => ?_)⟩
  obtain ⟨v, rfl, h2⟩ := h
  obtain ⟨I1, J1, R1⟩ := σ1
  refine ⟨al_c236, h2.mono (fun r σ2 h => ?_)⟩
  obtain ⟨rfl, hI2⟩ := h
  obtain ⟨I2, J2, R2⟩ := σ2
  exact ⟨fun _ => ih (I2, J2, R2) hI2, fun hn => absurd rfl hn⟩
set_option maxRecDepth 20000 in
theorem al_k_restore (A : al_ok X L xs) (hI : Inv σ) (hk : 6 * k + 6 ≤ L) (ih : ∀ σ', Inv σ' → al_run X 255 970 (al_ls (6 * k)) [] σ') : al_run X 255 596 (al_ls (6 * k)) [] σ := by
  obtain ⟨I, J, R⟩ := σ
  refine al_jmp A ⟨al_c0, (T_restore hI).mono (fun r σ1 h => ?_)⟩
  obtain ⟨v, rfl, h2⟩ := h
  obtain ⟨I1, J1, R1⟩ := σ1
  refine ⟨al_c236, h2.mono (fun r σ2 h => ?_)⟩
  obtain ⟨rfl, hI2⟩ := h
  obtain ⟨I2, J2, R2⟩ := σ2
  exact ⟨fun _ => ih (I2, J2, R2) hI2, fun hn => absurd rfl hn⟩
set_option maxRecDepth 20000 in
theorem al_k_keep (A : al_ok X L xs) (hI : Inv σ) (hk : 6 * k + 6 ≤ L) (ih : ∀ σ', Inv σ' → al_run X 255 970 (al_ls (6 * k)) [] σ') : al_run X 255 609 (al_ls (6 * k)) [] σ := by
  obtain ⟨I, J, R⟩ := σ
  refine al_jmp A ⟨rfl, 6 * k + 1, by omega, nI_add (6 * k) 1, rfl, 6 * k + 2, by omega, nI_add (6 * k) 2, rfl, 6 * k + 3, by omega, nI_add (6 * k) 3, rfl, 6 * k + 4, by omega, nI_add (6 * k) 4, al_c0, (T_keep (xs (6 * k + 1)) (xs (6 * k + 2)) (xs (6 * k + 3)) (xs (6 * k + 4)) hI).mono (fun r σ1 h => ?_)⟩
  obtain ⟨v, rfl, h2⟩ := h
  obtain ⟨I1, J1, R1⟩ := σ1
  refine ⟨rfl, 6 * k + 1, by omega, nI_add (6 * k) 1, rfl, 6 * k + 2, by omega, nI_add (6 * k) 2, rfl, 6 * k + 3, by omega, nI_add (6 * k) 3, rfl, 6 * k + 4, by omega, nI_add (6 * k) 4, al_c236, h2.mono (fun r σ2 h => ?_)⟩
  obtain ⟨rfl, hI2⟩ := h
  obtain ⟨I2, J2, R2⟩ := σ2
  exact ⟨fun _ => ih (I2, J2, R2) hI2, fun hn => absurd rfl hn⟩
set_option maxRecDepth 20000 in
theorem al_k_what (A : al_ok X L xs) (hI : Inv σ) (hk : 6 * k + 6 ≤ L) (ih : ∀ σ', Inv σ' → al_run X 255 970 (al_ls (6 * k)) [] σ') : al_run X 255 662 (al_ls (6 * k)) [] σ := by
  obtain ⟨I, J, R⟩ := σ
  refine al_jmp A ⟨rfl, 6 * k + 1, by omega, nI_add (6 * k) 1, rfl, 6 * k + 2, by omega, nI_add (6 * k) 2, rfl, 6 * k + 3, by omega, nI_add (6 * k) 3, rfl, 6 * k + 4, by omega, nI_add (6 * k) 4, al_c0, (T_what (xs (6 * k + 1)) (xs (6 * k + 2)) (xs (6 * k + 3)) (xs (6 * k + 4)) hI).mono (fun r σ1 h => ?_)⟩
  obtain ⟨v, rfl, h2⟩ := h
  obtain ⟨I1, J1, R1⟩ := σ1
  refine ⟨rfl, 6 * k + 1, by omega, nI_add (6 * k) 1, rfl, 6 * k + 2, by omega, nI_add (6 * k) 2, rfl, 6 * k + 3, by omega, nI_add (6 * k) 3, rfl, 6 * k + 4, by omega, nI_add (6 * k) 4, al_c236, h2.mono (fun r σ2 h => ?_)⟩
  obtain ⟨rfl, hI2⟩ := h
  obtain ⟨I2, J2, R2⟩ := σ2
  exact ⟨fun _ => ih (I2, J2, R2) hI2, fun hn => absurd rfl hn⟩
set_option maxRecDepth 20000 in
theorem al_k_film (A : al_ok X L xs) (hI : Inv σ) (hk : 6 * k + 6 ≤ L) (ih : ∀ σ', Inv σ' → al_run X 255 970 (al_ls (6 * k)) [] σ') : al_run X 255 715 (al_ls (6 * k)) [] σ := by
  obtain ⟨I, J, R⟩ := σ
  refine al_jmp A ⟨rfl, 6 * k + 1, by omega, nI_add (6 * k) 1, rfl, 6 * k + 2, by omega, nI_add (6 * k) 2, rfl, 6 * k + 3, by omega, nI_add (6 * k) 3, al_c0, (T_film (xs (6 * k + 1)) (xs (6 * k + 2)) (xs (6 * k + 3)) hI).mono (fun r σ1 h => ?_)⟩
  obtain ⟨v, rfl, h2⟩ := h
  obtain ⟨I1, J1, R1⟩ := σ1
  refine ⟨rfl, 6 * k + 1, by omega, nI_add (6 * k) 1, rfl, 6 * k + 2, by omega, nI_add (6 * k) 2, rfl, 6 * k + 3, by omega, nI_add (6 * k) 3, al_c236, h2.mono (fun r σ2 h => ?_)⟩
  obtain ⟨rfl, hI2⟩ := h
  obtain ⟨I2, J2, R2⟩ := σ2
  exact ⟨fun _ => ih (I2, J2, R2) hI2, fun hn => absurd rfl hn⟩
set_option maxRecDepth 20000 in
theorem al_k_sheet (A : al_ok X L xs) (hI : Inv σ) (hk : 6 * k + 6 ≤ L) (ih : ∀ σ', Inv σ' → al_run X 255 970 (al_ls (6 * k)) [] σ') : al_run X 255 758 (al_ls (6 * k)) [] σ := by
  obtain ⟨I, J, R⟩ := σ
  refine al_jmp A ⟨rfl, 6 * k + 1, by omega, nI_add (6 * k) 1, rfl, 6 * k + 2, by omega, nI_add (6 * k) 2, rfl, 6 * k + 3, by omega, nI_add (6 * k) 3, al_c0, (T_sheet (xs (6 * k + 1)) (xs (6 * k + 2)) (xs (6 * k + 3)) hI).mono (fun r σ1 h => ?_)⟩
  obtain ⟨v, rfl, h2⟩ := h
  obtain ⟨I1, J1, R1⟩ := σ1
  refine ⟨rfl, 6 * k + 1, by omega, nI_add (6 * k) 1, rfl, 6 * k + 2, by omega, nI_add (6 * k) 2, rfl, 6 * k + 3, by omega, nI_add (6 * k) 3, al_c236, h2.mono (fun r σ2 h => ?_)⟩
  obtain ⟨rfl, hI2⟩ := h
  obtain ⟨I2, J2, R2⟩ := σ2
  exact ⟨fun _ => ih (I2, J2, R2) hI2, fun hn => absurd rfl hn⟩
set_option maxRecDepth 20000 in
theorem al_k_drop (A : al_ok X L xs) (hI : Inv σ) (hk : 6 * k + 6 ≤ L) (ih : ∀ σ', Inv σ' → al_run X 255 970 (al_ls (6 * k)) [] σ') : al_run X 255 801 (al_ls (6 * k)) [] σ := by
  obtain ⟨I, J, R⟩ := σ
  refine al_jmp A ⟨rfl, 6 * k + 1, by omega, nI_add (6 * k) 1, al_c0, (T_drop (xs (6 * k + 1)) hI).mono (fun r σ1 h => ?_)⟩
  obtain ⟨v, rfl, h2⟩ := h
  obtain ⟨I1, J1, R1⟩ := σ1
  refine ⟨rfl, 6 * k + 1, by omega, nI_add (6 * k) 1, al_c236, h2.mono (fun r σ2 h => ?_)⟩
  obtain ⟨rfl, hI2⟩ := h
  obtain ⟨I2, J2, R2⟩ := σ2
  exact ⟨fun _ => ih (I2, J2, R2) hI2, fun hn => absurd rfl hn⟩
set_option maxRecDepth 20000 in
theorem al_k_item (A : al_ok X L xs) (hI : Inv σ) (hk : 6 * k + 6 ≤ L) (ih : ∀ σ', Inv σ' → al_run X 255 970 (al_ls (6 * k)) [] σ') : al_run X 255 824 (al_ls (6 * k)) [] σ := by
  obtain ⟨I, J, R⟩ := σ
  refine al_jmp A ⟨rfl, 6 * k + 1, by omega, nI_add (6 * k) 1, rfl, 6 * k + 2, by omega, nI_add (6 * k) 2, rfl, 6 * k + 3, by omega, nI_add (6 * k) 3, rfl, 6 * k + 4, by omega, nI_add (6 * k) 4, rfl, 6 * k + 5, by omega, nI_add (6 * k) 5, al_c0, (T_item (xs (6 * k + 1)) (xs (6 * k + 2)) (xs (6 * k + 3)) _ hI).mono (fun r σ1 h => ?_)⟩
  obtain ⟨v, rfl, h2⟩ := h
  obtain ⟨I1, J1, R1⟩ := σ1
  refine ⟨rfl, 6 * k + 1, by omega, nI_add (6 * k) 1, rfl, 6 * k + 2, by omega, nI_add (6 * k) 2, rfl, 6 * k + 3, by omega, nI_add (6 * k) 3, rfl, 6 * k + 4, by omega, nI_add (6 * k) 4, rfl, 6 * k + 5, by omega, nI_add (6 * k) 5, al_c236, h2.mono (fun r σ2 h => ?_)⟩
  obtain ⟨rfl, hI2⟩ := h
  obtain ⟨I2, J2, R2⟩ := σ2
  exact ⟨fun _ => ih (I2, J2, R2) hI2, fun hn => absurd rfl hn⟩
set_option maxRecDepth 20000 in
theorem al_k_copy (A : al_ok X L xs) (hI : Inv σ) (hk : 6 * k + 6 ≤ L) (ih : ∀ σ', Inv σ' → al_run X 255 970 (al_ls (6 * k)) [] σ') : al_run X 255 907 (al_ls (6 * k)) [] σ := by
  obtain ⟨I, J, R⟩ := σ
  refine al_jmp A ⟨rfl, 6 * k + 1, by omega, nI_add (6 * k) 1, rfl, 6 * k + 2, by omega, nI_add (6 * k) 2, rfl, 6 * k + 3, by omega, nI_add (6 * k) 3, rfl, 6 * k + 4, by omega, nI_add (6 * k) 4, rfl, 6 * k + 5, by omega, nI_add (6 * k) 5, al_c0, (T_copy (xs (6 * k + 1)) (xs (6 * k + 2)) (xs (6 * k + 3)) (xs (6 * k + 4)) (xs (6 * k + 5)) hI).mono (fun r σ1 h => ?_)⟩
  obtain ⟨v, rfl, h2⟩ := h
  obtain ⟨I1, J1, R1⟩ := σ1
  refine ⟨rfl, 6 * k + 1, by omega, nI_add (6 * k) 1, rfl, 6 * k + 2, by omega, nI_add (6 * k) 2, rfl, 6 * k + 3, by omega, nI_add (6 * k) 3, rfl, 6 * k + 4, by omega, nI_add (6 * k) 4, rfl, 6 * k + 5, by omega, nI_add (6 * k) 5, al_c236, h2.mono (fun r σ2 h => ?_)⟩
  obtain ⟨rfl, hI2⟩ := h
  obtain ⟨I2, J2, R2⟩ := σ2
  exact ⟨fun _ => ih (I2, J2, R2) hI2, fun hn => absurd rfl hn⟩
end LOOP
