/-! a turn of drift, on the class's side -/
section T17
variable {f g : Nat → Nat} {I : Nat → Nat → Int32} {J : Nat → Nat → Int64}
/-- the next draw, and the set that it tells -/
def dw (d : Int32) : Int32 := (d * 1103515245 + 12345) &&& 2147483647
def dset (n : Nat) (D : Int32) : Int32 := D / 65536 - D / 65536 / nI (2 ^ n - 1) * nI (2 ^ n - 1) + 1
/-- what a turn does to the class's cells -/
def Dt (C' C : Nat → Nat → Int32) (n M : Nat) : Prop := ∃ C1, C1 = am_up C 1 3 (dw (C 1 3)) ∧
  ((∃ p, fi (fun k => decide (C 2 k = dset n (dw (C 1 3)))) M = some p ∧ C' = am_up (am_row C1 2 (rmv (C1 2) p (M - 1))) 1 1 (nI (M - 1))) ∨
   (fi (fun k => decide (C 2 k = dset n (dw (C 1 3)))) M = none ∧ M < 12 ∧ C' = am_up (am_up C1 2 M (dset n (dw (C 1 3)))) 1 1 (nI (M + 1))) ∨
   (fi (fun k => decide (C 2 k = dset n (dw (C 1 3)))) M = none ∧ M = 12 ∧ C' = C1))
theorem ev_drawTurn {n M : Nat} (hn : I 1 0 = nI n) (h8 : n < 8) (h1 : 1 ≤ n) (hM : I 1 1 = nI M) (h12 : M ≤ 12) : am_ev am_sh m_St_drawTurn [.ref 1] (I, J, am_Rf f g) (fun r σ' => r = none ∧ ∃ I', σ' = (I', J, am_Rf f g) ∧ Dt I' I n M) := by
  have h7 := pow_le7 h8
  have h2 : 2 ≤ 2 ^ n := Nat.pow_le_pow_right (n := 2) (by omega) h1
  refine s_St_drawTurn ⟨rfl, rfl, rfl, (ev_all st1 (n := n) (by rw [am_up_ne (by omega)]; exact hn) h8).rt ⟨fun h3 => j_St_drawTurn ⟨rfl, by decide, nI_ne0 (by omega) (by omega), ?_⟩, fun h3 => absurd (nI_le (a := 1) (by omega) (by omega)) h3⟩⟩
  refine ⟨rfl, ?_⟩
  suffices key : ∀ C1, am_up I 1 3 (dw (I 1 3)) = C1 → am_ev am_sh m_St_placeOf [.ref 1, .int (dset n (C1 1 3))] (C1, J, am_Rf f g) _ from key _ rfl
  intro C1 hC1
  have e1 : C1 1 1 = nI M := by rw [← hC1, am_up_ne (by omega)]; exact hM
  have e3 : C1 1 3 = dw (I 1 3) := by rw [← hC1, am_up_eq]
  have e2 : C1 2 = I 2 := by rw [← hC1, up_cell (by omega)]
  refine (ev_placeOf st1 e1 h12 _).rt ?_
  rw [e3]
  have e4 : fi (fun k => decide (C1 (1 + 1) k = dset n (dw (I 1 3)))) M = fi (fun k => decide (I 2 k = dset n (dw (I 1 3)))) M := by
    show fi (fun k => decide (C1 2 k = dset n (dw (I 1 3)))) M = _
    rw [e2]
  rw [e4]
  cases hfi : fi (fun k => decide (I 2 k = dset n (dw (I 1 3)))) M with
  | some p =>
    have hp := (fi_some hfi).1
    refine br_f (nI_pos (n := p) (by omega)) ⟨rfl, (ev_removeAt st1 e1 h12 hp).rv (j_St_drawTurn ⟨rfl, _, rfl, C1, hC1.symm, Or.inl ⟨p, hfi, rfl⟩⟩)⟩
  | none =>
    refine br_t (by decide) (j_St_drawTurn ⟨rfl, ?_⟩)
    rcases Nat.lt_or_ge M 12 with h | h
    · refine (ev_append st1 e1 h _).rv ⟨rfl, _, rfl, C1, hC1.symm, Or.inr (Or.inl ⟨hfi, h, ?_⟩)⟩
      show am_up (am_up C1 2 M (dset n (am_up I 1 3 (dw (I 1 3)) 1 3))) 1 1 _ = _
      rw [am_up_eq]
    · have h' : M = 12 := by omega
      refine (ev_append_full st1 e1 h' _).rv ⟨rfl, _, rfl, C1, hC1.symm, Or.inr (Or.inr ⟨hfi, h', rfl⟩)⟩
/-- a turn with its note: C and f become C' and f' -/
def Stpd (C : Nat → Nat → Int32) (f : Nat → Nat) (C' : Nat → Nat → Int32) (f' : Nat → Nat) (n : Nat) : Prop := ∃ N N1 M C1, C 15 0 = nI N ∧ N ≤ 6 ∧ C 1 1 = nI M ∧ M ≤ 12 ∧ Nt C1 C f' N1 ∧ ((N < 6 ∧ f' = f ∧ N1 = N) ∨ (N = 6 ∧ f' = rot f ∧ N1 = 5)) ∧ Dt C' C1 n M
def Chn (n : Nat) : Nat → (Nat → Nat → Int32) → (Nat → Nat) → (Nat → Nat → Int32) → (Nat → Nat) → Prop
  | 0, C, f, C', f' => C' = C ∧ f' = f
  | k + 1, C, f, C', f' => ∃ D h, Chn n k C f D h ∧ Stpd D h C' f' n
theorem Dt.keep {C C' : Nat → Nat → Int32} {n M : Nat} (h : Dt C' C n M) (h12 : M ≤ 12) (hM : C 1 1 = nI M) : (∃ M', M' ≤ 12 ∧ C' 1 1 = nI M') ∧ C' 1 0 = C 1 0 ∧ ∀ c, c ≠ 1 → c ≠ 2 → C' c = C c := by
  obtain ⟨C1, rfl, ⟨p, h1, rfl⟩ | ⟨h1, h2, rfl⟩ | ⟨h1, h2, rfl⟩⟩ := h
  · exact ⟨⟨M - 1, by omega, am_up_eq⟩, by rw [am_up_ne (by omega), am_row_ne (by omega), am_up_ne (by omega)], fun c c1 c2 => by rw [up_cell c1, row_cell c2, up_cell c1]⟩
  · exact ⟨⟨M + 1, by omega, am_up_eq⟩, by rw [am_up_ne (by omega), am_up_ne (by omega), am_up_ne (by omega)], fun c c1 c2 => by rw [up_cell c1, up_cell c2, up_cell c1]⟩
  · exact ⟨⟨M, h12, by rw [am_up_ne (by omega)]; exact hM⟩, by rw [am_up_ne (by omega)], fun c c1 c2 => by rw [up_cell c1]⟩
theorem lp_drift {m n : Nat} {C0 : Nat → Nat → Int32} {f0 : Nat → Nat} {q : am_Q} (hm : m ≤ 40) (h8 : n < 8) (h1 : 1 ≤ n) (hq : ∀ C f M, Hf f → Chn n m C0 f0 C f → C 1 1 = nI M → (∀ c, ¬ (1 ≤ c ∧ c ≤ 100) → C c = C0 c) → q (some (.int (nI M))) (C, J, am_Rf f g)) : ∀ j k (C : Nat → Nat → Int32) (f : Nat → Nat) (N M : Nat), j + k = m → Hf f → Chn n k C0 f0 C f → C 15 0 = nI N → N ≤ 6 → C 1 0 = nI n → C 1 1 = nI M → M ≤ 12 → (∀ c, ¬ (1 ≤ c ∧ c ≤ 100) → C c = C0 c) → am_u am_sh m_MG_drift q (am_at am_c_MG_drift 15) 15 [some (.ref 0), some (.int (nI m)), some (.int (nI k))] [] (C, J, am_Rf f g) := by
  intro j
  induction j with
  | zero =>
    intro k C f N M hk hf hc hN h6 hn hM h12 hfr
    obtain rfl : k = m := by omega
    refine br_t (nI_le (by omega) (by omega)) (j_MG_drift ⟨1, rfl, rfl, rfl, ?_⟩)
    show q (some (.int (C 1 1))) _
    rw [hM]
    exact hq C f M hf hc hM hfr
  | succ j ih =>
    intro k C f N M hk hf hc hN h6 hn hM h12 hfr
    refine br_f (nI_ge (by omega) (by omega)) ⟨15, rfl, rfl, 1, rfl, rfl, rfl, (ev_note hf hN h6).mono ?_⟩
    rintro r σ' ⟨rfl, C1, f', N1, rfl, hN1, hN2⟩
    have hnow := hN1.now hf h6 hN2
    have hf' : Hf f' := by rcases hN2 with ⟨_, rfl, _⟩ | ⟨_, rfl, _⟩; exact hf; exact rot_Hf hf
    have hlo := hf'.lo (j := N1) (by omega)
    refine ⟨1, rfl, rfl, rfl, (ev_drawTurn (n := n) (M := M) (by rw [hnow 1 (by omega)]; exact hn) h8 h1 (by rw [hnow 1 (by omega)]; exact hM) h12).mono ?_⟩
    rintro r σ' ⟨rfl, C2, rfl, hD⟩
    obtain ⟨⟨M', a1, a2⟩, a3, a4⟩ := hD.keep h12 (by rw [hnow 1 (by omega)]; exact hM)
    refine j_MG_drift ?_
    rw [show nI k + 1 = nI (k + 1) from nI_1 k]
    refine ih (k + 1) C2 f' (N1 + 1) M' (by omega) hf' ⟨C, f, hc, N, N1, M, C1, hN, h6, hM, h12, hN1, hN2, hD⟩ ?_ (by omega) ?_ a2 a1 (fun c hc' => ?_)
    · rw [a4 15 (by omega) (by omega)]; exact hN1.2.1
    · rw [a3, hnow 1 (by omega)]; exact hn
    · rw [a4 c (by omega) (by omega), hN1.2.2 c (by omega) (by omega)]
      exact hfr c hc'
end T17
