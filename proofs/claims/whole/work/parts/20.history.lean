/-! the class's History -/
/-- the six States of the past, of the image's past: each one of theirs, no two alike -/
def Hf (f : Nat → Nat) : Prop := (∀ j, j < 6 → ∃ i, i < 6 ∧ f j = 17 + 14 * i) ∧ ∀ i j, i < 6 → j < 6 → f i = f j → i = j
def Hg (g : Nat → Nat) : Prop := (∀ j, j < 6 → ∃ i, i < 6 ∧ g j = 117 + 14 * i) ∧ ∀ i j, i < 6 → j < 6 → g i = g j → i = j
theorem Hf.sta {f : Nat → Nat} (h : Hf f) {j : Nat} (hj : j < 6) : Sta (f j) := by
  obtain ⟨i, h1, h2⟩ := h.1 j hj
  exact Or.inr (Or.inr ⟨i, h1, Or.inl h2⟩)
theorem Hg.sta {g : Nat → Nat} (h : Hg g) {j : Nat} (hj : j < 6) : Sta (g j) := by
  obtain ⟨i, h1, h2⟩ := h.1 j hj
  exact Or.inr (Or.inr ⟨i, h1, Or.inr h2⟩)
theorem Rf_16 {f g : Nat → Nat} {j : Nat} (hj : j < 6) : am_Rf f g 16 j = some (f j) := by
  show (if j < 6 then some (f j) else none) = _
  rw [if_pos hj]
theorem Rf_116 {f g : Nat → Nat} {j : Nat} (hj : j < 6) : am_Rf f g 116 j = some (g j) := by
  show (if j < 6 then some (g j) else none) = _
  rw [if_pos hj]
theorem Rf_up {f g : Nat → Nat} {j v : Nat} (hj : j < 6) : am_up (am_Rf f g) 16 j (some v) = am_Rf (fun i => if i = j then v else f i) g := by
  funext a k
  by_cases ha : a = 16
  · subst ha
    by_cases hk : k = j
    · subst hk
      rw [am_up_eq, Rf_16 hj]
      simp
    · rw [am_up_ne (fun q => hk q.2)]
      show (if k < 6 then some (f k) else none) = (if k < 6 then some (if k = j then v else f k) else none)
      rw [if_neg hk]
  · rw [am_up_ne (fun q => ha q.1)]
    unfold am_Rf
    rw [nbq ha]
/-- the oldest comes behind, all others move up: k less 1 are done -/
def shf (f : Nat → Nat) (s : Nat) : Nat → Nat := fun i => if i + 1 < s then f (i + 1) else f i
def rot (f : Nat → Nat) : Nat → Nat := fun i => if i = 5 then f 0 else shf f 6 i
theorem rot_Hf {f : Nat → Nat} (h : Hf f) : Hf (rot f) := by
  have key : ∀ j, j < 6 → rot f j = f (if j = 5 then 0 else j + 1) := by
    intro j hj
    unfold rot shf
    by_cases e : j = 5
    · rw [if_pos e, if_pos e]
    · rw [if_neg e, if_neg e, if_pos (by omega)]
  refine ⟨fun j hj => ?_, fun i j hi hj e => ?_⟩
  · rw [key j hj]
    refine h.1 _ ?_
    split <;> omega
  · rw [key i hi, key j hj] at e
    have := h.2 _ _ (by split <;> omega) (by split <;> omega) e
    split at this <;> split at this <;> omega
section HIST
variable {f g : Nat → Nat} {I : Nat → Nat → Int32} {J : Nat → Nat → Int64}
theorem lp_loseOldest (hf : Hf f) : ∀ n s, n + s = 6 → 1 ≤ s → am_u am_sh m_Hi_loseOldest (Rv (am_up I 15 0 5, J, am_Rf (rot f) g)) (am_at am_c_Hi_loseOldest 9) 9 [some (.ref 15), some (.ref (f 0)), some (.int (nI s))] [] (I, J, am_Rf (shf f s) g) := by
  intro n
  induction n with
  | zero =>
    intro s hs h1
    obtain rfl : s = 6 := by omega
    refine br_t (by decide) (j_Hi_loseOldest ?_)
    refine ⟨16, rfl, rfl, 6, 5, rfl, by omega, rfl, (St_of (f := f) (g := g) (hf.sta (j := 0) (by omega))).1.1, rfl, rfl, ?_⟩
    rw [Rf_up (by omega)]
    rfl
  | succ n ih =>
    intro s hs h1
    have e1 : shf f s s = f s := by
      unfold shf
      rw [if_neg (by omega)]
    refine br_f (nI_ge (a := s) (b := 6) (by omega) (by omega)) ?_
    refine ⟨16, rfl, rfl, 16, rfl, rfl, 6, s, rfl, by omega, rfl, f s, by rw [Rf_16 (by omega), e1], 6, s - 1, rfl, by omega, ?_, (St_of (f := f) (g := g) (hf.sta (j := s) (by omega))).1.1, ?_⟩
    · rw [show s = (s - 1) + 1 by omega]
      exact nI_pred _
    · refine j_Hi_loseOldest ?_
      rw [Rf_up (by omega), show nI s + 1 = nI (s + 1) from nI_1 s]
      have e2 : (fun i => if i = s - 1 then f s else shf f s i) = shf f (s + 1) := by
        funext i
        unfold shf
        by_cases e : i = s - 1
        · rw [if_pos e, if_pos (by omega), show i + 1 = s by omega]
        · rw [if_neg e]
          by_cases e3 : i + 1 < s
          · rw [if_pos e3, if_pos (by omega)]
          · rw [if_neg e3, if_neg (by omega)]
      rw [e2]
      exact ih (s + 1) (by omega) (by omega)
theorem ev_loseOldest (hf : Hf f) : am_ev am_sh m_Hi_loseOldest [.ref 15] (I, J, am_Rf f g) (Rv (am_up I 15 0 5, J, am_Rf (rot f) g)) := by
  refine s_Hi_loseOldest ⟨16, rfl, rfl, 6, 0, rfl, by omega, rfl, f 0, Rf_16 (by omega), ?_⟩
  refine j_Hi_loseOldest ?_
  have h := lp_loseOldest (g := g) (I := I) (J := J) hf 5 1 rfl (by omega)
  have e : shf f 1 = f := by
    funext i
    unfold shf
    rw [if_neg (by omega)]
  rw [e] at h
  exact h
/-- a State is noted: f' its States then, N' where -/
def Nt (I' I : Nat → Nat → Int32) (f' : Nat → Nat) (N' : Nat) : Prop := Cp I' (f' N') I 1 ∧ I' 15 0 = nI (N' + 1) ∧ ∀ c, c ≠ 15 → ¬ (f' N' ≤ c ∧ c ≤ f' N' + 13) → I' c = I c
theorem rn_note {N : Nat} {q : am_Q} (hf : Hf f) (hN : I 15 0 = nI N) (h6 : N < 6) (hq : ∀ I', Nt I' I f N → q none (I', J, am_Rf f g)) : am_u am_sh m_Hi_note q (am_at am_c_Hi_note 13) 13 [some (.ref 15), some (.ref 1)] [] (I, J, am_Rf f g) := by
  obtain ⟨i, hi, hfi⟩ := hf.1 N h6
  refine ⟨16, rfl, rfl, rfl, 6, N, rfl, h6, hN, f N, Rf_16 h6, (St_of (f := f) (g := g) (hf.sta h6)).1.1, (ev_becomes (St_of (hf.sta h6)) (St_of (Or.inl rfl)) (by omega)).mono ?_⟩
  rintro r σ' ⟨rfl, I', rfl, hC, hF⟩
  refine ⟨rfl, rfl, ?_⟩
  have e : I' 15 0 = nI N := by rw [hF 15 (by omega), hN]
  have h := hq (am_up I' 15 0 (nI (N + 1))) ⟨?_, am_up_eq, fun c h1 h2 => ?_⟩
  · rw [e, nI_1]
    exact h
  · obtain ⟨⟨c1, c2, c3⟩, c4, c5, c6⟩ := hC
    refine ⟨⟨?_, ?_, ?_⟩, fun k hk => ?_, ?_, fun t ht => ?_⟩
    · rw [am_up_ne (by omega), c1]
    · rw [am_up_ne (by omega), c2]
    · rw [am_up_ne (by omega), c3]
    · rw [am_up_ne (by omega), c4 k hk]
    · rw [am_up_ne (by omega), c5]
    · obtain ⟨g1, g2⟩ := c6 t ht
      refine ⟨by rw [am_up_ne (by omega), g1], fun k hk => ?_⟩
      rw [am_up_ne (by omega), am_up_ne (by omega)]
      exact g2 k hk
  · funext k
    rw [am_up_ne (by omega), hF c h2]
theorem ev_note {N : Nat} (hf : Hf f) (hN : I 15 0 = nI N) (h6 : N ≤ 6) : am_ev am_sh m_Hi_note [.ref 15, .ref 1] (I, J, am_Rf f g) (fun r σ' => r = none ∧ ∃ I' f' N', σ' = (I', J, am_Rf f' g) ∧ Nt I' I f' N' ∧ ((N < 6 ∧ f' = f ∧ N' = N) ∨ (N = 6 ∧ f' = rot f ∧ N' = 5))) := by
  refine s_Hi_note ⟨rfl, fun h1 => ?_, fun h1 => ?_⟩
  · rw [hN] at h1
    have h5 : N < 6 := (nI_ltI (a := N) (b := 6) (by omega) (by omega)).mp h1
    exact j_Hi_note (rn_note hf hN h5 (fun I' h => ⟨rfl, I', f, N, rfl, h, Or.inl ⟨h5, rfl, rfl⟩⟩))
  · rw [hN] at h1
    have h5 : N = 6 := by
      rcases Nat.lt_or_ge N 6 with q | q
      · exact absurd (nI_lt (a := N) (b := 6) q (by omega)) h1
      · omega
    refine ⟨rfl, (ev_loseOldest hf).rv ?_⟩
    refine rn_note (N := 5) (rot_Hf hf) am_up_eq (by omega) (fun I' h => ⟨rfl, I', rot f, 5, rfl, ?_, Or.inr ⟨h5, rfl, rfl⟩⟩)
    obtain ⟨⟨⟨c1, c2, c3⟩, c4, c5, c6⟩, n2, n3⟩ := h
    refine ⟨⟨⟨?_, ?_, ?_⟩, fun k hk => ?_, ?_, fun t ht => ?_⟩, n2, fun c h2 h3 => ?_⟩
    · rw [c1, am_up_ne (by omega)]
    · rw [c2, am_up_ne (by omega)]
    · rw [c3, am_up_ne (by omega)]
    · rw [c4 k hk, am_up_ne (by omega)]
    · rw [c5, am_up_ne (by omega)]
    · obtain ⟨g1, g2⟩ := c6 t ht
      refine ⟨by rw [g1, am_up_ne (by omega)], fun k hk => ?_⟩
      rw [(g2 k hk).1, (g2 k hk).2, am_up_ne (by omega), am_up_ne (by omega)]
      exact ⟨rfl, rfl⟩
    · rw [n3 c h2 h3]
      funext k
      rw [am_up_ne (by omega)]
theorem ev_takeBack {N : Nat} (hf : Hf f) (hN : I 15 0 = nI (N + 1)) (h6 : N < 6) : am_ev am_sh m_Hi_takeBack [.ref 15, .ref 1] (I, J, am_Rf f g) (fun r σ' => r = none ∧ ∃ I', σ' = (I', J, am_Rf f g) ∧ Cp I' 1 I (f N) ∧ I' 15 0 = nI N ∧ ∀ c, c ≠ 15 → ¬ (1 ≤ c ∧ c ≤ 14) → I' c = I c) := by
  obtain ⟨i, hi, hfi⟩ := hf.1 N h6
  refine s_Hi_takeBack ⟨rfl, br_f (by rw [hN]; exact nI_nle (by omega) (by omega)) ⟨rfl, rfl, ?_⟩⟩
  have e : I 15 0 - 1 = nI N := by rw [hN]; exact nI_pred N
  refine ⟨16, rfl, rfl, rfl, 6, N, rfl, h6, ?_, f N, Rf_16 h6, rfl, (ev_becomes (St_of (Or.inl rfl)) (St_of (hf.sta h6)) (by omega)).mono ?_⟩
  · show am_up I 15 0 (I 15 0 - 1) 15 0 = nI N
    rw [am_up_eq, e]
  rintro r σ' ⟨rfl, I', rfl, ⟨⟨c1, c2, c3⟩, c4, c5, c6⟩, hF⟩
  refine ⟨rfl, I', rfl, ⟨⟨?_, ?_, ?_⟩, fun k hk => ?_, ?_, fun t ht => ?_⟩, ?_, fun c h1 h2 => ?_⟩
  · rw [c1, am_up_ne (by omega)]
  · rw [c2, am_up_ne (by omega)]
  · rw [c3, am_up_ne (by omega)]
  · rw [c4 k hk, am_up_ne (by omega)]
  · rw [c5, am_up_ne (by omega)]
  · obtain ⟨g1, g2⟩ := c6 t ht
    refine ⟨by rw [g1, am_up_ne (by omega)], fun k hk => ?_⟩
    rw [(g2 k hk).1, (g2 k hk).2, am_up_ne (by omega), am_up_ne (by omega)]
    exact ⟨rfl, rfl⟩
  · rw [hF 15 (by omega), am_up_eq, e]
  · rw [hF c (by omega)]
    funext k
    rw [am_up_ne (by omega)]
end HIST
