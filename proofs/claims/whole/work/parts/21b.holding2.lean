section HOLD2
variable {f g : Nat → Nat} {a o : Nat} {I : Nat → Nat → Int32} {J : Nat → Nat → Int64}
theorem or_lt {n s e : Nat} (hs : s < 2 ^ n) (he : e < n) : s ||| 2 ^ e < 2 ^ n := Nat.or_lt_two_pow hs (Nat.pow_lt_pow_right (by omega) he)
theorem xor_lt {n s : Nat} (hs : s < 2 ^ n) : (2 ^ n - 1) ^^^ s < 2 ^ n := Nat.xor_lt_two_pow (by omega) hs
theorem lp_turnedBy {n e : Nat} {hs : Nat → Bool} (hH : Hd f g o) (hL : Lk I o (2 ^ n) hs) (h8 : n < 8) (he : e < n) : ∀ k s c, k + s = 2 ^ n → c = nI (cn (fun s => decide (nI s &&& nI (2 ^ e) = 0) && (!hs s && hs (s ||| 2 ^ e))) s) → am_u am_sh m_Ho_turnedBy (Rt (.int (nI (cn (fun s => decide (nI s &&& nI (2 ^ e) = 0) && (!hs s && hs (s ||| 2 ^ e))) (2 ^ n)))) (I, J, am_Rf f g)) (am_at am_c_Ho_turnedBy 4) 4 [some (.ref o), some (.int (nI (2 ^ e))), some (.int c), some (.int (nI s))] [] (I, J, am_Rf f g) := by
  have hT := pow_le7 h8
  intro k
  induction k with
  | zero =>
    intro s c hs hc
    obtain rfl : s = 2 ^ n := by omega
    rw [hc]
    exact ⟨hH.1, br_t (by rw [hL.1]; exact nI_lt (by omega) (by omega)) (j_Ho_turnedBy ⟨rfl, rfl⟩)⟩
  | succ k ih =>
    intro s c hs' hc
    have step : ∀ c', c' = nI (cn (fun s => decide (nI s &&& nI (2 ^ e) = 0) && (!hs s && hs (s ||| 2 ^ e))) (s + 1)) → am_u am_sh m_Ho_turnedBy (Rt (.int (nI (cn (fun s => decide (nI s &&& nI (2 ^ e) = 0) && (!hs s && hs (s ||| 2 ^ e))) (2 ^ n)))) (I, J, am_Rf f g)) (am_at am_c_Ho_turnedBy 41) 41 [some (.ref o), some (.int (nI (2 ^ e))), some (.int c'), some (.int (nI s))] [] (I, J, am_Rf f g) := by
      intro c' hc'
      refine j_Ho_turnedBy ?_
      rw [show nI s + 1 = nI (s + 1) from nI_1 s]
      exact ih (s + 1) c' (by omega) hc'
    have no : (decide (nI s &&& nI (2 ^ e) = 0) && (!hs s && hs (s ||| 2 ^ e))) = false → c = nI (cn (fun s => decide (nI s &&& nI (2 ^ e) = 0) && (!hs s && hs (s ||| 2 ^ e))) (s + 1)) := by
      intro q
      rw [hc, cn_no q]
    refine ⟨hH.1, br_f (by rw [hL.1]; exact nI_nlt (by omega) (by omega)) ⟨fun h1 => j_Ho_turnedBy (step _ (no ?_)), fun h1 => ⟨o + 1, hH.1, hH.2.1, 128, s, hH.2.2, by omega, rfl, ?_⟩⟩⟩
    · rw [decide_eq_false h1]
      rfl
    have e1 := hL.2 s (by omega)
    refine ⟨fun h2 => j_Ho_turnedBy (step _ (no ?_)), fun h2 => ⟨o + 1, hH.1, hH.2.1, 128, s ||| 2 ^ e, hH.2.2, Nat.lt_of_lt_of_le (or_lt (by omega) he) hT.2, nI_or s (2 ^ e), ?_⟩⟩
    · rw [b2i_ne0.mp (fun q => h2 (e1.trans q))]
      simp
    have e2 := hL.2 _ (or_lt (s := s) (by omega) he)
    refine ⟨fun h3 => j_Ho_turnedBy (step _ (no ?_)), fun h3 => ?_⟩
    · rw [b2i_eq0.mp (e2.symm.trans h3)]
      simp
    · refine step _ ?_
      rw [hc, cn_yes (by rw [decide_eq_true h1, b2i_eq0.mp (e1.symm.trans h2), b2i_ne0.mp (fun q => h3 (e2.trans q))]; rfl)]
      exact nI_1 _
theorem ev_turnedBy {n e : Nat} {hs : Nat → Bool} (hH : Hd f g o) (hL : Lk I o (2 ^ n) hs) (h8 : n < 8) (he : e < n) : am_ev am_sh m_Ho_turnedBy [.ref o, .int (nI (2 ^ e))] (I, J, am_Rf f g) (Rt (.int (nI (cn (fun s => decide (nI s &&& nI (2 ^ e) = 0) && (!hs s && hs (s ||| 2 ^ e))) (2 ^ n)))) (I, J, am_Rf f g)) := s_Ho_turnedBy (j_Ho_turnedBy (lp_turnedBy hH hL h8 he (2 ^ n) 0 _ (by omega) rfl))
/-- the least number of which some hold none, more than n if all do -/
def ftf (n : Nat) (hs : Nat → Bool) (s : Nat) (x : Int32) : Int32 := if hs ((2 ^ n - 1) ^^^ s) = true then x else if bc (nI s) < x then bc (nI s) else x
theorem lp_faults {n : Nat} {hs : Nat → Bool} (hH : Hd f g o) (hL : Lk I o (2 ^ n) hs) (h8 : n < 8) : ∀ k s c, k + s = 2 ^ n → c = fo (ftf n hs) 8 s → am_u am_sh m_Ho_faults (Rt (.int (fo (ftf n hs) 8 (2 ^ n) - 1)) (I, J, am_Rf f g)) (am_at am_c_Ho_faults 5) 5 [some (.ref o), some (.int c), some (.int (nI s))] [] (I, J, am_Rf f g) := by
  have hT := pow_le7 h8
  intro k
  induction k with
  | zero =>
    intro s c hs hc
    obtain rfl : s = 2 ^ n := by omega
    rw [hc]
    exact ⟨hH.1, br_t (by rw [hL.1]; exact nI_lt (by omega) (by omega)) (j_Ho_faults ⟨rfl, rfl⟩)⟩
  | succ k ih =>
    intro s c hs' hc
    have step : ∀ c', c' = fo (ftf n hs) 8 (s + 1) → am_u am_sh m_Ho_faults (Rt (.int (fo (ftf n hs) 8 (2 ^ n) - 1)) (I, J, am_Rf f g)) (am_at am_c_Ho_faults 36) 36 [some (.ref o), some (.int c'), some (.int (nI s))] [] (I, J, am_Rf f g) := by
      intro c' hc'
      refine j_Ho_faults ?_
      rw [show nI s + 1 = nI (s + 1) from nI_1 s]
      exact ih (s + 1) c' (by omega) hc'
    have hx : (2 ^ n - 1) ^^^ s < 2 ^ n := xor_lt (by omega)
    refine ⟨hH.1, br_f (by rw [hL.1]; exact nI_nlt (by omega) (by omega)) ⟨o + 1, hH.1, hH.2.1, hH.1, 128, (2 ^ n - 1) ^^^ s, hH.2.2, by omega, by rw [hL.1, nI_xor], ?_⟩⟩
    have e1 := hL.2 _ hx
    refine ⟨fun h2 => j_Ho_faults (step _ ?_), fun h2 => (ev_bc _ _).rt ?_⟩
    · rw [fo_s, ← hc]
      unfold ftf
      rw [if_pos (b2i_ne0.mp (fun q => h2 (e1.trans q)))]
    · refine step _ ?_
      rw [fo_s, ← hc]
      unfold ftf
      rw [b2i_eq0.mp (e1.symm.trans h2)]
      rfl
theorem ev_faults {n : Nat} {hs : Nat → Bool} (hH : Hd f g o) (hL : Lk I o (2 ^ n) hs) (h8 : n < 8) : am_ev am_sh m_Ho_faults [.ref o] (I, J, am_Rf f g) (Rt (.int (fo (ftf n hs) 8 (2 ^ n) - 1)) (I, J, am_Rf f g)) := s_Ho_faults (j_Ho_faults (lp_faults hH hL h8 (2 ^ n) 0 _ (by omega) rfl))
def frs (n : Nat) (hs : Nat → Bool) (s : Nat) : Bool := !hs s && !hs ((2 ^ n - 1) ^^^ s)
theorem ev_isFree {n s : Nat} {hs : Nat → Bool} (hH : Hd f g o) (hL : Lk I o (2 ^ n) hs) (h8 : n < 8) (h : s < 2 ^ n) : am_ev am_sh m_Ho_isFree [.ref o, .int (nI s)] (I, J, am_Rf f g) (Rt (.int (b2i (frs n hs s))) (I, J, am_Rf f g)) := by
  have hT := pow_le7 h8
  have hx : (2 ^ n - 1) ^^^ s < 2 ^ n := xor_lt (by omega)
  refine s_Ho_isFree ⟨o + 1, hH.1, hH.2.1, 128, s, hH.2.2, by omega, rfl, ?_⟩
  have e1 := hL.2 s h
  refine ⟨fun h1 => j_Ho_isFree ⟨Or.inl rfl, ?_, rfl⟩, fun h1 => ⟨o + 1, hH.1, hH.2.1, hH.1, 128, (2 ^ n - 1) ^^^ s, hH.2.2, by omega, by rw [hL.1, nI_xor], ?_⟩⟩
  · unfold frs
    rw [b2i_ne0.mp (fun q => h1 (e1.trans q))]
    rfl
  have e2 := hL.2 _ hx
  refine ⟨fun h2 => j_Ho_isFree ⟨Or.inl rfl, ?_, rfl⟩, fun h2 => ?_⟩
  · unfold frs
    rw [b2i_ne0.mp (fun q => h2 (e2.trans q)), Bool.not_true, Bool.and_false]
    rfl
  · refine j_Ho_isFree ⟨Or.inr rfl, ?_, rfl⟩
    unfold frs
    rw [b2i_eq0.mp (e1.symm.trans h1), b2i_eq0.mp (e2.symm.trans h2)]
    rfl
theorem lp_freeSets {n : Nat} {hs : Nat → Bool} (hH : Hd f g o) (hL : Lk I o (2 ^ n) hs) (h8 : n < 8) : ∀ k s c, k + s = 2 ^ n → c = nI (cn (frs n hs) s) → am_u am_sh m_Ho_freeSets (Rt (.int (nI (cn (frs n hs) (2 ^ n)))) (I, J, am_Rf f g)) (am_at am_c_Ho_freeSets 4) 4 [some (.ref o), some (.int c), some (.int (nI s))] [] (I, J, am_Rf f g) := by
  have hT := pow_le7 h8
  intro k
  induction k with
  | zero =>
    intro s c hs hc
    obtain rfl : s = 2 ^ n := by omega
    rw [hc]
    exact ⟨hH.1, br_t (by rw [hL.1]; exact nI_lt (by omega) (by omega)) (j_Ho_freeSets ⟨rfl, rfl⟩)⟩
  | succ k ih =>
    intro s c hs' hc
    have step : ∀ c', c' = nI (cn (frs n hs) (s + 1)) → am_u am_sh m_Ho_freeSets (Rt (.int (nI (cn (frs n hs) (2 ^ n)))) (I, J, am_Rf f g)) (am_at am_c_Ho_freeSets 23) 23 [some (.ref o), some (.int c'), some (.int (nI s))] [] (I, J, am_Rf f g) := by
      intro c' hc'
      refine j_Ho_freeSets ?_
      rw [show nI s + 1 = nI (s + 1) from nI_1 s]
      exact ih (s + 1) c' (by omega) hc'
    refine ⟨hH.1, br_f (by rw [hL.1]; exact nI_nlt (by omega) (by omega)) ⟨hH.1, (ev_isFree hH hL h8 (by omega)).rt ⟨fun h1 => j_Ho_freeSets (step _ ?_), fun h1 => ?_⟩⟩⟩
    · rw [hc, cn_no (b2i_eq0.mp h1)]
    · refine step _ ?_
      rw [hc, cn_yes (b2i_ne0.mp h1)]
      exact nI_1 _
theorem ev_freeSets {n : Nat} {hs : Nat → Bool} (hH : Hd f g o) (hL : Lk I o (2 ^ n) hs) (h8 : n < 8) : am_ev am_sh m_Ho_freeSets [.ref o] (I, J, am_Rf f g) (Rt (.int (nI (cn (frs n hs) (2 ^ n)))) (I, J, am_Rf f g)) := s_Ho_freeSets (j_Ho_freeSets (lp_freeSets hH hL h8 (2 ^ n) 0 _ (by omega) rfl))
def oi4 (r : Option Nat) : Int32 := match r with
  | some k => nI k
  | none => -4
theorem lp_leastFree {n : Nat} {hs : Nat → Bool} (hH : Hd f g o) (hL : Lk I o (2 ^ n) hs) (h8 : n < 8) : ∀ k s, k + s = 2 ^ n → (∀ j, j < s → frs n hs j = false) → am_u am_sh m_Ho_leastFree (Rt (.int (oi4 (fi (frs n hs) (2 ^ n)))) (I, J, am_Rf f g)) (am_at am_c_Ho_leastFree 2) 2 [some (.ref o), some (.int (nI s))] [] (I, J, am_Rf f g) := by
  have hT := pow_le7 h8
  intro k
  induction k with
  | zero =>
    intro s hs h0
    obtain rfl : s = 2 ^ n := by omega
    refine ⟨hH.1, br_t (by rw [hL.1]; exact nI_lt (by omega) (by omega)) (j_Ho_leastFree ⟨?_, rfl⟩)⟩
    rw [fi_none.mpr h0]
    rfl
  | succ k ih =>
    intro s hs' h0
    refine ⟨hH.1, br_f (by rw [hL.1]; exact nI_nlt (by omega) (by omega)) ⟨hH.1, (ev_isFree hH hL h8 (by omega)).rt ⟨fun h1 => j_Ho_leastFree (j_Ho_leastFree ?_), fun h1 => ⟨?_, rfl⟩⟩⟩⟩
    · rw [show nI s + 1 = nI (s + 1) from nI_1 s]
      refine ih (s + 1) (by omega) (fun j hj => ?_)
      by_cases e : j = s
      · subst e; exact b2i_eq0.mp h1
      · exact h0 j (by omega)
    · rw [fi_hit h0 (b2i_ne0.mp h1) (by omega)]
      rfl
theorem ev_leastFree {n : Nat} {hs : Nat → Bool} (hH : Hd f g o) (hL : Lk I o (2 ^ n) hs) (h8 : n < 8) : am_ev am_sh m_Ho_leastFree [.ref o] (I, J, am_Rf f g) (Rt (.int (oi4 (fi (frs n hs) (2 ^ n)))) (I, J, am_Rf f g)) := s_Ho_leastFree (j_Ho_leastFree (lp_leastFree hH hL h8 (2 ^ n) 0 (by omega) (fun _ h => by omega)))
end HOLD2
