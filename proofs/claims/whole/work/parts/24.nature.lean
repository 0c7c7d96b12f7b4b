/-! what a row of sets is -/
section NATURE
variable {f g : Nat → Nat} {a : Nat} {I : Nat → Nat → Int32} {J : Nat → Nat → Int64} {N : Nat} {v : Nat → Int32}
theorem ba_s {P : Nat → Bool} {n : Nat} : ba P (n + 1) = (ba P n && P n) := by
  show (!(bx (fun k => !P k) n || !P n)) = (!bx (fun k => !P k) n && P n)
  cases bx (fun k => !P k) n <;> cases P n <;> rfl
theorem lp_any2 {k : Nat} {q : am_Q} (hT : Tk I N v) (h12 : N ≤ 12) (hk : k < N) (hno : (∃ j, j < k ∧ v k &&& v j = 0) → q (some (.int 0)) (I, J, am_Rf f g)) (hyes : (∀ j, j < k → ¬ v k &&& v j = 0) → am_u am_sh m_Ro_anyTwoMeet q (am_at am_c_Ro_anyTwoMeet 41) 41 [some (.ref 225), some (.int (nI k)), some (.int (nI k))] [] (I, J, am_Rf f g)) : ∀ n j, n + j = k → (∀ i, i < j → ¬ v k &&& v i = 0) → am_u am_sh m_Ro_anyTwoMeet q (am_at am_c_Ro_anyTwoMeet 12) 12 [some (.ref 225), some (.int (nI k)), some (.int (nI j))] [] (I, J, am_Rf f g) := by
  intro n
  induction n with
  | zero =>
    intro j hj h0
    obtain rfl : j = k := by omega
    exact br_t (Int32.le_refl _) (j_Ro_anyTwoMeet (hyes h0))
  | succ n ih =>
    intro j hj h0
    have e1 := hT.2 k hk
    have e2 := hT.2 j (by omega)
    refine br_f (nI_ge (by omega) (by omega)) ⟨226, rfl, rfl, 12, k, rfl, by omega, rfl, 226, rfl, rfl, 12, j, rfl, by omega, rfl, fun h1 => j_Ro_anyTwoMeet (j_Ro_anyTwoMeet ?_), fun h1 => ⟨Or.inl rfl, hno ⟨j, by omega, ?_⟩⟩⟩
    · rw [e1, e2] at h1
      rw [show nI j + 1 = nI (j + 1) from nI_1 j]
      refine ih (j + 1) (by omega) (fun i hi => ?_)
      by_cases e : i = j
      · subst e; exact h1
      · exact h0 i (by omega)
    · rw [e1, e2] at h1
      exact h1
def any2 (v : Nat → Int32) (N : Nat) : Bool := ba (fun k => ba (fun j => !decide (v k &&& v j = 0)) k) N
theorem lp_any {w : Option Value} (hT : Tk I N v) (h12 : N ≤ 12) : ∀ n k w, n + k = N → (∀ i, i < k → ba (fun j => !decide (v i &&& v j = 0)) i = true) → am_u am_sh m_Ro_anyTwoMeet (Rt (.int (b2i (any2 v N))) (I, J, am_Rf f g)) (am_at am_c_Ro_anyTwoMeet 2) 2 [some (.ref 225), some (.int (nI k)), w] [] (I, J, am_Rf f g) := by
  intro n
  induction n with
  | zero =>
    intro k w hk h0
    obtain rfl : k = N := by omega
    refine ⟨rfl, br_t (by rw [hT.1]; exact nI_le (by omega) (by omega)) (j_Ro_anyTwoMeet ⟨Or.inr rfl, ?_, rfl⟩)⟩
    unfold any2
    rw [ba_iff.mpr h0]
    rfl
  | succ n ih =>
    intro k w hk h0
    refine ⟨rfl, br_f (by rw [hT.1]; exact nI_ge (by omega) (by omega)) ?_⟩
    refine j_Ro_anyTwoMeet (lp_any2 hT h12 (by omega) (fun h => ?_) (fun h => ?_) k 0 (by omega) (fun i hi => by omega))
    · obtain ⟨j, h1, h2⟩ := h
      refine ⟨?_, rfl⟩
      have hb : any2 v N = false := ba_no (P := fun k => ba (fun j => !decide (v k &&& v j = 0)) k) (k := k) (by omega) (ba_no (P := fun j => !decide (v k &&& v j = 0)) (k := j) h1 (by rw [decide_eq_true h2]; rfl))
      rw [hb]
      rfl
    · refine j_Ro_anyTwoMeet ?_
      rw [show nI k + 1 = nI (k + 1) from nI_1 k]
      refine ih (k + 1) _ (by omega) (fun i hi => ?_)
      by_cases e : i = k
      · subst e
        exact ba_iff.mpr (fun j hj => by rw [decide_eq_false (h j hj)]; rfl)
      · exact h0 i (by omega)
theorem ev_any (hT : Tk I N v) (h12 : N ≤ 12) : am_ev am_sh m_Ro_anyTwoMeet [.ref 225] (I, J, am_Rf f g) (Rt (.int (b2i (any2 v N))) (I, J, am_Rf f g)) := s_Ro_anyTwoMeet (j_Ro_anyTwoMeet (lp_any (w := none) hT h12 N 0 _ rfl (fun _ h => by omega)))
theorem lp_non2 {k : Nat} {q : am_Q} (hT : Tk I N v) (h12 : N ≤ 12) (hk : k < N) (hno : (∃ j, j < N ∧ ¬ j = k ∧ v j &&& (v k ^^^ (-1)) = 0) → q (some (.int 0)) (I, J, am_Rf f g)) (hyes : (∀ j, j < N → ¬ j = k → ¬ v j &&& (v k ^^^ (-1)) = 0) → am_u am_sh m_Ro_isNonePart q (am_at am_c_Ro_isNonePart 51) 51 [some (.ref 225), some (.int (nI k)), some (.int (nI N))] [] (I, J, am_Rf f g)) : ∀ n j, n + j = N → (∀ i, i < j → ¬ i = k → ¬ v i &&& (v k ^^^ (-1)) = 0) → am_u am_sh m_Ro_isNonePart q (am_at am_c_Ro_isNonePart 12) 12 [some (.ref 225), some (.int (nI k)), some (.int (nI j))] [] (I, J, am_Rf f g) := by
  intro n
  induction n with
  | zero =>
    intro j hj h0
    obtain rfl : j = N := by omega
    exact ⟨rfl, br_t (by rw [hT.1]; exact Int32.le_refl _) (j_Ro_isNonePart (hyes h0))⟩
  | succ n ih =>
    intro j hj h0
    have e1 := hT.2 k hk
    have e2 := hT.2 j (by omega)
    have step : (¬ j = k → ¬ v j &&& (v k ^^^ (-1)) = 0) → am_run am_sh m_Ro_isNonePart q 45 [some (.ref 225), some (.int (nI k)), some (.int (nI j))] [] (I, J, am_Rf f g) := by
      intro h1
      refine j_Ro_isNonePart (j_Ro_isNonePart ?_)
      rw [show nI j + 1 = nI (j + 1) from nI_1 j]
      refine ih (j + 1) (by omega) (fun i hi => ?_)
      by_cases e : i = j
      · subst e; exact h1
      · exact h0 i (by omega)
    refine ⟨rfl, br_f (by rw [hT.1]; exact nI_ge (by omega) (by omega)) ⟨fun h1 => step (fun q => absurd ((nI_eq (by omega) (by omega)).mp h1) q), fun h1 => ⟨226, rfl, rfl, 12, j, rfl, by omega, rfl, 226, rfl, rfl, 12, k, rfl, by omega, rfl, fun h2 => step (fun _ => ?_), fun h2 => ⟨Or.inl rfl, hno ⟨j, by omega, fun q => h1 (by rw [q]), ?_⟩⟩⟩⟩⟩
    · rw [e1, e2] at h2
      exact h2
    · rw [e1, e2] at h2
      exact h2
def non2 (v : Nat → Int32) (N : Nat) : Bool := ba (fun k => ba (fun j => Nat.beq j k || !decide (v j &&& (v k ^^^ (-1)) = 0)) N) N
theorem lp_non {w : Option Value} (hT : Tk I N v) (h12 : N ≤ 12) : ∀ n k w, n + k = N → (∀ i, i < k → ba (fun j => Nat.beq j i || !decide (v j &&& (v i ^^^ (-1)) = 0)) N = true) → am_u am_sh m_Ro_isNonePart (Rt (.int (b2i (non2 v N))) (I, J, am_Rf f g)) (am_at am_c_Ro_isNonePart 2) 2 [some (.ref 225), some (.int (nI k)), w] [] (I, J, am_Rf f g) := by
  intro n
  induction n with
  | zero =>
    intro k w hk h0
    obtain rfl : k = N := by omega
    refine ⟨rfl, br_t (by rw [hT.1]; exact nI_le (by omega) (by omega)) (j_Ro_isNonePart ⟨Or.inr rfl, ?_, rfl⟩)⟩
    unfold non2
    rw [ba_iff.mpr h0]
    rfl
  | succ n ih =>
    intro k w hk h0
    refine ⟨rfl, br_f (by rw [hT.1]; exact nI_ge (by omega) (by omega)) ?_⟩
    refine j_Ro_isNonePart (lp_non2 hT h12 (by omega) (fun h => ?_) (fun h => ?_) N 0 (by omega) (fun i hi => by omega))
    · obtain ⟨j, h1, h2, h3⟩ := h
      refine ⟨?_, rfl⟩
      have hb : non2 v N = false := ba_no (P := fun k => ba (fun j => Nat.beq j k || !decide (v j &&& (v k ^^^ (-1)) = 0)) N) (k := k) (by omega) (ba_no (P := fun j => Nat.beq j k || !decide (v j &&& (v k ^^^ (-1)) = 0)) (k := j) h1 (by rw [nbq h2, decide_eq_true h3]; rfl))
      rw [hb]
      rfl
    · refine j_Ro_isNonePart ?_
      rw [show nI k + 1 = nI (k + 1) from nI_1 k]
      refine ih (k + 1) _ (by omega) (fun i hi => ?_)
      by_cases e : i = k
      · subst e
        refine ba_iff.mpr (fun j hj => ?_)
        by_cases e2 : j = i
        · subst e2; simp
        · rw [nbq e2, decide_eq_false (h j hj e2)]; rfl
      · exact h0 i (by omega)
theorem ev_non (hT : Tk I N v) (h12 : N ≤ 12) : am_ev am_sh m_Ro_isNonePart [.ref 225] (I, J, am_Rf f g) (Rt (.int (b2i (non2 v N))) (I, J, am_Rf f g)) := s_Ro_isNonePart (j_Ro_isNonePart (lp_non (w := none) hT h12 N 0 _ rfl (fun _ h => by omega)))
def one2 (v : Nat → Int32) (N : Nat) : Bool := ba (fun k => decide (bc (v k) = bc (v 0))) N
theorem lp_one (hT : Tk I N v) (h12 : N ≤ 12) (h1 : 1 ≤ N) : ∀ n k, n + k = N → 1 ≤ k → (∀ i, i < k → decide (bc (v i) = bc (v 0)) = true) → am_u am_sh m_Ro_isOneCount (Rt (.int (b2i (one2 v N))) (I, J, am_Rf f g)) (am_at am_c_Ro_isOneCount 2) 2 [some (.ref 225), some (.int (nI k))] [] (I, J, am_Rf f g) := by
  intro n
  induction n with
  | zero =>
    intro k hk hk1 h0
    obtain rfl : k = N := by omega
    refine ⟨rfl, br_t (by rw [hT.1]; exact nI_le (by omega) (by omega)) (j_Ro_isOneCount ⟨Or.inr rfl, ?_, rfl⟩)⟩
    unfold one2
    rw [ba_iff.mpr h0]
    rfl
  | succ n ih =>
    intro k hk hk1 h0
    have e1 := hT.2 k (by omega)
    have e2 := hT.2 0 (by omega)
    refine ⟨rfl, br_f (by rw [hT.1]; exact nI_ge (by omega) (by omega)) ⟨226, rfl, rfl, 12, k, rfl, by omega, rfl, (ev_bc _ _).rt ⟨226, rfl, rfl, 12, 0, rfl, by omega, rfl, (ev_bc _ _).rt ⟨fun h2 => j_Ro_isOneCount (j_Ro_isOneCount ?_), fun h2 => ⟨Or.inl rfl, ?_, rfl⟩⟩⟩⟩⟩
    · rw [e1, e2] at h2
      rw [show nI k + 1 = nI (k + 1) from nI_1 k]
      refine ih (k + 1) (by omega) (by omega) (fun i hi => ?_)
      by_cases e : i = k
      · subst e; exact decide_eq_true h2
      · exact h0 i (by omega)
    · rw [e1, e2] at h2
      unfold one2
      rw [ba_no (k := k) (by omega) (decide_eq_false h2)]
      rfl
theorem ev_one (hT : Tk I N v) (h12 : N ≤ 12) (h1 : 1 ≤ N) : am_ev am_sh m_Ro_isOneCount [.ref 225] (I, J, am_Rf f g) (Rt (.int (b2i (one2 v N))) (I, J, am_Rf f g)) := s_Ro_isOneCount (j_Ro_isOneCount (lp_one hT h12 h1 (N - 1) 1 (by omega) (by omega) (fun i hi => by rw [show i = 0 by omega]; exact decide_eq_true rfl)))
def tmf (v : Nat → Int32) (e : Int32) (k : Nat) (s : Int32) : Int32 := s + (v k >>> (e &&& 31) &&& 1)
theorem lp_times (e : Int32) (hT : Tk I N v) (h12 : N ≤ 12) : ∀ n k s, n + k = N → s = fo (tmf v e) 0 k → am_u am_sh m_Ro_timesOf (Rt (.int (fo (tmf v e) 0 N)) (I, J, am_Rf f g)) (am_at am_c_Ro_timesOf 4) 4 [some (.ref 225), some (.int e), some (.int s), some (.int (nI k))] [] (I, J, am_Rf f g) := by
  intro n
  induction n with
  | zero =>
    intro k s hk hs
    obtain rfl : k = N := by omega
    rw [hs]
    exact ⟨rfl, br_t (by rw [hT.1]; exact nI_le (by omega) (by omega)) (j_Ro_timesOf ⟨rfl, rfl⟩)⟩
  | succ n ih =>
    intro k s hk hs
    have e1 := hT.2 k (by omega)
    refine ⟨rfl, br_f (by rw [hT.1]; exact nI_ge (by omega) (by omega)) ⟨226, rfl, rfl, 12, k, rfl, by omega, rfl, ?_⟩⟩
    refine j_Ro_timesOf ?_
    rw [show nI k + 1 = nI (k + 1) from nI_1 k]
    exact ih (k + 1) _ (by omega) (by rw [fo_s, ← hs, e1]; rfl)
theorem ev_times (e : Int32) (hT : Tk I N v) (h12 : N ≤ 12) : am_ev am_sh m_Ro_timesOf [.ref 225, .int e] (I, J, am_Rf f g) (Rt (.int (fo (tmf v e) 0 N)) (I, J, am_Rf f g)) := s_Ro_timesOf (j_Ro_timesOf (lp_times e hT h12 N 0 _ rfl rfl))
def evn (v : Nat → Int32) (N n : Nat) : Bool := ba (fun e => decide (fo (tmf v (nI e)) 0 N = fo (tmf v 0) 0 N)) n
theorem lp_even {m : Nat} (hT : Tk I N v) (h12 : N ≤ 12) (h8 : m < 8) : ∀ n e, n + e = m → 1 ≤ e → (∀ i, i < e → decide (fo (tmf v (nI i)) 0 N = fo (tmf v 0) 0 N) = true) → am_u am_sh m_Ro_isEven (Rt (.int (b2i (evn v N m))) (I, J, am_Rf f g)) (am_at am_c_Ro_isEven 2) 2 [some (.ref 225), some (.int (nI m)), some (.int (nI e))] [] (I, J, am_Rf f g) := by
  intro n
  induction n with
  | zero =>
    intro e he h1 h0
    obtain rfl : e = m := by omega
    refine br_t (Int32.le_refl _) (j_Ro_isEven ⟨Or.inr rfl, ?_, rfl⟩)
    unfold evn
    rw [ba_iff.mpr h0]
    rfl
  | succ n ih =>
    intro e he h1 h0
    refine br_f (nI_ge (by omega) (by omega)) ⟨rfl, (ev_times (nI e) hT h12).rt ⟨rfl, (ev_times 0 hT h12).rt ⟨fun h2 => j_Ro_isEven (j_Ro_isEven ?_), fun h2 => ⟨Or.inl rfl, ?_, rfl⟩⟩⟩⟩
    · rw [show nI e + 1 = nI (e + 1) from nI_1 e]
      refine ih (e + 1) (by omega) (by omega) (fun i hi => ?_)
      by_cases q : i = e
      · subst q; exact decide_eq_true h2
      · exact h0 i (by omega)
    · unfold evn
      rw [ba_no (k := e) (by omega) (decide_eq_false h2)]
      rfl
theorem ev_even {m : Nat} (hT : Tk I N v) (h12 : N ≤ 12) (h8 : m < 8) (h1 : 1 ≤ m) : am_ev am_sh m_Ro_isEven [.ref 225, .int (nI m)] (I, J, am_Rf f g) (Rt (.int (b2i (evn v N m))) (I, J, am_Rf f g)) := s_Ro_isEven (j_Ro_isEven (lp_even hT h12 h8 (m - 1) 1 (by omega) (by omega) (fun i hi => by rw [show i = 0 by omega]; exact decide_eq_true rfl)))
end NATURE
