/-! the reference: what groups have in common, faults, free sets -/
theorem pc12_and {x y : Nat} (hx : x < 128) : pc12 (x &&& y) = pc7 (x &&& y) := pc12_7 _ (Nat.lt_of_le_of_lt Nat.and_le_left hx)
theorem and_lt {x y : Nat} (hx : x < 128) : x &&& y < 128 := Nat.lt_of_le_of_lt Nat.and_le_left hx
section REF2
variable {f g : Nat → Nat} {I : Nat → Nat → Int32} {J : Nat → Nat → Int64} {M : Nat} {gs : Nat → Nat}
/-- the groups of the reference -/
def Gm (I : Nat → Nat → Int32) (M : Nat) (gs : Nat → Nat) : Prop := I 237 1 = nI M ∧ M ≤ 12 ∧ ∀ k, k < M → I 237 (4 + k) = nI (gs k) ∧ gs k < 128
def lwf (gs : Nat → Nat) (p k : Nat) (x : Int32) : Int32 := if ¬ k = p ∧ (x < 0 ∨ nI (pc7 (gs k &&& gs p)) < x) then nI (pc7 (gs k &&& gs p)) else x
theorem lp_leastWith {p : Nat} (hG : Gm I M gs) (hp : p < M) : ∀ n k s w, n + k = M → s = fo (lwf gs p) (-4) k → am_u am_sh m_MD_leastWith (Rt (.int (fo (lwf gs p) (-4) M)) (I, J, am_Rf f g)) (am_at am_c_MD_leastWith 5) 5 [some (.ref 236), some (.int (nI p)), some (.int s), some (.int (nI k)), w] [] (I, J, am_Rf f g) := by
  obtain ⟨hM, h12, hg⟩ := hG
  intro n
  induction n with
  | zero =>
    intro k s w hk hs
    obtain rfl : k = M := by omega
    rw [hs]
    exact ⟨237, rfl, rfl, 116, 1, rfl, by omega, rfl, br_t (by rw [hM]; exact Int32.le_refl _) (j_MD_leastWith ⟨rfl, rfl⟩)⟩
  | succ n ih =>
    intro k s w hk hs
    have e1 := (hg k (by omega)).1
    have e2 := (hg p (by omega)).1
    have l1 := (hg k (by omega)).2
    refine ⟨237, rfl, rfl, 116, 1, rfl, by omega, rfl, br_f (by rw [hM]; exact nI_ge (by omega) (by omega)) ⟨rfl, (ev_mat (by omega)).rt ⟨rfl, (ev_mat (by omega)).rt ?_⟩⟩⟩
    show am_ev am_sh m_MD_bits [.int (I 237 (4 + k) &&& I 237 (4 + p))] _ _
    rw [e1, e2, nI_and]
    refine (ev_bits (Nat.lt_trans (and_lt l1) (by omega)) _).rt ?_
    have step : ∀ s', s' = fo (lwf gs p) (-4) (k + 1) → am_u am_sh m_MD_leastWith (Rt (.int (fo (lwf gs p) (-4) M)) (I, J, am_Rf f g)) (am_at am_c_MD_leastWith 52) 52 [some (.ref 236), some (.int (nI p)), some (.int s), some (.int (nI k)), some (.int (nI (pc12 (gs k &&& gs p))))] [.int s'] (I, J, am_Rf f g) := by
      intro s' hs'
      refine j_MD_leastWith ?_
      rw [show nI k + 1 = nI (k + 1) from nI_1 k]
      exact ih (k + 1) s' _ (by omega) hs'
    rw [pc12_and l1] at step ⊢
    refine ⟨fun h1 => j_MD_leastWith (step _ ?_), fun h1 => ⟨fun h2 => j_MD_leastWith (j_MD_leastWith (step _ ?_)), fun h2 => ⟨fun h3 => j_MD_leastWith (step _ ?_), fun h3 => j_MD_leastWith (step _ ?_)⟩⟩⟩
    · rw [fo_s, ← hs]
      unfold lwf
      rw [if_neg (fun q => q.1 ((nI_eq (by omega) (by omega)).mp h1))]
    · rw [fo_s, ← hs]
      unfold lwf
      rw [if_pos ⟨fun q => h1 (by rw [q]), Or.inl h2⟩]
    · rw [fo_s, ← hs]
      unfold lwf
      rw [if_neg (fun q => q.2.elim h2 (fun z => absurd z (Int32.not_lt.mpr h3)))]
    · rw [fo_s, ← hs]
      unfold lwf
      rw [if_pos ⟨fun q => h1 (by rw [q]), Or.inr (Int32.not_le.mp h3)⟩]
theorem ev_leastWith {p : Nat} (hG : Gm I M gs) (hp : p < M) : am_ev am_sh m_MD_leastWith [.ref 236, .int (nI p)] (I, J, am_Rf f g) (Rt (.int (fo (lwf gs p) (-4) M)) (I, J, am_Rf f g)) := s_MD_leastWith (j_MD_leastWith (lp_leastWith hG hp M 0 _ _ rfl rfl))
def cof (gs : Nat → Nat) (k j : Nat) (x : Int32) : Int32 := if x < 0 ∨ nI (pc7 (gs j &&& gs k)) < x then nI (pc7 (gs j &&& gs k)) else x
def cog (gs : Nat → Nat) (k : Nat) (x : Int32) : Int32 := fo (cof gs k) x (k + 1)
theorem lp_mcommon2 {k : Nat} {v : Int32} {q : am_Q} (hG : Gm I M gs) (hk : k < M) (K : ∀ w, am_u am_sh m_MD_common q (am_at am_c_MD_common 61) 61 [some (.ref 236), some (.int (cog gs k v)), some (.int (nI k)), some (.int (nI (k + 1))), w] [] (I, J, am_Rf f g)) : ∀ n j s w, n + j = k + 1 → s = fo (cof gs k) v j → am_u am_sh m_MD_common q (am_at am_c_MD_common 17) 17 [some (.ref 236), some (.int s), some (.int (nI k)), some (.int (nI j)), w] [] (I, J, am_Rf f g) := by
  obtain ⟨hM, h12, hg⟩ := hG
  intro n
  induction n with
  | zero =>
    intro j s w hj hs
    obtain rfl : j = k + 1 := by omega
    rw [hs]
    exact br_t (nI_lt (by omega) (by omega)) (j_MD_common (K w))
  | succ n ih =>
    intro j s w hj hs
    have e1 := (hg j (by omega)).1
    have e2 := (hg k (by omega)).1
    have l1 := (hg j (by omega)).2
    refine br_f (nI_nlt (by omega) (by omega)) ⟨rfl, (ev_mat (by omega)).rt ⟨rfl, (ev_mat (by omega)).rt ?_⟩⟩
    show am_ev am_sh m_MD_bits [.int (I 237 (4 + j) &&& I 237 (4 + k))] _ _
    rw [e1, e2, nI_and]
    refine (ev_bits (Nat.lt_trans (and_lt l1) (by omega)) _).rt ?_
    have step : ∀ s', s' = fo (cof gs k) v (j + 1) → am_u am_sh m_MD_common q (am_at am_c_MD_common 54) 54 [some (.ref 236), some (.int s), some (.int (nI k)), some (.int (nI j)), some (.int (nI (pc12 (gs j &&& gs k))))] [.int s'] (I, J, am_Rf f g) := by
      intro s' hs'
      refine j_MD_common ?_
      rw [show nI j + 1 = nI (j + 1) from nI_1 j]
      exact ih (j + 1) s' _ (by omega) hs'
    rw [pc12_and l1] at step ⊢
    refine ⟨fun h2 => j_MD_common (j_MD_common (step _ ?_)), fun h2 => ⟨fun h3 => j_MD_common (step _ ?_), fun h3 => j_MD_common (step _ ?_)⟩⟩
    · rw [fo_s, ← hs]
      unfold cof
      rw [if_pos (Or.inl h2)]
    · rw [fo_s, ← hs]
      unfold cof
      rw [if_neg (fun q => q.elim h2 (fun z => absurd z (Int32.not_lt.mpr h3)))]
    · rw [fo_s, ← hs]
      unfold cof
      rw [if_pos (Or.inr (Int32.not_le.mp h3))]
theorem lp_mcommon (hG : Gm I M gs) : ∀ n k s w w2, n + k = M → s = fo (cog gs) (-4) k → am_u am_sh m_MD_common (Rt (.int (fo (cog gs) (-4) M)) (I, J, am_Rf f g)) (am_at am_c_MD_common 5) 5 [some (.ref 236), some (.int s), some (.int (nI k)), w, w2] [] (I, J, am_Rf f g) := by
  have hM := hG.1
  have h12 := hG.2.1
  intro n
  induction n with
  | zero =>
    intro k s w w2 hk hs
    obtain rfl : k = M := by omega
    rw [hs]
    exact ⟨237, rfl, rfl, 116, 1, rfl, by omega, rfl, br_t (by rw [hM]; exact Int32.le_refl _) (j_MD_common ⟨rfl, rfl⟩)⟩
  | succ n ih =>
    intro k s w w2 hk hs
    refine ⟨237, rfl, rfl, 116, 1, rfl, by omega, rfl, br_f (by rw [hM]; exact nI_ge (by omega) (by omega)) ?_⟩
    refine j_MD_common (lp_mcommon2 (v := s) hG (by omega) (fun w => ?_) (k + 1) 0 _ _ rfl (fo_0 _ _).symm)
    refine j_MD_common ?_
    rw [show nI k + 1 = nI (k + 1) from nI_1 k]
    exact ih (k + 1) _ _ _ (by omega) (by rw [fo_s, ← hs])
theorem ev_mcommon (hG : Gm I M gs) : am_ev am_sh m_MD_common [.ref 236] (I, J, am_Rf f g) (Rt (.int (fo (cog gs) (-4) M)) (I, J, am_Rf f g)) := s_MD_common (j_MD_common (lp_mcommon hG M 0 _ _ _ rfl rfl))
/-- whether a set holds a group -/
def hlm (gs : Nat → Nat) (M s : Nat) : Bool := bx (fun k => sb (gs k) s) M
theorem ev_mh {s : Nat} (hG : Gm I M gs) (hs : s < 128) : am_ev am_sh m_MD_holds [.ref 236, .int (nI s)] (I, J, am_Rf f g) (Rt (.int (b2i (hlm gs M s))) (I, J, am_Rf f g)) := by
  have h := ev_mholds (f := f) (g := g) (J := J) (x := nI s) hG.1 hG.2.1
  have e : bx (fun k => decide (I 237 (4 + k) &&& (nI s ^^^ (-1)) = 0)) M = hlm gs M s := by
    unfold hlm
    refine bx_congr (fun k hk => ?_)
    obtain ⟨h1, h2⟩ := hG.2.2 k hk
    rw [h1]
    have := sb_tab (gs k) h2 s hs
    cases hb : sb (gs k) s with
    | true => exact decide_eq_true (this.mpr hb)
    | false => exact decide_eq_false (fun q => by rw [this.mp q] at hb; cases hb)
  rw [e] at h
  exact h
/-- complement within n elements, as Java does it -/
theorem cmp_tab : ∀ n, n < 8 → ∀ s, s < 128 → s < 2 ^ n → nI (2 ^ n - 1) &&& (nI s ^^^ (-1)) = nI ((2 ^ n - 1) ^^^ s) := by decide +kernel
def mff (n : Nat) (hs : Nat → Bool) (s : Nat) (x : Int32) : Int32 := if ¬ hs ((2 ^ n - 1) ^^^ s) = true ∧ nI (pc7 s) < x then nI (pc7 s) else x
theorem lp_mfaults {n : Nat} (hG : Gm I M gs) (hn : I 237 0 = nI n) (h8 : n < 8) : ∀ k s c, k + s = 2 ^ n → c = fo (mff n (hlm gs M)) (nI (n + 1)) s → am_u am_sh m_MD_faults (Rt (.int (fo (mff n (hlm gs M)) (nI (n + 1)) (2 ^ n) - 1)) (I, J, am_Rf f g)) (am_at am_c_MD_faults 11) 11 [some (.ref 236), some (.int c), some (.int (nI s))] [] (I, J, am_Rf f g) := by
  have hT := pow_le7 h8
  intro k
  induction k with
  | zero =>
    intro s c hs hc
    obtain rfl : s = 2 ^ n := by omega
    rw [hc]
    exact ⟨rfl, (ev_mall hn h8).rt (br_t (nI_lt (by omega) (by omega)) (j_MD_faults ⟨rfl, rfl⟩))⟩
  | succ k ih =>
    intro s c hs' hc
    have step : ∀ c', c' = fo (mff n (hlm gs M)) (nI (n + 1)) (s + 1) → am_u am_sh m_MD_faults (Rt (.int (fo (mff n (hlm gs M)) (nI (n + 1)) (2 ^ n) - 1)) (I, J, am_Rf f g)) (am_at am_c_MD_faults 50) 50 [some (.ref 236), some (.int c), some (.int (nI s))] [.int c'] (I, J, am_Rf f g) := by
      intro c' hc'
      refine j_MD_faults ?_
      rw [show nI s + 1 = nI (s + 1) from nI_1 s]
      exact ih (s + 1) c' (by omega) hc'
    have hx : (2 ^ n - 1) ^^^ s < 2 ^ n := xor_lt (by omega)
    refine ⟨rfl, (ev_mall hn h8).rt (br_f (nI_nlt (by omega) (by omega)) ⟨rfl, (ev_mall hn h8).rt ⟨rfl, ?_⟩⟩)⟩
    show am_ev am_sh m_MD_holds [.ref 236, .int (nI (2 ^ n - 1) &&& (nI s ^^^ (-1)))] _ _
    rw [cmp_tab n h8 s (by omega) (by omega)]
    refine (ev_mh hG (by omega)).rt ⟨fun h1 => j_MD_faults (step _ ?_), fun h1 => (ev_bits (by omega) _).rt ?_⟩
    · rw [fo_s, ← hc]
      unfold mff
      rw [if_neg (fun q => q.1 (b2i_ne0.mp h1))]
    · have e7 : pc12 s = pc7 s := pc12_7 s (by omega)
      rw [e7]
      have hno : ¬ hlm gs M ((2 ^ n - 1) ^^^ s) = true := by rw [b2i_eq0.mp h1]; decide
      refine ⟨fun h2 => j_MD_faults (step _ ?_), fun h2 => (ev_bits (by omega) _).rt ?_⟩
      · rw [fo_s, ← hc]
        unfold mff
        rw [if_neg (fun q => absurd q.2 (Int32.not_lt.mpr h2))]
      · rw [e7]
        refine j_MD_faults (step _ ?_)
        rw [fo_s, ← hc]
        unfold mff
        rw [if_pos ⟨hno, Int32.not_le.mp h2⟩]
theorem ev_mfaults {n : Nat} (hG : Gm I M gs) (hn : I 237 0 = nI n) (h8 : n < 8) : am_ev am_sh m_MD_faults [.ref 236] (I, J, am_Rf f g) (Rt (.int (fo (mff n (hlm gs M)) (nI (n + 1)) (2 ^ n) - 1)) (I, J, am_Rf f g)) := by
  refine s_MD_faults ⟨237, rfl, rfl, 116, 0, rfl, by omega, rfl, ?_⟩
  refine j_MD_faults ?_
  rw [hn, nI_1]
  exact lp_mfaults hG hn h8 (2 ^ n) 0 _ (by omega) rfl
end REF2
