/-! the class's Reader: letters, figures, groups told -/
theorem chr_tb2 : ∀ c, c < 128 → (nI c).toUInt32.toUInt16.toUInt32.toInt32 = nI c := by decide +kernel
theorem nar_chr {c : Nat} (h : c < 128) : narrow .char (.int (nI c)) = .int (nI c) := congrArg Value.int (chr_tb2 c h)
/-- the tape of the class -/
def CT (I : Nat → Nat → Int32) (u : Nat → Nat) (n : Nat) : Prop := n ≤ 90 ∧ I 203 0 = nI n ∧ ∀ k, k < n → I 204 k = nI (u k) ∧ 32 ≤ u k ∧ u k ≤ 126
/-- only the place has changed -/
def Sat (I' I : Nat → Nat → Int32) : Prop := ∀ c k, ¬ (c = 201 ∧ k = 6) → I' c k = I c k
theorem Sat.tr {I'' I' I : Nat → Nat → Int32} (h1 : Sat I'' I') (h2 : Sat I' I) : Sat I'' I := fun c k h => by rw [h1 c k h, h2 c k h]
theorem Sat.up {I : Nat → Nat → Int32} {x : Int32} : Sat (am_up I 201 6 x) I := fun c k h => am_up_ne h
/-- the reader's own cells alone -/
def FrC (I' I : Nat → Nat → Int32) : Prop := ∀ c, c ≠ 201 → c ≠ 202 → c ≠ 205 → I' c = I c
theorem Sat.fr {I' I : Nat → Nat → Int32} (h : Sat I' I) : FrC I' I := fun c c1 _ _ => by
  funext k
  exact h c k (fun q => c1 q.1)
theorem FrC.tr {I'' I' I : Nat → Nat → Int32} (h1 : FrC I'' I') (h2 : FrC I' I) : FrC I'' I := fun c a b d => by rw [h1 c a b d, h2 c a b d]
theorem FrC.rf (I : Nat → Nat → Int32) : FrC I I := fun _ _ _ _ => rfl
theorem CT.fr {I' I : Nat → Nat → Int32} {u : Nat → Nat} {n : Nat} (h : CT I u n) (hf : FrC I' I) : CT I' u n := by
  unfold CT
  rw [hf 203 (by omega) (by omega) (by omega), hf 204 (by omega) (by omega) (by omega)]
  exact h
theorem CT.le {I : Nat → Nat → Int32} {u : Nat → Nat} {n : Nat} (h : CT I u n) (p : Nat) : lu u n p ≤ 126 := by
  unfold lu
  split
  · rename_i q
    exact (h.2.2 p q).2.2
  · omega
section RD
variable {f g : Nat → Nat} {I : Nat → Nat → Int32} {J : Nat → Nat → Int64} {u : Nat → Nat} {n : Nat}
theorem ev_tAt {p : Nat} {x : Int32} (h : CT I u n) (hx : x = nI p) (hp : p < 2 ^ 31) : am_ev am_sh m_Ta_at [.ref 203, .int x] (I, J, am_Rf f g) (Rt (.int (nI (lu u n p))) (I, J, am_Rf f g)) := by
  have e : ltr (I 204) n p = nI (lu u n p) := by
    unfold ltr lu
    split
    · rename_i q
      exact (h.2.2 p q).1
    · rfl
  rw [hx, ← e]
  exact ev_tapeAt h.2.1 h.1 hp (fun k hk => by
    rw [(h.2.2 k hk).1]
    exact nar_chr (by have := (h.2.2 k hk).2.2; omega))
theorem lp_next (h : CT I u n) {p0 : Nat} : ∀ k p (I' : Nat → Nat → Int32), k + p = n → I' 201 6 = nI p → Sat I' I → nx u n p = nx u n p0 → am_u am_sh m_Re_next (fun x σ' => x = some (.int (nI (lu u n (nx u n p0)))) ∧ ∃ I', σ' = (I', J, am_Rf f g) ∧ I' 201 6 = nI (nx u n p0) ∧ Sat I' I) (am_at am_c_Re_next 0) 0 [some (.ref 201)] [] (I', J, am_Rf f g) := by
  have h90 := h.1
  intro k
  induction k with
  | zero =>
    intro p I' hk hp hs hn
    obtain rfl : p = n := by omega
    have hc := h.fr hs.fr
    have l0 := lu_n (u := u) (n := p)
    rw [nx_no (by rw [l0]; decide)] at hn
    refine ⟨203, rfl, rfl, rfl, rfl, (ev_tAt hc hp (by omega)).rt ⟨fun _ => j_Re_next ⟨203, rfl, rfl, rfl, rfl, (ev_tAt hc hp (by omega)).rt ⟨nar_chr (by rw [l0]; decide), by rw [← hn], I', rfl, by rw [← hn]; exact hp, hs⟩⟩, fun e => ?_⟩⟩
    rw [l0] at e
    exact absurd e (by decide)
  | succ k ih =>
    intro p I' hk hp hs hn
    have hc := h.fr hs.fr
    have lb := h.le p
    refine ⟨203, rfl, rfl, rfl, rfl, (ev_tAt hc hp (by omega)).rt ⟨fun e => j_Re_next ?_, fun e => ?_⟩⟩
    · have e : ¬ nI (lu u n p) = nI 32 := e
      rw [nI_eq (by omega) (by omega)] at e
      rw [nx_no e] at hn
      exact ⟨203, rfl, rfl, rfl, rfl, (ev_tAt hc hp (by omega)).rt ⟨nar_chr (by omega), by rw [← hn], I', rfl, by rw [← hn]; exact hp, hs⟩⟩
    · have e : nI (lu u n p) = nI 32 := e
      rw [nI_eq (by omega) (by omega)] at e
      refine ⟨rfl, br_f (by rw [hp]; exact nI_ge (b := 90) (by omega) (by omega)) ⟨rfl, rfl, j_Re_next ?_⟩⟩
      rw [hp, nI_1]
      exact ih (p + 1) _ (by omega) am_up_eq (Sat.up.tr hs) (by rw [← nx_yes e]; exact hn)
theorem ev_next {p : Nat} (h : CT I u n) (hp : I 201 6 = nI p) (hn : p ≤ n) : am_ev am_sh m_Re_next [.ref 201] (I, J, am_Rf f g) (fun x σ' => x = some (.int (nI (lu u n (nx u n p)))) ∧ ∃ I', σ' = (I', J, am_Rf f g) ∧ I' 201 6 = nI (nx u n p) ∧ Sat I' I) := s_Re_next (lp_next h (n - p) p I (by omega) hp (fun _ _ _ => rfl) rfl)
theorem lp_skipName (h : CT I u n) {p0 : Nat} : ∀ k p (I' : Nat → Nat → Int32), k + p = n → I' 201 6 = nI p → Sat I' I → ln u n p = ln u n p0 → am_u am_sh m_Re_skipName (fun x σ' => x = none ∧ ∃ I', σ' = (I', J, am_Rf f g) ∧ I' 201 6 = nI (ln u n p0) ∧ Sat I' I) (am_at am_c_Re_skipName 0) 0 [some (.ref 201)] [] (I', J, am_Rf f g) := by
  have h90 := h.1
  intro k
  induction k with
  | zero =>
    intro p I' hk hp hs hn
    obtain rfl : p = n := by omega
    have hc := h.fr hs.fr
    have l0 := lu_n (u := u) (n := p)
    rw [ln_no (by rw [l0]; omega)] at hn
    exact ⟨203, rfl, rfl, rfl, rfl, (ev_tAt hc hp (by omega)).rt (br_t (by rw [l0]; decide) (j_Re_skipName ⟨rfl, I', rfl, by rw [← hn]; exact hp, hs⟩))⟩
  | succ k ih =>
    intro p I' hk hp hs hn
    have hc := h.fr hs.fr
    have lb := h.le p
    have at' := fun {K : am_Q} => (ev_tAt (f := f) (g := g) (J := J) hc hp (by omega)).rt (K := K)
    have out : ¬ (97 ≤ lu u n p ∧ lu u n p ≤ 122) → (none : Option Value) = none ∧ ∃ I'', (I', J, am_Rf f g) = (I'', J, am_Rf f g) ∧ I'' 201 6 = nI (ln u n p0) ∧ Sat I'' I := fun w => ⟨rfl, I', rfl, by rw [← hn, ln_no w]; exact hp, hs⟩
    refine ⟨203, rfl, rfl, rfl, rfl, at' ⟨fun e => j_Re_skipName (out (fun w => ?_)), fun e => ⟨203, rfl, rfl, rfl, rfl, at' ⟨fun e2 => j_Re_skipName (out (fun w => ?_)), fun e2 => ⟨rfl, br_f (by rw [hp]; exact nI_ge (b := 90) (by omega) (by omega)) ⟨rfl, rfl, j_Re_skipName ?_⟩⟩⟩⟩⟩⟩
    · have e : nI (lu u n p) < nI 97 := e
      rw [nI_ltI (by omega) (by omega)] at e
      omega
    · have e2 : nI 122 < nI (lu u n p) := e2
      rw [nI_ltI (by omega) (by omega)] at e2
      omega
    · have e : ¬ nI (lu u n p) < nI 97 := e
      have e2 : ¬ nI 122 < nI (lu u n p) := e2
      rw [nI_ltI (by omega) (by omega)] at e e2
      rw [hp, nI_1]
      exact ih (p + 1) _ (by omega) am_up_eq (Sat.up.tr hs) (by rw [← ln_yes ⟨by omega, by omega⟩]; exact hn)
theorem ev_skipName {p : Nat} (h : CT I u n) (hp : I 201 6 = nI p) (hn : p ≤ n) : am_ev am_sh m_Re_skipName [.ref 201] (I, J, am_Rf f g) (fun x σ' => x = none ∧ ∃ I', σ' = (I', J, am_Rf f g) ∧ I' 201 6 = nI (ln u n p) ∧ Sat I' I) := s_Re_skipName (lp_skipName h (n - p) p I (by omega) hp (fun _ _ _ => rfl) rfl)
theorem ev_skips {p c : Nat} (h : CT I u n) (hp : I 201 6 = nI p) (hn : p ≤ n) (h0 : 1 ≤ c) (h1 : c < 128) : am_ev am_sh m_Re_skips [.ref 201, .int (nI c)] (I, J, am_Rf f g) (fun x σ' => ∃ y I', x = some (.int (b2i y)) ∧ σ' = (I', J, am_Rf f g) ∧ Sat I' I ∧ (y = true → lu u n (nx u n p) = c ∧ I' 201 6 = nI (nx u n p + 1) ∧ nx u n p + 1 ≤ n) ∧ (y = false → ¬ lu u n (nx u n p) = c ∧ I' 201 6 = nI (nx u n p))) := by
  have lb := h.le (nx u n p)
  refine s_Re_skips ⟨rfl, (ev_next h hp hn).mono ?_⟩
  rintro x σ' ⟨rfl, I1, rfl, a1, a2⟩
  refine ⟨fun e => j_Re_skips ⟨rfl, rfl, Or.inr rfl, true, _, rfl, rfl, Sat.up.tr a2, fun _ => ?_, fun w => (by cases w)⟩, fun e => ⟨Or.inl rfl, false, I1, rfl, rfl, a2, fun w => (by cases w), fun _ => ⟨?_, a1⟩⟩⟩
  · have e : nI (lu u n (nx u n p)) = nI c := e
    rw [nI_eq (by omega) (by omega)] at e
    refine ⟨e, ?_, lu_pos (u := u) (by omega)⟩
    rw [am_up_eq, a1, nI_1]
  · have e : ¬ nI (lu u n (nx u n p)) = nI c := e
    rw [nI_eq (by omega) (by omega)] at e
    exact e
theorem ev_ends {p : Nat} (h : CT I u n) (hp : I 201 6 = nI p) (hn : p ≤ n) : am_ev am_sh m_Re_ends [.ref 201] (I, J, am_Rf f g) (fun x σ' => ∃ I', x = some (.int (b2i (decide (lu u n (nx u n p) = 0)))) ∧ σ' = (I', J, am_Rf f g) ∧ Sat I' I ∧ I' 201 6 = nI (nx u n p)) := by
  have lb := h.le (nx u n p)
  refine s_Re_ends ⟨rfl, (ev_next h hp hn).mono ?_⟩
  rintro x σ' ⟨rfl, I1, rfl, a1, a2⟩
  refine ⟨fun e => j_Re_ends ⟨Or.inl rfl, I1, ?_, rfl, a2, a1⟩, fun e => j_Re_ends ⟨Or.inr rfl, I1, ?_, rfl, a2, a1⟩⟩
  · have e : ¬ nI (lu u n (nx u n p)) = nI 0 := e
    rw [nI_eq (by omega) (by omega)] at e
    rw [decide_eq_false e]
    rfl
  · have e : nI (lu u n (nx u n p)) = nI 0 := e
    rw [nI_eq (by omega) (by omega)] at e
    rw [decide_eq_true e]
    rfl
theorem fig_tab : ∀ c, c < 128 → ∀ m, m < 8 → ((nI c - 48 < 1 ↔ c < 49) ∧ (nI c - 48 ≤ nI m ↔ c ≤ 48 + m)) := by decide +kernel
theorem ev_figure {p m : Nat} {y : Int32} (h : CT I u n) (hp : I 201 6 = nI p) (hn : p ≤ n) (hy : y = nI m) (h8 : m < 8) : am_ev am_sh m_Re_figure [.ref 201, .int y] (I, J, am_Rf f g) (fun x σ' => ∃ I', σ' = (I', J, am_Rf f g) ∧ Sat I' I ∧ ((∃ v, fig u n m p = some v ∧ 1 ≤ v ∧ v ≤ m ∧ x = some (.int (nI v)) ∧ I' 201 6 = nI (nx u n p + 1) ∧ nx u n p + 1 ≤ n) ∨ (fig u n m p = none ∧ x = some (.int 0) ∧ I' 201 6 = nI (nx u n p)))) := by
  have lb := h.le (nx u n p)
  rw [hy]
  refine s_Re_figure ⟨rfl, (ev_next h hp hn).mono ?_⟩
  rintro x σ' ⟨rfl, I1, rfl, a1, a2⟩
  obtain ⟨t1, t2⟩ := fig_tab (lu u n (nx u n p)) (by omega) m h8
  -- fault
  have no : ¬ (49 ≤ lu u n (nx u n p) ∧ lu u n (nx u n p) ≤ 48 + m) → ∃ I', (I1, J, am_Rf f g) = (I', J, am_Rf f g) ∧ Sat I' I ∧ ((∃ v, fig u n m p = some v ∧ 1 ≤ v ∧ v ≤ m ∧ (some (.int 0) : Option Value) = some (.int (nI v)) ∧ I' 201 6 = nI (nx u n p + 1) ∧ nx u n p + 1 ≤ n) ∨ (fig u n m p = none ∧ (some (.int 0) : Option Value) = some (.int 0) ∧ I' 201 6 = nI (nx u n p))) := fun w => ⟨I1, rfl, a2, Or.inr ⟨by unfold fig; rw [if_neg w], rfl, a1⟩⟩
  refine ⟨fun e => j_Re_figure (no (fun w => ?_)), fun e => ⟨fun e2 => j_Re_figure ⟨rfl, rfl, _, rfl, Sat.up.tr a2, Or.inl ⟨lu u n (nx u n p) - 48, ?_⟩⟩, fun e2 => no (fun w => e2 (t2.mpr w.2))⟩⟩
  · have := t1.mp e
    omega
  · have b1 := mt t1.mpr e
    have b2 := t2.mp e2
    refine ⟨by unfold fig; rw [if_pos ⟨by omega, b2⟩], by omega, by omega, ?_, ?_, lu_pos (u := u) (by omega)⟩
    · rw [show nI (lu u n (nx u n p)) - 48 = nI (lu u n (nx u n p) - 48) from nI_sub (b := 48) (by omega)]
    · rw [am_up_eq, a1, nI_1]
/-- the groups told so far -/
def TL (I : Nat → Nat → Int32) (l : List Nat) : Prop := I 201 1 = nI l.length ∧ l.length ≤ 12 ∧ ∀ k v, l[k]? = some v → I 202 k = nI v ∧ v < 128
theorem TL.sat {I' : Nat → Nat → Int32} {l : List Nat} (h : TL I l) (hs : Sat I' I) : TL I' l := by
  unfold TL
  rw [hs 201 1 (by omega), show I' 202 = I 202 from funext (fun k => hs 202 k (by omega))]
  exact h
end RD
