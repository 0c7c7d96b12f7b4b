/-! the reference: letters, figures, groups got -/
def RT (I : Nat → Nat → Int32) (u : Nat → Nat) (n : Nat) : Prop := n ≤ 90 ∧ I 236 11 = nI n ∧ ∀ k, k < n → I 245 k = nI (u k) ∧ 32 ≤ u k ∧ u k ≤ 126
/-- only the place has changed -/
def Rat (I' I : Nat → Nat → Int32) : Prop := ∀ c k, ¬ (c = 236 ∧ k = 12) → I' c k = I c k
theorem Rat.tr {I'' I' I : Nat → Nat → Int32} (h1 : Rat I'' I') (h2 : Rat I' I) : Rat I'' I := fun c k h => by rw [h1 c k h, h2 c k h]
theorem Rat.up {I : Nat → Nat → Int32} {x : Int32} : Rat (am_up I 236 12 x) I := fun c k h => am_up_ne h
theorem Rat.rf (I : Nat → Nat → Int32) : Rat I I := fun _ _ _ => rfl
theorem Rat.row {I' I : Nat → Nat → Int32} (h : Rat I' I) {c : Nat} (hc : c ≠ 236) : I' c = I c := funext (fun k => h c k (fun q => hc q.1))
/-- the reader's own cells alone -/
def FrR (I' I : Nat → Nat → Int32) : Prop := (∀ c, c ≠ 236 → c ≠ 246 → c ≠ 247 → I' c = I c) ∧ ∀ k, ¬ (12 ≤ k ∧ k ≤ 16) → I' 236 k = I 236 k
theorem FrR.tr {I'' I' I : Nat → Nat → Int32} (h1 : FrR I'' I') (h2 : FrR I' I) : FrR I'' I := ⟨fun c a b d => by rw [h1.1 c a b d, h2.1 c a b d], fun k a => by rw [h1.2 k a, h2.2 k a]⟩
theorem FrR.rf (I : Nat → Nat → Int32) : FrR I I := ⟨fun _ _ _ _ => rfl, fun _ _ => rfl⟩
theorem Rat.fr {I' I : Nat → Nat → Int32} (h : Rat I' I) : FrR I' I := ⟨fun c a _ _ => h.row a, fun k a => h 236 k (by omega)⟩
theorem FrR.up {I' I : Nat → Nat → Int32} {k : Nat} {x : Int32} (h : FrR I' I) (hk : 12 ≤ k ∧ k ≤ 16) : FrR (am_up I' 236 k x) I := ⟨fun c a b d => by rw [up_cell a, h.1 c a b d], fun j a => by rw [am_up_ne (by omega), h.2 j a]⟩
theorem RT.fr {I' I : Nat → Nat → Int32} {u : Nat → Nat} {n : Nat} (h : RT I u n) (hf : FrR I' I) : RT I' u n := by
  unfold RT
  rw [hf.2 11 (by omega), hf.1 245 (by omega) (by omega) (by omega)]
  exact h
theorem RT.le {I : Nat → Nat → Int32} {u : Nat → Nat} {n : Nat} (h : RT I u n) (p : Nat) : lu u n p ≤ 126 := by
  unfold lu
  split
  · rename_i q
    exact (h.2.2 p q).2.2
  · omega
/-- groups got, and whether they were too many -/
def GL (I : Nat → Nat → Int32) (a : List Nat × Bool) : Prop := I 236 14 = nI a.1.length ∧ a.1.length ≤ 12 ∧ (∀ k v, a.1[k]? = some v → I 246 k = nI v ∧ v < 128) ∧ I 236 16 = b2i a.2
theorem GL.at {I' I : Nat → Nat → Int32} {a : List Nat × Bool} (h : GL I a) (hs : Rat I' I) : GL I' a := by
  unfold GL
  rw [hs 236 14 (by omega), hs 236 16 (by omega), hs.row (show 246 ≠ 236 by omega)]
  exact h
theorem GL.up {I : Nat → Nat → Int32} {a : List Nat × Bool} {k : Nat} {x : Int32} (h : GL I a) (hk : k ≠ 14 ∧ k ≠ 16) : GL (am_up I 236 k x) a := by
  unfold GL
  rw [am_up_ne (by omega), am_up_ne (by omega), up_cell (by omega)]
  exact h
def Gst (I' I : Nat → Nat → Int32) : Prop := (∀ c, c ≠ 236 → c ≠ 246 → I' c = I c) ∧ ∀ k, k ≠ 14 → k ≠ 16 → I' 236 k = I 236 k
theorem Gst.rf (I : Nat → Nat → Int32) : Gst I I := ⟨fun _ _ _ => rfl, fun _ _ _ => rfl⟩
theorem Gst.tr {I'' I' I : Nat → Nat → Int32} (h1 : Gst I'' I') (h2 : Gst I' I) : Gst I'' I := ⟨fun c a b => by rw [h1.1 c a b, h2.1 c a b], fun k a b => by rw [h1.2 k a b, h2.2 k a b]⟩
theorem Gst.fr {I' I : Nat → Nat → Int32} (h : Gst I' I) : FrR I' I := ⟨fun c a b _ => h.1 c a b, fun k a => h.2 k (by omega) (by omega)⟩
abbrev RfQ (f g : Nat → Nat) (I : Nat → Nat → Int32) (J : Nat → Nat → Int64) (r : Rs) : am_Q := fun x σ' => ∃ I', x = some (.int (b2i r.2.isSome)) ∧ σ' = (I', J, am_Rf f g) ∧ FrR I' I ∧ I' 236 12 = nI r.1 ∧ ∀ s l, r.2 = some (s, l) → I' 236 13 = nI s ∧ GL I' (l, false)
section MX
variable {f g : Nat → Nat} {I : Nat → Nat → Int32} {J : Nat → Nat → Int64} {u : Nat → Nat} {n : Nat}
theorem lp_here (h : RT I u n) {p0 : Nat} : ∀ k p (I' : Nat → Nat → Int32), k + p = n → I' 236 12 = nI p → Rat I' I → nx u n p = nx u n p0 → am_u am_sh m_MD_here (fun x σ' => x = some (.int (nI (lu u n (nx u n p0)))) ∧ ∃ I', σ' = (I', J, am_Rf f g) ∧ I' 236 12 = nI (nx u n p0) ∧ Rat I' I) (am_at am_c_MD_here 0) 0 [some (.ref 236)] [] (I', J, am_Rf f g) := by
  have h90 := h.1
  intro k
  induction k with
  | zero =>
    intro p I' hk hp hs hn
    obtain rfl : p = n := by omega
    have hc := h.fr hs.fr
    have l0 := lu_n (u := u) (n := p)
    rw [nx_no (by rw [l0]; decide)] at hn
    have ge : I' 236 11 ≤ I' 236 12 := by rw [hc.2.1, hp]; exact nI_le (Nat.le_refl _) (by omega)
    exact ⟨rfl, rfl, br_t ge (j_MD_here ⟨rfl, rfl, br_t ge (j_MD_here ⟨by rw [← hn, l0]; rfl, I', rfl, by rw [← hn]; exact hp, hs⟩)⟩)⟩
  | succ k ih =>
    intro p I' hk hp hs hn
    have hc := h.fr hs.fr
    have lb := h.le p
    have tp : I' 245 p = nI (lu u n p) := by rw [(hc.2.2 p (by omega)).1, lu_lt (by omega)]
    have lt : ¬ I' 236 11 ≤ I' 236 12 := by rw [hc.2.1, hp]; exact nI_ge (by omega) (by omega)
    refine ⟨rfl, rfl, br_f lt ⟨245, rfl, rfl, rfl, 90, p, rfl, by omega, hp, fun e => j_MD_here ?_, fun e => ⟨rfl, rfl, j_MD_here ?_⟩⟩⟩
    · have e : ¬ I' 245 p = nI 32 := e
      rw [tp, nI_eq (by omega) (by omega)] at e
      rw [nx_no e] at hn
      refine ⟨rfl, rfl, br_f lt ⟨245, rfl, rfl, rfl, 90, p, rfl, by omega, hp, j_MD_here ⟨?_, I', rfl, by rw [← hn]; exact hp, hs⟩⟩⟩
      rw [tp, ← hn]
    · have e : I' 245 p = nI 32 := e
      rw [tp, nI_eq (by omega) (by omega)] at e
      rw [hp, nI_1]
      exact ih (p + 1) _ (by omega) am_up_eq (Rat.up.tr hs) (by rw [← nx_yes e]; exact hn)
theorem ev_here {p : Nat} (h : RT I u n) (hp : I 236 12 = nI p) (hn : p ≤ n) : am_ev am_sh m_MD_here [.ref 236] (I, J, am_Rf f g) (fun x σ' => x = some (.int (nI (lu u n (nx u n p)))) ∧ ∃ I', σ' = (I', J, am_Rf f g) ∧ I' 236 12 = nI (nx u n p) ∧ Rat I' I) := s_MD_here (lp_here h (n - p) p I (by omega) hp (Rat.rf I) rfl)
theorem ev_mfigure {p m : Nat} {y : Int32} (h : RT I u n) (hp : I 236 12 = nI p) (hn : p ≤ n) (hy : y = nI m) (h8 : m < 8) : am_ev am_sh m_MD_figure [.ref 236, .int 1, .int y] (I, J, am_Rf f g) (fun x σ' => ∃ I', σ' = (I', J, am_Rf f g) ∧ Rat I' I ∧ ((∃ v, fig u n m p = some v ∧ 1 ≤ v ∧ v ≤ m ∧ x = some (.int (nI v)) ∧ I' 236 12 = nI (nx u n p + 1) ∧ nx u n p + 1 ≤ n) ∨ (fig u n m p = none ∧ x = some (.int (-1)) ∧ I' 236 12 = nI (nx u n p)))) := by
  have lb := h.le (nx u n p)
  rw [hy]
  refine s_MD_figure ⟨rfl, (ev_here h hp hn).mono ?_⟩
  rintro x σ' ⟨rfl, I1, rfl, a1, a2⟩
  obtain ⟨t1, t2⟩ := fig_tab (lu u n (nx u n p)) (by omega) m h8
  have key : (1 ≤ nI (lu u n (nx u n p)) - 48 ∧ nI (lu u n (nx u n p)) - 48 ≤ nI m) ↔ (49 ≤ lu u n (nx u n p) ∧ lu u n (nx u n p) ≤ 48 + m) := by
    rw [t2, ← Int32.not_lt, t1]
    omega
  refine (ev_in32 (nI (lu u n (nx u n p)) - 48) 1 (nI m) _).rt ⟨fun e => j_MD_figure ⟨rfl, rfl, _, rfl, Rat.up.tr a2, Or.inl ⟨lu u n (nx u n p) - 48, ?_⟩⟩, fun e => ⟨I1, rfl, a2, Or.inr ⟨?_, rfl, a1⟩⟩⟩
  · have w := key.mp (of_decide_eq_true (b2i_ne0.mp e))
    refine ⟨by unfold fig; rw [if_pos w], by omega, by omega, ?_, ?_, lu_pos (u := u) (by omega)⟩
    · rw [show nI (lu u n (nx u n p)) - 48 = nI (lu u n (nx u n p) - 48) from nI_sub (b := 48) (by omega)]
    · rw [am_up_eq, a1, nI_1]
  · unfold fig
    rw [if_neg (fun w => absurd (decide_eq_true (key.mpr w)) (by rw [b2i_eq0.mp e]; decide))]
theorem GL.get {a : List Nat × Bool} (h : GL I a) {k : Nat} (hk : k < a.1.length) : ∃ v, a.1[k]? = some v ∧ I 246 k = nI v ∧ v < 128 := ⟨a.1[k], List.getElem?_eq_getElem hk, h.2.2.1 k _ (List.getElem?_eq_getElem hk)⟩
theorem ev_gets {a : List Nat × Bool} {s : Nat} {x : Int32} (h : GL I a) (hx : x = nI s) (hs : s < 128) : am_ev am_sh m_MD_gets [.ref 236, .int x] (I, J, am_Rf f g) (fun r σ' => r = none ∧ ∃ I', σ' = (I', J, am_Rf f g) ∧ GL I' (gtt a s) ∧ Gst I' I) := by
  obtain ⟨g1, g2, g3, g4⟩ := id h
  rw [hx]
  have full : (a.2 = true ∨ a.1.length = 12) → am_u am_sh m_MD_gets (fun r σ' => r = none ∧ ∃ I', σ' = (I', J, am_Rf f g) ∧ GL I' (gtt a s) ∧ Gst I' I) (am_at am_c_MD_gets 22) 22 [some (.ref 236), some (.int (nI s))] [.int 1, .ref 236] (I, J, am_Rf f g) := fun w => ⟨rfl, Or.inr rfl, rfl, fun _ => j_MD_gets ⟨rfl, _, rfl, by
      unfold gtt
      rw [if_pos w]
      refine ⟨?_, g2, fun k v hk => ?_, ?_⟩
      · rw [am_up_ne (by omega)]; exact g1
      · rw [am_up_ne (by omega)]; exact g3 k v hk
      · rw [am_up_eq]; rfl, ⟨fun c c1 c2 => up_cell c1, fun k k1 k2 => am_up_ne (by omega)⟩⟩, fun e => absurd (show am_up I 236 16 1 236 16 = 0 from e) (by rw [am_up_eq]; decide)⟩
  refine s_MD_gets ⟨rfl, fun e => j_MD_gets (j_MD_gets (full (Or.inl ?_))), fun e => ⟨rfl, fun e2 => j_MD_gets ⟨rfl, Or.inl rfl, rfl, fun e3 => absurd (show am_up I 236 16 0 236 16 = 0 by rw [am_up_eq]) e3, fun _ => ⟨246, rfl, rfl, rfl, 12, a.1.length, rfl, ?_, ?_, rfl, rfl, rfl, _, rfl, ?_, ?_⟩⟩, fun e2 => j_MD_gets (full (Or.inr ?_))⟩⟩
  · have e : ¬ I 236 16 = 0 := e
    rw [g4] at e
    exact b2i_ne0.mp e
  · have e2 : ¬ I 236 14 = nI 12 := e2
    rw [g1, nI_eq (by omega) (by omega)] at e2
    omega
  · rw [am_up_ne (by omega)]; exact g1
  · have e : I 236 16 = 0 := e
    rw [g4] at e
    have e := b2i_eq0.mp e
    have e2 : ¬ I 236 14 = nI 12 := e2
    rw [g1, nI_eq (by omega) (by omega)] at e2
    unfold gtt
    rw [if_neg (fun w => by
      rcases w with w | w
      · rw [e] at w; cases w
      · exact e2 w)]
    refine ⟨?_, by simp; omega, fun k v hk => ?_, ?_⟩
    · rw [am_up_eq, am_up_ne (by omega), am_up_ne (by omega), g1, nI_1]
      simp
    · rw [am_up_ne (by omega)]
      rcases Nat.lt_trichotomy k a.1.length with q | q | q
      · have hk : (a.1 ++ [s])[k]? = some v := hk
        rw [List.getElem?_append_left q] at hk
        rw [am_up_ne (by omega), am_up_ne (by omega)]
        exact g3 k v hk
      · subst q
        have hk : (a.1 ++ [s])[a.1.length]? = some v := hk
        rw [List.getElem?_append_right (Nat.le_refl _), Nat.sub_self] at hk
        have : v = s := (Option.some.inj hk).symm
        rw [am_up_eq, this]
        exact ⟨rfl, hs⟩
      · have hk : (a.1 ++ [s])[k]? = some v := hk
        rw [List.getElem?_eq_none (by simp; omega)] at hk
        cases hk
    · rw [am_up_ne (by omega), am_up_ne (by omega), am_up_eq]
      rfl
  · refine ⟨fun c c1 c2 => ?_, fun k k1 k2 => ?_⟩
    · rw [up_cell c1, up_cell c2, up_cell c1]
    · rw [am_up_ne (by omega), am_up_ne (by omega), am_up_ne (by omega)]
  · have e2 : I 236 14 = nI 12 := e2
    rw [g1, nI_eq (by omega) (by omega)] at e2
    exact e2
theorem lp_isGot {a : List Nat × Bool} {s : Nat} (h : GL I a) (hs : s < 128) : ∀ m k (y : Bool), m + k = a.1.length → (y = true ↔ ∃ j, j < k ∧ a.1[j]? = some s) → am_u am_sh m_MD_isGot (Rt (.int (b2i (a.1.contains s))) (I, J, am_Rf f g)) (am_at am_c_MD_isGot 4) 4 [some (.ref 236), some (.int (nI s)), some (.int (b2i y)), some (.int (nI k))] [] (I, J, am_Rf f g) := by
  obtain ⟨g1, g2, g3, g4⟩ := id h
  intro m
  induction m with
  | zero =>
    intro k y hk h0
    have : a.1.contains s = y := by
      cases hy : y with
      | true =>
        obtain ⟨j, _, hj⟩ := h0.mp hy
        exact has_iff.mpr ⟨j, hj⟩
      | false =>
        cases hc : a.1.contains s with
        | false => rfl
        | true =>
          obtain ⟨j, hj⟩ := has_iff.mp hc
          have := (List.getElem?_eq_some_iff.mp hj).1
          have := h0.mpr ⟨j, by omega, hj⟩
          rw [hy] at this
          cases this
    rw [this]
    exact ⟨rfl, br_t (by rw [g1]; exact nI_le (by omega) (by omega)) (j_MD_isGot ⟨b2i_01 _, rfl, rfl⟩)⟩
  | succ m ih =>
    intro k y hk h0
    obtain ⟨v, v1, v2, v3⟩ := h.get (show k < a.1.length by omega)
    have yes : (y = true ∨ v = s) → am_u am_sh m_MD_isGot (Rt (.int (b2i (a.1.contains s))) (I, J, am_Rf f g)) (am_at am_c_MD_isGot 4) 4 [some (.ref 236), some (.int (nI s)), some (.int (b2i true)), some (.int (nI (k + 1)))] [] (I, J, am_Rf f g) := fun w => ih (k + 1) true (by omega) ⟨fun _ => by
      rcases w with w | w
      · obtain ⟨j, j1, j2⟩ := h0.mp w
        exact ⟨j, by omega, j2⟩
      · exact ⟨k, by omega, by rw [v1, w]⟩, fun _ => rfl⟩
    refine ⟨rfl, br_f (by rw [g1]; exact nI_ge (by omega) (by omega)) ⟨fun e => j_MD_isGot (j_MD_isGot (j_MD_isGot ?_)), fun e => ⟨246, rfl, rfl, 12, k, rfl, by omega, rfl, fun e2 => j_MD_isGot (j_MD_isGot ?_), fun e2 => j_MD_isGot (j_MD_isGot ?_)⟩⟩⟩
    · rw [nI_1]
      exact yes (Or.inl (b2i_ne0.mp e))
    · have e2 : ¬ I 246 k = nI s := e2
      rw [v2, nI_eq (by omega) (by omega)] at e2
      rw [nI_1]
      refine ih (k + 1) false (by omega) ⟨fun w => (by cases w), fun w => ?_⟩
      obtain ⟨j, j1, j2⟩ := w
      by_cases q : j = k
      · rw [q, v1] at j2
        exact absurd (Option.some.inj j2) e2
      · have := h0.mpr ⟨j, by omega, j2⟩
        rw [b2i_eq0.mp e] at this
        exact this
    · have e2 : I 246 k = nI s := e2
      rw [v2, nI_eq (by omega) (by omega)] at e2
      rw [nI_1]
      exact yes (Or.inr e2)
theorem ev_isGot {a : List Nat × Bool} {s : Nat} {x : Int32} (h : GL I a) (hx : x = nI s) (hs : s < 128) : am_ev am_sh m_MD_isGot [.ref 236, .int x] (I, J, am_Rf f g) (Rt (.int (b2i (a.1.contains s))) (I, J, am_Rf f g)) := by
  rw [hx]
  exact s_MD_isGot (j_MD_isGot (lp_isGot h hs a.1.length 0 false (by omega) ⟨fun w => (by cases w), fun ⟨j, j1, _⟩ => by omega⟩))
end MX
