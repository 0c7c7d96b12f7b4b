/-! the class's Reader: groups told; names; majority, grid, plane -/
theorem has_iff {l : List Nat} {s : Nat} : l.contains s = true ↔ ∃ k : Nat, l[k]? = some s := by
  rw [← List.mem_iff_getElem?]
  simp
/-- the groups alone have changed -/
def Stl (I' I : Nat → Nat → Int32) : Prop := (∀ c, c ≠ 201 → c ≠ 202 → I' c = I c) ∧ ∀ k, k ≠ 1 → I' 201 k = I 201 k
theorem Stl.rf (I : Nat → Nat → Int32) : Stl I I := ⟨fun _ _ _ => rfl, fun _ _ => rfl⟩
theorem Stl.tr {I'' I' I : Nat → Nat → Int32} (h1 : Stl I'' I') (h2 : Stl I' I) : Stl I'' I := ⟨fun c a b => by rw [h1.1 c a b, h2.1 c a b], fun k a => by rw [h1.2 k a, h2.2 k a]⟩
theorem Stl.fr {I' I : Nat → Nat → Int32} (h : Stl I' I) : FrC I' I := fun c a b _ => h.1 c a b
abbrev RdQ (f g : Nat → Nat) (I : Nat → Nat → Int32) (J : Nat → Nat → Int64) (r : Rs) : am_Q := fun x σ' => ∃ I', x = some (.int (b2i r.2.isSome)) ∧ σ' = (I', J, am_Rf f g) ∧ FrC I' I ∧ I' 201 6 = nI r.1 ∧ ∀ s l, r.2 = some (s, l) → I' 201 0 = nI s ∧ TL I' l
section RD
variable {f g : Nat → Nat} {I : Nat → Nat → Int32} {J : Nat → Nat → Int64} {u : Nat → Nat} {n : Nat}
theorem TL.get {l : List Nat} (h : TL I l) {k : Nat} (hk : k < l.length) : ∃ v, l[k]? = some v ∧ I 202 k = nI v ∧ v < 128 := ⟨l[k], List.getElem?_eq_getElem hk, h.2.2 k _ (List.getElem?_eq_getElem hk)⟩
theorem lp_isTold {l : List Nat} {s : Nat} (h : TL I l) (hs : s < 128) : ∀ m k, m + k = l.length → (∀ j, j < k → ¬ l[j]? = some s) → am_u am_sh m_Re_isTold (Rt (.int (b2i (l.contains s))) (I, J, am_Rf f g)) (am_at am_c_Re_isTold 2) 2 [some (.ref 201), some (.int (nI s)), some (.int (nI k))] [] (I, J, am_Rf f g) := by
  have h12 := h.2.1
  intro m
  induction m with
  | zero =>
    intro k hk h0
    refine ⟨rfl, br_t (by rw [h.1]; exact nI_le (by omega) (by omega)) (j_Re_isTold ⟨Or.inl rfl, ?_, rfl⟩)⟩
    have : l.contains s = false := by
      cases hc : l.contains s with
      | false => rfl
      | true =>
        obtain ⟨j, hj⟩ := has_iff.mp hc
        have := (List.getElem?_eq_some_iff.mp hj).1
        exact absurd hj (h0 j (by omega))
    rw [this]
    rfl
  | succ m ih =>
    intro k hk h0
    obtain ⟨v, v1, v2, v3⟩ := h.get (show k < l.length by omega)
    refine ⟨rfl, br_f (by rw [h.1]; exact nI_ge (by omega) (by omega)) ⟨202, rfl, rfl, 12, k, rfl, by omega, rfl, fun e => j_Re_isTold (j_Re_isTold ?_), fun e => ⟨Or.inr rfl, ?_, rfl⟩⟩⟩
    · have e : ¬ I 202 k = nI s := e
      rw [v2, nI_eq (by omega) (by omega)] at e
      rw [nI_1]
      refine ih (k + 1) (by omega) (fun j hj w => ?_)
      by_cases q : j = k
      · rw [q, v1] at w
        exact e (Option.some.inj w)
      · exact h0 j (by omega) w
    · have e : I 202 k = nI s := e
      rw [v2, nI_eq (by omega) (by omega)] at e
      rw [has_iff.mpr ⟨k, by rw [v1, e]⟩]
      rfl
theorem ev_isTold {l : List Nat} {s : Nat} (h : TL I l) (hs : s < 128) : am_ev am_sh m_Re_isTold [.ref 201, .int (nI s)] (I, J, am_Rf f g) (Rt (.int (b2i (l.contains s))) (I, J, am_Rf f g)) := s_Re_isTold (j_Re_isTold (lp_isTold h hs l.length 0 (by omega) (fun j hj => by omega)))
theorem ev_tell {l : List Nat} {s : Nat} {x : Int32} (h : TL I l) (hx : x = nI s) (hs : s < 128) : am_ev am_sh m_Re_tell [.ref 201, .int x] (I, J, am_Rf f g) (fun r σ' => r = none ∧ ∃ I', σ' = (I', J, am_Rf f g) ∧ TL I' (tel l s) ∧ Stl I' I) := by
  have h12 := h.2.1
  rw [hx]
  have no : ¬ (l.length < 12 ∧ ¬ l.contains s = true) → (none : Option Value) = none ∧ ∃ I', (I, J, am_Rf f g) = (I', J, am_Rf f g) ∧ TL I' (tel l s) ∧ Stl I' I := fun w => ⟨rfl, I, rfl, by unfold tel; rw [if_neg w]; exact h, Stl.rf I⟩
  refine s_Re_tell ⟨rfl, fun e => j_Re_tell (no (fun w => ?_)), fun e => ⟨rfl, (ev_isTold h hs).rt ⟨fun e2 => j_Re_tell (no (fun w => w.2 (b2i_ne0.mp e2))), fun e2 => ⟨202, rfl, rfl, rfl, 12, l.length, rfl, ?_, h.1, rfl, rfl, rfl, _, rfl, ?_, ?_⟩⟩⟩⟩
  · have e : nI 12 ≤ I 201 1 := e
    rw [h.1, nI_leI (by omega) (by omega)] at e
    omega
  · have e : ¬ nI 12 ≤ I 201 1 := e
    rw [h.1, nI_leI (by omega) (by omega)] at e
    omega
  · have e : ¬ nI 12 ≤ I 201 1 := e
    rw [h.1, nI_leI (by omega) (by omega)] at e
    have c0 := b2i_eq0.mp e2
    unfold tel
    rw [if_pos ⟨by omega, by rw [c0]; decide⟩]
    refine ⟨?_, by rw [List.length_append]; simp; omega, fun k v hk => ?_⟩
    · rw [am_up_eq, am_up_ne (by omega), h.1, nI_1, List.length_append]
      rfl
    · rw [am_up_ne (by omega)]
      rcases Nat.lt_trichotomy k l.length with q | q | q
      · rw [List.getElem?_append_left q] at hk
        rw [am_up_ne (by omega)]
        exact h.2.2 k v hk
      · subst q
        rw [List.getElem?_append_right (Nat.le_refl _), Nat.sub_self] at hk
        have : v = s := (Option.some.inj hk).symm
        rw [am_up_eq, this]
        exact ⟨rfl, hs⟩
      · rw [List.getElem?_eq_none (by rw [List.length_append]; simp; omega)] at hk
        cases hk
  · refine ⟨fun c c1 c2 => ?_, fun k hk => ?_⟩
    · rw [up_cell c1, up_cell c2]
    · rw [am_up_ne (by omega), am_up_ne (by omega)]
/-- all must be read, and is not -/
theorem fin_no {p : Nat} : fin u n (p, none) = (nx u n p, none) := rfl
theorem fin_yes {p : Nat} {x : Nat × List Nat} (h : lu u n (nx u n p) = 0) : fin u n (p, some x) = (nx u n p, some x) := if_pos h
theorem fin_not {p : Nat} {x : Nat × List Nat} (h : ¬ lu u n (nx u n p) = 0) : fin u n (p, some x) = (nx u n p, none) := if_neg h
theorem fo_tel {F : Nat → List Nat → List Nat} {l : List Nat} (k : Nat) : fo F l (k + 1) = F k (fo F l k) := rfl
theorem pow_tab : ∀ v, v < 6 → 2 ^ v ≤ 32 := by decide
theorem lp_majority {v : Nat} (h1 : 1 ≤ v) (h6 : v < 6) {q : am_Q} (hq : ∀ I' : Nat → Nat → Int32, TL I' (majL v) → Stl I' I → q (some (.int 1)) (I', J, am_Rf f g)) (hn : I 201 0 = nI v) : ∀ m k (I' : Nat → Nat → Int32), m + k = 2 ^ v → TL I' (fo (fun s l => if pc7 s = v / 2 + 1 then tel l s else l) [] k) → Stl I' I → am_u am_sh m_Re_majority q (am_at am_c_Re_majority 27) 27 [some (.ref 201), some (.int (nI k))] [] (I', J, am_Rf f g) := by
  have hp := pow_tab v h6
  intro m
  induction m with
  | zero =>
    intro k I' hk hT hS
    obtain rfl : k = 2 ^ v := by omega
    refine ⟨rfl, br_t ?_ (j_Re_majority ⟨Or.inr rfl, hq I' hT hS⟩)⟩
    rw [hS.2 0 (by omega), hn, shl_tab v (by omega)]
    exact nI_le (Nat.le_refl _) (by omega)
  | succ m ih =>
    intro k I' hk hT hS
    have e0 : I' 201 0 = nI v := by rw [hS.2 0 (by omega), hn]
    refine ⟨rfl, br_f ?_ ((ev_bc (nI k) _).rt ⟨rfl, by decide, fun e => j_Re_majority (j_Re_majority ?_), fun e => ⟨rfl, (ev_tell hT rfl (show k < 128 by omega)).mono ?_⟩⟩)⟩
    · rw [e0, shl_tab v (by omega)]
      exact nI_ge (by omega) (by omega)
    · have e : ¬ bc (nI k) = I' 201 0 / nI 2 + 1 := e
      have pl : pc7 k ≤ 7 := by unfold pc7; omega
      rw [bc_tab k (by omega), e0, nI_div (by omega) (by omega), nI_1, nI_eq (by omega) (by omega)] at e
      rw [nI_1]
      refine ih (k + 1) I' (by omega) ?_ hS
      rw [fo_tel, if_neg e]
      exact hT
    · rintro x σ' ⟨rfl, I1, rfl, a1, a2⟩
      have e : bc (nI k) = I' 201 0 / nI 2 + 1 := e
      have pl : pc7 k ≤ 7 := by unfold pc7; omega
      rw [bc_tab k (by omega), e0, nI_div (by omega) (by omega), nI_1, nI_eq (by omega) (by omega)] at e
      refine j_Re_majority ?_
      rw [nI_1]
      refine ih (k + 1) I1 (by omega) ?_ (a2.tr hS)
      rw [fo_tel, if_pos e]
      exact a1
theorem TL.up0 {l : List Nat} {x : Int32} (h : TL I l) : TL (am_up I 201 0 x) l := by
  unfold TL
  rw [am_up_ne (by omega), up_cell (by omega)]
  exact h
theorem FrC.up0 {I' : Nat → Nat → Int32} {k : Nat} {x : Int32} (h : FrC I' I) : FrC (am_up I' 201 k x) I := fun c a b d => by rw [up_cell a, h c a b d]
theorem ev_majority {p : Nat} (h : CT I u n) (hp : I 201 6 = nI p) (hn : p ≤ n) (hT : TL I []) : am_ev am_sh m_Re_majority [.ref 201] (I, J, am_Rf f g) (RdQ f g I J (fin u n (qMaj u n p))) := by
  refine s_Re_majority ⟨rfl, (ev_figure (m := 5) h hp hn rfl (by omega)).mono ?_⟩
  rintro x σ' ⟨I1, rfl, a1, ⟨v, v1, v2, v3, rfl, v5, v6⟩ | ⟨v1, rfl, v3⟩⟩
  · have q0 : qMaj u n p = (nx u n p + 1, some (v, majL v)) := by unfold qMaj; rw [v1]
    have c1 : CT (am_up I1 201 0 (nI v)) u n := h.fr a1.fr.up0
    refine ⟨rfl, rfl, fun e => absurd (show am_up I1 201 0 (nI v) 201 0 = 0 from e) (by rw [am_up_eq]; exact nI_ne0 v2 (by omega)), fun _ => ⟨rfl, (ev_ends (p := nx u n p + 1) c1 (by rw [am_up_ne (by omega)]; exact v5) v6).mono ?_⟩⟩
    rintro x σ' ⟨I2, rfl, rfl, b1, b2⟩
    by_cases w : lu u n (nx u n (nx u n p + 1)) = 0
    · rw [q0, fin_yes w, decide_eq_true w]
      refine ⟨fun _ => j_Re_majority (j_Re_majority (lp_majority v2 (by omega) (fun I' t1 t2 => ⟨I', rfl, rfl, (t2.fr.tr b1.fr).tr a1.fr.up0, by rw [t2.2 6 (by omega)]; exact b2, fun s l e => ?_⟩) (by rw [b1 201 0 (by omega), am_up_eq]) (2 ^ v) 0 I2 (by omega) ((hT.sat a1).up0.sat b1) (Stl.rf I2))), fun e => absurd e (by decide)⟩
      have e := Option.some.inj e
      rw [← (Prod.mk.inj e).1, ← (Prod.mk.inj e).2]
      exact ⟨by rw [t2.2 0 (by omega), b1 201 0 (by omega), am_up_eq], t1⟩
    · rw [q0, fin_not w, decide_eq_false w]
      exact ⟨fun e => absurd rfl e, fun _ => ⟨Or.inl rfl, I2, rfl, rfl, b1.fr.tr a1.fr.up0, b2, fun s l e => by cases e⟩⟩
  · have q0 : qMaj u n p = (nx u n p, none) := by unfold qMaj; rw [v1]
    rw [q0, fin_no, nx_nx hn]
    refine ⟨rfl, rfl, fun _ => j_Re_majority ⟨Or.inl rfl, _, rfl, rfl, a1.fr.up0, by rw [am_up_ne (by omega)]; exact v3, fun s l e => by cases e⟩, fun e => absurd (by show am_up I1 201 0 0 201 0 = 0; rw [am_up_eq]) e⟩
end RD
