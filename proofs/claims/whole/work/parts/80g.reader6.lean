/-! the class's Reader: sets told by figures; all texts -/
section TX
variable {u : Nat → Nat} {n : Nat}
theorem dgs_stop {z k p s : Nat} (h : ¬ (48 ≤ lu u n p ∧ lu u n p ≤ 57)) : dgs u n z k p s = (p, some s) := by
  cases k with
  | zero => rfl
  | succ k => unfold dgs; rw [if_neg h]
theorem dgs_bad {z k p s : Nat} (h : 48 ≤ lu u n p ∧ lu u n p ≤ 57) (hb : z ≤ lu u n p - 48 ∨ tb s (lu u n p - 48) = true) : dgs u n z (k + 1) p s = (p, none) := by
  unfold dgs
  rw [if_pos h, if_pos hb]
theorem dgs_go {z k p s : Nat} (h : 48 ≤ lu u n p ∧ lu u n p ≤ 57) (hb : ¬ (z ≤ lu u n p - 48 ∨ tb s (lu u n p - 48) = true)) : dgs u n z (k + 1) p s = dgs u n z k (p + 1) (s ||| 2 ^ (lu u n p - 48)) := by
  rw [dgs, if_pos h, if_neg hb]
/-- what figures come to -/
theorem dgs_ok {z : Nat} : ∀ k p s, k + p = n → s < 2 ^ z → (dgs u n z k p s).1 ≤ n ∧ ((dgs u n z k p s).2 = none → nx u n (dgs u n z k p s).1 = (dgs u n z k p s).1) ∧ ∀ s', (dgs u n z k p s).2 = some s' → s' < 2 ^ z := by
  intro k
  induction k with
  | zero =>
    intro p s hp hs
    exact ⟨by show p ≤ n; omega, fun e => (by cases e), fun s' e => (by rw [← Option.some.inj e]; exact hs)⟩
  | succ k ih =>
    intro p s hp hs
    by_cases h : 48 ≤ lu u n p ∧ lu u n p ≤ 57
    · by_cases hb : z ≤ lu u n p - 48 ∨ tb s (lu u n p - 48) = true
      · rw [dgs_bad h hb]
        exact ⟨by show p ≤ n; omega, fun _ => nx_no (show ¬ lu u n p = 32 by omega), fun s' e => by cases e⟩
      · rw [dgs_go h hb]
        refine ih (p + 1) _ (by omega) (Nat.or_lt_two_pow hs (Nat.pow_lt_pow_right (by omega) ?_))
        rcases Nat.lt_or_ge (lu u n p - 48) z with q | q
        · exact q
        · exact absurd (Or.inl q) hb
    · rw [dgs_stop h]
      exact ⟨by show p ≤ n; omega, fun e => (by cases e), fun s' e => (by rw [← Option.some.inj e]; exact hs)⟩
theorem qOne_ok {z p : Nat} {l : List Nat} (hp : p ≤ n) : (qOne u n z l p).1 ≤ n ∧ nx u n (qOne u n z l p).1 = (qOne u n z l p).1 ∧ ∀ s, (qOne u n z l p).2 = some s → s < 2 ^ z ∧ 1 ≤ s ∧ ¬ l.contains s = true ∧ ¬ l.length = 12 := by
  have hn := nx_le (u := u) hp
  obtain ⟨d1, d2, d3⟩ := dgs_ok (u := u) (n := n) (z := z) (n - nx u n p) (nx u n p) 0 (by omega) (Nat.two_pow_pos z)
  unfold qOne
  by_cases h12 : l.length = 12
  · rw [if_pos h12]
    exact ⟨hn, nx_nx hp, fun s e => by cases e⟩
  · rw [if_neg h12]
    rcases hd : dgs u n z (n - nx u n p) (nx u n p) 0 with ⟨p', o⟩
    rw [hd] at d1 d2 d3
    cases o with
    | none => exact ⟨d1, d2 rfl, fun s e => by cases e⟩
    | some s' =>
      have d1 : p' ≤ n := d1
      by_cases hc : s' = 0 ∨ l.contains s' = true
      · dsimp only
        rw [if_pos hc]
        exact ⟨nx_le d1, nx_nx d1, fun s e => by cases e⟩
      · dsimp only
        rw [if_neg hc]
        refine ⟨nx_le d1, nx_nx d1, fun s e => ?_⟩
        rw [← Option.some.inj e]
        have := d3 s' rfl
        refine ⟨this, ?_, fun w => hc (Or.inr w), h12⟩
        rcases Nat.eq_zero_or_pos s' with q | q
        · exact absurd (Or.inl q) hc
        · exact q
end TX
section RD
variable {f g : Nat → Nat} {I : Nat → Nat → Int32} {J : Nat → Nat → Int64} {u : Nat → Nat} {n : Nat}
theorem lp_dgs {z : Nat} {q : am_Q} (h : CT I u n) (h8 : z ≤ 7) (h0 : I 201 0 = nI z) {r : Nat × Option Nat} (hno : r.2 = none → ∀ I' : Nat → Nat → Int32, I' 201 6 = nI r.1 → Sat I' I → q (some (.int 0)) (I', J, am_Rf f g)) (hyes : ∀ s', r.2 = some s' → ∀ w (I' : Nat → Nat → Int32), I' 201 6 = nI r.1 → Sat I' I → am_run am_sh m_Re_isGroupTold q 112 [some (.ref 201), some (.int (nI s')), w] [] (I', J, am_Rf f g)) : ∀ k p s w (I' : Nat → Nat → Int32), k + p = n → I' 201 6 = nI p → Sat I' I → s < 2 ^ z → dgs u n z k p s = r → am_u am_sh m_Re_isGroupTold q (am_at am_c_Re_isGroupTold 18) 18 [some (.ref 201), some (.int (nI s)), w] [] (I', J, am_Rf f g) := by
  have h90 := h.1
  have z7 := pow_le7 (n := z) (by omega)
  intro k
  induction k with
  | zero =>
    intro p s w I' hk hp hs hs2 hr
    obtain rfl : p = n := by omega
    have hc := h.fr hs.fr
    have l0 := lu_n (u := u) (n := p)
    subst hr
    exact ⟨203, rfl, rfl, rfl, rfl, (ev_tAt hc hp (by omega)).rt (br_t (by rw [l0]; decide) (hyes s rfl w I' hp hs))⟩
  | succ k ih =>
    intro p s w I' hk hp hs hs2 hr
    have hc := h.fr hs.fr
    have lb := h.le p
    have at' := fun {K : am_Q} => (ev_tAt (f := f) (g := g) (J := J) hc hp (by omega)).rt (K := K)
    have stop : ¬ (48 ≤ lu u n p ∧ lu u n p ≤ 57) → am_run am_sh m_Re_isGroupTold q 112 [some (.ref 201), some (.int (nI s)), w] [] (I', J, am_Rf f g) := fun hd => by
      rw [dgs_stop hd] at hr
      subst hr
      exact hyes s rfl w I' hp hs
    refine ⟨203, rfl, rfl, rfl, rfl, at' ⟨fun e => stop (fun wd => ?_), fun e => ⟨203, rfl, rfl, rfl, rfl, at' ⟨fun e2 => stop (fun wd => ?_), fun e2 => ⟨rfl, br_f (by rw [hp]; exact nI_ge (b := 90) (by omega) (by omega)) ⟨203, rfl, rfl, rfl, rfl, at' ?_⟩⟩⟩⟩⟩⟩
    · have e : nI (lu u n p) < nI 48 := e
      rw [nI_ltI (by omega) (by omega)] at e
      omega
    · have e2 : nI 57 < nI (lu u n p) := e2
      rw [nI_ltI (by omega) (by omega)] at e2
      omega
    · have e : ¬ nI (lu u n p) < nI 48 := e
      have e2 : ¬ nI 57 < nI (lu u n p) := e2
      rw [nI_ltI (by omega) (by omega)] at e e2
      have dg : 48 ≤ lu u n p ∧ lu u n p ≤ 57 := ⟨by omega, by omega⟩
      have ev : nI (lu u n p) - 48 = nI (lu u n p - 48) := nI_sub (b := 48) (by omega)
      have n0 : I' 201 0 = nI z := by rw [hs 201 0 (by omega)]; exact h0
      have bad : (z ≤ lu u n p - 48 ∨ tb s (lu u n p - 48) = true) → q (some (.int 0)) (I', J, am_Rf f g) := fun hb => by
        rw [dgs_bad dg hb] at hr
        subst hr
        exact hno rfl I' hp hs
      refine ⟨rfl, fun e3 => j_Re_isGroupTold ⟨Or.inl rfl, bad (Or.inl ?_)⟩, fun e3 => ⟨fun e4 => j_Re_isGroupTold ?_, fun e4 => ⟨Or.inl rfl, bad (Or.inr ?_)⟩⟩⟩
      · have e3 : I' 201 0 ≤ nI (lu u n p) - 48 := e3
        rw [ev, n0, nI_leI (by omega) (by omega)] at e3
        exact e3
      · have e3 : ¬ I' 201 0 ≤ nI (lu u n p) - 48 := e3
        have e4 : ¬ nI s >>> ((nI (lu u n p) - 48) &&& 31) &&& 1 = nI 1 := e4
        rw [ev] at e3 e4
        rw [n0, nI_leI (by omega) (by omega)] at e3
        rw [bit_tab s (by omega) _ (by omega), nI_eq (by omega) (by omega)] at e4
        have nb : ¬ (z ≤ lu u n p - 48 ∨ tb s (lu u n p - 48) = true) := fun w => by
          rcases w with w | w
          · omega
          · exact e4 (of_decide_eq_true w)
        rw [dgs_go dg nb] at hr
        refine ⟨rfl, rfl, j_Re_isGroupTold ?_⟩
        rw [ev, shl_tab _ (by omega), nI_or, hp, nI_1]
        exact ih (p + 1) _ _ _ (by omega) am_up_eq (Sat.up.tr hs) (Nat.or_lt_two_pow hs2 (Nat.pow_lt_pow_right (by omega) (by omega))) hr
      · have e3 : ¬ I' 201 0 ≤ nI (lu u n p) - 48 := e3
        have e4 : nI s >>> ((nI (lu u n p) - 48) &&& 31) &&& 1 = nI 1 := e4
        rw [ev] at e3 e4
        rw [n0, nI_leI (by omega) (by omega)] at e3
        rw [bit_tab s (by omega) _ (by omega), nI_eq (by omega) (by omega)] at e4
        exact decide_eq_true e4
theorem ev_isGroupTold {z p : Nat} {l : List Nat} (h : CT I u n) (hp : I 201 6 = nI p) (hn : p ≤ n) (h8 : z ≤ 7) (h0 : I 201 0 = nI z) (hT : TL I l) : am_ev am_sh m_Re_isGroupTold [.ref 201] (I, J, am_Rf f g) (fun x σ' => ∃ I', x = some (.int (b2i (qOne u n z l p).2.isSome)) ∧ σ' = (I', J, am_Rf f g) ∧ FrC I' I ∧ I' 201 0 = nI z ∧ I' 201 6 = nI (qOne u n z l p).1 ∧ ∀ s, (qOne u n z l p).2 = some s → TL I' (l ++ [s])) := by
  have l12 := hT.2.1
  have z7 := pow_le7 (n := z) (by omega)
  refine s_Re_isGroupTold ⟨rfl, (ev_next h hp hn).mono ?_⟩
  rintro x σ' ⟨rfl, I1, rfl, a1, a2⟩
  have t1 := hT.sat a2
  have nn := nx_le (u := u) hn
  refine ⟨rfl, fun e => j_Re_isGroupTold (j_Re_isGroupTold ?_), fun e => ⟨Or.inl rfl, I1, ?_, rfl, a2.fr, by rw [a2 201 0 (by omega)]; exact h0, ?_, fun s w => ?_⟩⟩
  · have e : I1 201 1 < nI 12 := e
    rw [t1.1, nI_ltI (by omega) (by omega)] at e
    have q0 : qOne u n z l p = match dgs u n z (n - nx u n p) (nx u n p) 0 with
        | (p', none) => (p', none)
        | (p', some s) => if s = 0 ∨ l.contains s = true then (nx u n p', none) else (nx u n p', some s) := by
      unfold qOne
      rw [if_neg (by omega)]
      rfl
    obtain ⟨d1, d2, d3⟩ := dgs_ok (u := u) (n := n) (z := z) (n - nx u n p) (nx u n p) 0 (by omega) (Nat.two_pow_pos z)
    refine lp_dgs (r := dgs u n z (n - nx u n p) (nx u n p) 0) (h.fr a2.fr) h8 (by rw [a2 201 0 (by omega)]; exact h0) (fun hno I' b1 b2 => ?_) (fun s' hs' w I' b1 b2 => j_Re_isGroupTold ?_) (n - nx u n p) (nx u n p) 0 none I1 (by omega) a1 (fun _ _ _ => rfl) (Nat.two_pow_pos z) rfl
    · rcases hd : dgs u n z (n - nx u n p) (nx u n p) 0 with ⟨p', o⟩
      rw [hd] at hno b1 q0
      cases o with
      | some s => cases hno
      | none =>
        have q0 : qOne u n z l p = (p', none) := q0
        rw [q0]
        exact ⟨I', rfl, rfl, b2.fr.tr a2.fr, by rw [b2 201 0 (by omega), a2 201 0 (by omega)]; exact h0, b1, fun s e => by cases e⟩
    · rcases hd : dgs u n z (n - nx u n p) (nx u n p) 0 with ⟨p', o⟩
      rw [hd] at hs' b1 q0 d1 d3
      have d1 : p' ≤ n := d1
      have hs' : o = some s' := hs'
      subst hs'
      have d3 := d3 s' rfl
      have q0 : qOne u n z l p = if s' = 0 ∨ l.contains s' = true then (nx u n p', none) else (nx u n p', some s') := q0
      have b1 : I' 201 6 = nI p' := b1
      have c1 := (h.fr a2.fr).fr b2.fr
      refine ⟨rfl, (ev_next c1 b1 d1).mono ?_⟩
      rintro x σ' ⟨rfl, I2, rfl, k1, k2⟩
      have t2 : TL I2 l := (t1.sat b2).sat k2
      have z2 : I2 201 0 = nI z := by rw [k2 201 0 (by omega), b2 201 0 (by omega), a2 201 0 (by omega)]; exact h0
      have fr2 : FrC I2 I := (k2.fr.tr b2.fr).tr a2.fr
      have bad : (s' = 0 ∨ l.contains s' = true) → ∃ I', (some (.int 0) : Option Value) = some (.int (b2i (qOne u n z l p).2.isSome)) ∧ (I2, J, am_Rf f g) = (I', J, am_Rf f g) ∧ FrC I' I ∧ I' 201 0 = nI z ∧ I' 201 6 = nI (qOne u n z l p).1 ∧ ∀ s, (qOne u n z l p).2 = some s → TL I' (l ++ [s]) := fun hb => by
        rw [q0, if_pos hb]
        exact ⟨I2, rfl, rfl, fr2, z2, k1, fun s e => by cases e⟩
      refine ⟨fun e0 => j_Re_isGroupTold ⟨Or.inl rfl, bad (Or.inl ?_)⟩, fun e0 => ⟨rfl, (ev_isTold t2 (show s' < 128 by omega)).rt ⟨fun e1 => j_Re_isGroupTold ⟨rfl, (ev_tell (s := s') t2 rfl (by omega)).mono ?_⟩, fun e1 => ⟨Or.inl rfl, bad (Or.inr (b2i_ne0.mp e1))⟩⟩⟩⟩
      · have e0 : nI s' = 0 := e0
        rwa [nI_0iff (by omega)] at e0
      · rintro x σ' ⟨rfl, I3, rfl, m1, m2⟩
        have e0 : ¬ nI s' = 0 := e0
        rw [nI_0iff (by omega)] at e0
        have c0 := b2i_eq0.mp e1
        have nb : ¬ (s' = 0 ∨ l.contains s' = true) := fun w => by
          rcases w with w | w
          · exact e0 w
          · rw [c0] at w; cases w
        rw [q0, if_neg nb]
        refine ⟨Or.inr rfl, I3, rfl, rfl, m2.fr.tr fr2, by rw [m2.2 0 (by omega)]; exact z2, by rw [m2.2 6 (by omega)]; exact k1, fun s e2 => ?_⟩
        rw [← Option.some.inj e2]
        have : tel l s' = l ++ [s'] := by
          unfold tel
          rw [if_pos ⟨by omega, by rw [c0]; decide⟩]
        rw [← this]
        exact m1
  · have e : ¬ I1 201 1 < nI 12 := e
    rw [t1.1, nI_ltI (by omega) (by omega)] at e
    unfold qOne
    rw [if_pos (by omega)]
    rfl
  · have e : ¬ I1 201 1 < nI 12 := e
    rw [t1.1, nI_ltI (by omega) (by omega)] at e
    unfold qOne
    rw [if_pos (by omega)]
    exact a1
  · have e : ¬ I1 201 1 < nI 12 := e
    rw [t1.1, nI_ltI (by omega) (by omega)] at e
    unfold qOne at w
    rw [if_pos (by omega)] at w
    cases w
end RD
