/-! the reference: sets told by figures -/
section MX
variable {f g : Nat → Nat} {I : Nat → Nat → Int32} {J : Nat → Nat → Int64} {u : Nat → Nat} {n : Nat}
theorem lp_mdgs {z : Nat} {q : am_Q} (h : RT I u n) (h8 : z ≤ 7) (h0 : I 236 13 = nI z) {r : Nat × Option Nat} (hno : r.2 = none → ∀ I' : Nat → Nat → Int32, I' 236 12 = nI r.1 → Rat I' I → q (some (.int 0)) (I', J, am_Rf f g)) (hyes : ∀ s', r.2 = some s' → ∀ w (I' : Nat → Nat → Int32), I' 236 12 = nI r.1 → Rat I' I → am_run am_sh m_MD_one q 118 [some (.ref 236), some (.int (nI s')), w] [] (I', J, am_Rf f g)) : ∀ k p s w (I' : Nat → Nat → Int32), k + p = n → I' 236 12 = nI p → Rat I' I → s < 2 ^ z → dgs u n z k p s = r → am_u am_sh m_MD_one q (am_at am_c_MD_one 35) 35 [some (.ref 236), some (.int (nI s)), w] [] (I', J, am_Rf f g) := by
  have h90 := h.1
  have z7 := pow_le7 (n := z) (by omega)
  intro k
  induction k with
  | zero =>
    intro p s w I' hk hp hs hs2 hr
    obtain rfl : p = n := by omega
    have hc := h.fr hs.fr
    subst hr
    exact ⟨rfl, rfl, br_t (by rw [hc.2.1, hp]; exact nI_le (Nat.le_refl _) (by omega)) (hyes s rfl w I' hp hs)⟩
  | succ k ih =>
    intro p s w I' hk hp hs hs2 hr
    have hc := h.fr hs.fr
    have lb := h.le p
    have tp : I' 245 p = nI (lu u n p) := by rw [(hc.2.2 p (by omega)).1, lu_lt (by omega)]
    have n0 : I' 236 13 = nI z := by rw [hs 236 13 (by omega)]; exact h0
    refine ⟨rfl, rfl, br_f (by rw [hc.2.1, hp]; exact nI_ge (by omega) (by omega)) ⟨245, rfl, rfl, rfl, 90, p, rfl, by omega, hp, (ev_in32 (I' 245 p) 48 57 _).rt ⟨fun e => ?_, fun e => ⟨245, rfl, rfl, rfl, 90, p, rfl, by omega, hp, rfl, fun e3 => j_MD_one ⟨Or.inl rfl, ?_⟩, fun e3 => ?_⟩⟩⟩⟩
    · have nd : ¬ (48 ≤ lu u n p ∧ lu u n p ≤ 57) := fun wd => by
        have e := b2i_eq0.mp e
        rw [tp] at e
        exact absurd (⟨(nI_leI (a := 48) (by omega) (by omega)).mpr wd.1, (nI_leI (b := 57) (by omega) (by omega)).mpr wd.2⟩ : (48 : Int32) ≤ nI (lu u n p) ∧ nI (lu u n p) ≤ 57) (of_decide_eq_false e)
      rw [dgs_stop nd] at hr
      subst hr
      exact hyes s rfl w I' hp hs
    · have e := of_decide_eq_true (b2i_ne0.mp e)
      rw [tp] at e
      have dg : 48 ≤ lu u n p ∧ lu u n p ≤ 57 := ⟨(nI_leI (a := 48) (by omega) (by omega)).mp e.1, (nI_leI (b := 57) (by omega) (by omega)).mp e.2⟩
      have ev : nI (lu u n p) - 48 = nI (lu u n p - 48) := nI_sub (b := 48) (by omega)
      have e3 : I' 236 13 ≤ I' 245 p - 48 := e3
      rw [n0, tp, ev, nI_leI (by omega) (by omega)] at e3
      rw [dgs_bad dg (Or.inl e3)] at hr
      subst hr
      exact hno rfl I' hp hs
    · have e := of_decide_eq_true (b2i_ne0.mp e)
      rw [tp] at e
      have dg : 48 ≤ lu u n p ∧ lu u n p ≤ 57 := ⟨(nI_leI (a := 48) (by omega) (by omega)).mp e.1, (nI_leI (b := 57) (by omega) (by omega)).mp e.2⟩
      have ev : I' 245 p - 48 = nI (lu u n p - 48) := by rw [tp]; exact nI_sub (b := 48) (by omega)
      have e3 : ¬ I' 236 13 ≤ I' 245 p - 48 := e3
      rw [n0, ev, nI_leI (by omega) (by omega)] at e3
      refine (ev_htb2 (s := s) (e := lu u n p - 48) rfl ev (by omega) (by omega) _).rt ⟨fun e4 => j_MD_one ⟨rfl, rfl, j_MD_one ?_⟩, fun e4 => ⟨Or.inl rfl, ?_⟩⟩
      · have nb : ¬ (z ≤ lu u n p - 48 ∨ tb s (lu u n p - 48) = true) := fun w => by
          rcases w with w | w
          · omega
          · rw [b2i_eq0.mp e4] at w; cases w
        rw [dgs_go dg nb] at hr
        rw [ev, shl_tab _ (by omega), nI_or, hp, nI_1]
        exact ih (p + 1) _ _ _ (by omega) am_up_eq (Rat.up.tr hs) (Nat.or_lt_two_pow hs2 (Nat.pow_lt_pow_right (by omega) (by omega))) hr
      · rw [dgs_bad dg (Or.inr (b2i_ne0.mp e4))] at hr
        subst hr
        exact hno rfl I' hp hs
theorem one_tab : ∀ c, c < 128 → ∀ z, z < 8 → ((48 : Int32) ≤ nI c ∧ nI c ≤ 47 + nI z ↔ 48 ≤ c ∧ c < 48 + z) := by decide +kernel
/-- a group's first letter -/
theorem dgs_first {z k p : Nat} (hk : 1 ≤ z) (h : ¬ (48 ≤ lu u n p ∧ lu u n p < 48 + z)) (hp : k + p = n) : dgs u n z k p 0 = (p, none) ∨ dgs u n z k p 0 = (p, some 0) := by
  cases k with
  | zero => exact Or.inr rfl
  | succ k =>
    by_cases d : 48 ≤ lu u n p ∧ lu u n p ≤ 57
    · exact Or.inl (dgs_bad d (Or.inl (by omega)))
    · exact Or.inr (dgs_stop d)
/-- sets of figures aren't empty -/
theorem dgs_pos {z : Nat} : ∀ k p s, 1 ≤ s → ∀ s', (dgs u n z k p s).2 = some s' → 1 ≤ s' := by
  intro k
  induction k with
  | zero => intro p s hs s' e; rw [← Option.some.inj e]; exact hs
  | succ k ih =>
    intro p s hs s' e
    by_cases d : 48 ≤ lu u n p ∧ lu u n p ≤ 57
    · by_cases b : z ≤ lu u n p - 48 ∨ tb s (lu u n p - 48) = true
      · rw [dgs_bad d b] at e; cases e
      · rw [dgs_go d b] at e
        exact ih (p + 1) _ (Nat.le_trans hs Nat.left_le_or) s' e
    · rw [dgs_stop d] at e
      rw [← Option.some.inj e]
      exact hs
theorem ev_mone {z p : Nat} {l : List Nat} (h : RT I u n) (hp : I 236 12 = nI p) (hn : p ≤ n) (h1 : 1 ≤ z) (h8 : z ≤ 7) (h0 : I 236 13 = nI z) (hT : GL I (l, false)) : am_ev am_sh m_MD_one [.ref 236] (I, J, am_Rf f g) (fun x σ' => ∃ I', x = some (.int (b2i (qOne u n z l p).2.isSome)) ∧ σ' = (I', J, am_Rf f g) ∧ FrR I' I ∧ I' 236 13 = nI z ∧ I' 236 12 = nI (qOne u n z l p).1 ∧ ∀ s, (qOne u n z l p).2 = some s → GL I' (l ++ [s], false)) := by
  have l12 : l.length ≤ 12 := hT.2.1
  have z7 := pow_le7 (n := z) (by omega)
  have lb := h.le (nx u n p)
  have nn := nx_le (u := u) hn
  refine s_MD_one ⟨rfl, (ev_here h hp hn).mono ?_⟩
  rintro x σ' ⟨rfl, I1, rfl, a1, a2⟩
  have t1 := hT.at a2
  have z1 : I1 236 13 = nI z := by rw [a2 236 13 (by omega)]; exact h0
  have tt := one_tab (lu u n (nx u n p)) (by omega) z (by omega)
  obtain ⟨d1, d2, d3⟩ := dgs_ok (u := u) (n := n) (z := z) (n - nx u n p) (nx u n p) 0 (by omega) (Nat.two_pow_pos z)
  have bad1 : (l.length = 12 ∨ ¬ (48 ≤ lu u n (nx u n p) ∧ lu u n (nx u n p) < 48 + z)) → ∃ I', (some (.int 0) : Option Value) = some (.int (b2i (qOne u n z l p).2.isSome)) ∧ (I1, J, am_Rf f g) = (I', J, am_Rf f g) ∧ FrR I' I ∧ I' 236 13 = nI z ∧ I' 236 12 = nI (qOne u n z l p).1 ∧ ∀ s, (qOne u n z l p).2 = some s → GL I' (l ++ [s], false) := fun w => by
    have q0 : qOne u n z l p = (nx u n p, none) := by
      unfold qOne
      by_cases e12 : l.length = 12
      · rw [if_pos e12]
      · rw [if_neg e12]
        rcases w with w | w
        · exact absurd w e12
        · rcases dgs_first h1 w (show n - nx u n p + nx u n p = n by omega) with e | e
          · rw [e]
          · rw [e]
            show (if _ then _ else _) = _
            rw [if_pos (Or.inl rfl), nx_nx hn]
    rw [q0]
    exact ⟨I1, rfl, rfl, a2.fr, z1, a1, fun s e => by cases e⟩
  refine ⟨rfl, ?_⟩
  show am_ev am_sh m_MD_in [.long (nI (lu u n (nx u n p))).toInt64, .long (48 : Int32).toInt64, .long (47 + I1 236 13).toInt64] (I1, J, am_Rf f g) _
  rw [z1]
  refine (ev_in32 (nI (lu u n (nx u n p))) 48 (47 + nI z) _).rt ⟨fun e => j_MD_one ⟨Or.inl rfl, bad1 (Or.inr (fun w => ?_))⟩, fun e => ⟨rfl, fun e12 => j_MD_one (j_MD_one ?_), fun e12 => ⟨Or.inl rfl, bad1 (Or.inl ?_)⟩⟩⟩
  · exact absurd (tt.mpr w) (of_decide_eq_false (b2i_eq0.mp e))
  · have e12 : ¬ I1 236 14 = nI 12 := e12
    rw [t1.1, nI_eq (by show l.length < _; omega) (by omega)] at e12
    have e12 : ¬ l.length = 12 := e12
    have fst := tt.mp (of_decide_eq_true (b2i_ne0.mp e))
    have q0 : qOne u n z l p = match dgs u n z (n - nx u n p) (nx u n p) 0 with
        | (p', none) => (p', none)
        | (p', some s) => if s = 0 ∨ l.contains s = true then (nx u n p', none) else (nx u n p', some s) := by
      unfold qOne
      rw [if_neg e12]
      rfl
    have pos : ∀ s', (dgs u n z (n - nx u n p) (nx u n p) 0).2 = some s' → 1 ≤ s' := by
      intro s' e
      have hlt : nx u n p < n := lu_pos (u := u) (by omega)
      obtain ⟨k, hk⟩ : ∃ k, n - nx u n p = k + 1 := ⟨n - nx u n p - 1, by omega⟩
      rw [hk] at e
      have nb : ¬ (z ≤ lu u n (nx u n p) - 48 ∨ tb 0 (lu u n (nx u n p) - 48) = true) := fun w => by
        rcases w with w | w
        · omega
        · unfold tb at w
          rw [Nat.zero_div] at w
          cases w
      by_cases d : 48 ≤ lu u n (nx u n p) ∧ lu u n (nx u n p) ≤ 57
      · rw [dgs_go d nb] at e
        refine dgs_pos k _ _ ?_ s' e
        rw [Nat.zero_or]
        exact Nat.two_pow_pos _
      · omega
    refine lp_mdgs (r := dgs u n z (n - nx u n p) (nx u n p) 0) (h.fr a2.fr) h8 z1 (fun hno I' b1 b2 => ?_) (fun s' hs' w I' b1 b2 => j_MD_one ?_) (n - nx u n p) (nx u n p) 0 none I1 (by omega) a1 (Rat.rf I1) (Nat.two_pow_pos z) rfl
    · rcases hd : dgs u n z (n - nx u n p) (nx u n p) 0 with ⟨p', o⟩
      rw [hd] at hno b1 q0
      cases o with
      | some s => cases hno
      | none =>
        have q0 : qOne u n z l p = (p', none) := q0
        rw [q0]
        exact ⟨I', rfl, rfl, b2.fr.tr a2.fr, by rw [b2 236 13 (by omega)]; exact z1, b1, fun s e => by cases e⟩
    · rcases hd : dgs u n z (n - nx u n p) (nx u n p) 0 with ⟨p', o⟩
      rw [hd] at hs' b1 q0 d1 d3 pos
      have d1 : p' ≤ n := d1
      have hs' : o = some s' := hs'
      subst hs'
      have d3 := d3 s' rfl
      have ps := pos s' rfl
      have q0 : qOne u n z l p = if s' = 0 ∨ l.contains s' = true then (nx u n p', none) else (nx u n p', some s') := q0
      have b1 : I' 236 12 = nI p' := b1
      have c1 := (h.fr a2.fr).fr b2.fr
      refine ⟨rfl, (ev_here c1 b1 d1).mono ?_⟩
      rintro x σ' ⟨rfl, I2, rfl, k1, k2⟩
      have t2 : GL I2 (l, false) := (t1.at b2).at k2
      have z2 : I2 236 13 = nI z := by rw [k2 236 13 (by omega), b2 236 13 (by omega)]; exact z1
      have fr2 : FrR I2 I := (k2.fr.tr b2.fr).tr a2.fr
      refine ⟨rfl, (ev_isGot (s := s') t2 rfl (by omega)).rt ⟨fun e1 => j_MD_one ⟨rfl, (ev_gets (s := s') t2 rfl (by omega)).mono ?_⟩, fun e1 => ⟨Or.inl rfl, ?_⟩⟩⟩
      · rintro x σ' ⟨rfl, I3, rfl, m1, m2⟩
        have c0 : l.contains s' = false := b2i_eq0.mp e1
        have nb : ¬ (s' = 0 ∨ l.contains s' = true) := fun w => by
          rcases w with w | w
          · omega
          · rw [c0] at w; cases w
        rw [q0, if_neg nb]
        refine ⟨Or.inr rfl, I3, rfl, rfl, m2.fr.tr fr2, by rw [m2.2 13 (by omega) (by omega)]; exact z2, by rw [m2.2 12 (by omega) (by omega)]; exact k1, fun s e2 => ?_⟩
        rw [← Option.some.inj e2]
        have : gtt (l, false) s' = (l ++ [s'], false) := if_neg (fun w => by
          rcases w with w | w
          · cases w
          · exact e12 w)
        rw [← this]
        exact m1
      · have c0 : l.contains s' = true := b2i_ne0.mp e1
        rw [q0, if_pos (Or.inr c0)]
        exact ⟨I2, rfl, rfl, fr2, z2, k1, fun s e => by cases e⟩
  · have e12 : I1 236 14 = nI 12 := e12
    rw [t1.1, nI_eq (by show l.length < _; omega) (by omega)] at e12
    exact e12
theorem lp_mtold {z : Nat} (h : RT I u n) (h1 : 1 ≤ z) (h8 : z ≤ 7) : ∀ k (l : List Nat) p (I' : Nat → Nat → Int32), k + l.length = 13 → I' 236 12 + 1 = nI p → p ≤ n → I' 236 13 = nI z → GL I' (l, false) → FrR I' I → am_u am_sh m_MD_told (RfQ f g I J (zed z (qTold u n z k p l))) (am_at am_c_MD_told 35) 35 [some (.ref 236), some (.int 1)] [] (I', J, am_Rf f g) := by
  intro k
  induction k with
  | zero =>
    intro l p I' hk hp hn h0 hT hF
    have := hT.2.1
    have : l.length ≤ 12 := this
    omega
  | succ k ih =>
    intro l p I' hk hp hn h0 hT hF
    obtain ⟨o1, o2, o3⟩ := qOne_ok (u := u) (n := n) (z := z) (l := l) hn
    have hF2 : FrR (am_up I' 236 12 (I' 236 12 + 1)) I := hF.up (by omega)
    refine br_f (by decide) ⟨rfl, rfl, rfl, (ev_mone (l := l) (h.fr hF2) (by rw [am_up_eq]; exact hp) hn h1 h8 (by rw [am_up_ne (by omega)]; exact h0) (hT.up (by omega))).mono ?_⟩
    rintro x σ' ⟨I1, rfl, rfl, a1, a2, a3, a4⟩
    rcases hq : qOne u n z l p with ⟨p', o⟩
    rw [hq] at o1 o2 o3 a3 a4
    have o1 : p' ≤ n := o1
    have a3 : I1 236 12 = nI p' := a3
    have f1 : FrR I1 I := a1.tr hF2
    cases o with
    | none =>
      rw [qTold_none hq]
      exact ⟨fun e => absurd rfl e, fun _ => ⟨Or.inl rfl, I1, rfl, rfl, f1, a3, fun s l e => by cases e⟩⟩
    | some s =>
      have t1 := a4 s rfl
      have lb := h.le (nx u n p')
      refine ⟨fun _ => j_MD_told ⟨rfl, (ev_here (p := p') (h.fr f1) a3 o1).mono ?_⟩, fun e => absurd (show b2i true = 0 from e) (by decide)⟩
      rintro x σ' ⟨rfl, I2, rfl, b1, b2⟩
      have z2 : I2 236 13 = nI z := by rw [b2 236 13 (by omega)]; exact a2
      refine ⟨fun e => j_MD_told (j_MD_told ?_), fun e => j_MD_told (j_MD_told ?_)⟩
      · have e : ¬ nI (lu u n (nx u n p')) = nI 44 := e
        rw [nI_eq (by omega) (by omega)] at e
        rw [qTold_end hq e]
        refine br_t rfl (j_MD_told ⟨Or.inr rfl, I2, rfl, rfl, b2.fr.tr f1, b1, fun s' l' e => ?_⟩)
        have e := Option.some.inj e
        rw [← (Prod.mk.inj e).1, ← (Prod.mk.inj e).2]
        exact ⟨z2, t1.at b2⟩
      · have e : nI (lu u n (nx u n p')) = nI 44 := e
        rw [nI_eq (by omega) (by omega)] at e
        rw [qTold_more hq e]
        exact ih (l ++ [s]) (nx u n p' + 1) I2 (by simp; omega) (by rw [b1, nI_1]) (lu_pos (u := u) (by omega)) z2 (t1.at b2) (b2.fr.tr f1)
theorem ev_told {p : Nat} (h : RT I u n) (hp : I 236 12 = nI p) (hn : p ≤ n) (hT : GL I ([], false)) : am_ev am_sh m_MD_told [.ref 236] (I, J, am_Rf f g) (RfQ f g I J (qSet u n p)) := by
  refine s_MD_told ⟨rfl, (ev_mfigure (m := 7) h hp hn rfl (by omega)).mono ?_⟩
  rintro x σ' ⟨I1, rfl, a1, ⟨z, v1, v2, v3, rfl, v5, v6⟩ | ⟨v1, rfl, v3⟩⟩
  · have f1 : FrR (am_up I1 236 13 (nI z)) I := a1.fr.up (by omega)
    have lb := h.le (nx u n (nx u n p + 1))
    refine ⟨rfl, rfl, br_t (by rw [am_up_eq]; exact nI_pos' (by omega)) (j_MD_told ⟨rfl, (ev_here (p := nx u n p + 1) (h.fr f1) (by rw [am_up_ne (by omega)]; exact v5) v6).mono ?_⟩)⟩
    rintro x σ' ⟨rfl, I2, rfl, b1, b2⟩
    have z2 : I2 236 13 = nI z := by rw [b2 236 13 (by omega), am_up_eq]
    have t2 : GL I2 ([], false) := ((hT.at a1).up (by omega)).at b2
    rw [qSet_eq v1]
    refine ⟨fun e => j_MD_told (j_MD_told ?_), fun e => j_MD_told (j_MD_told ?_)⟩
    · have e : ¬ nI (lu u n (nx u n (nx u n p + 1))) = nI 58 := e
      rw [nI_eq (by omega) (by omega)] at e
      rw [if_neg e]
      refine br_t rfl (j_MD_told ⟨Or.inr rfl, I2, rfl, rfl, b2.fr.tr f1, b1, fun s' l' e => ?_⟩)
      have e := Option.some.inj e
      rw [← (Prod.mk.inj e).1, ← (Prod.mk.inj e).2]
      exact ⟨z2, t2⟩
    · have e : nI (lu u n (nx u n (nx u n p + 1))) = nI 58 := e
      rw [nI_eq (by omega) (by omega)] at e
      rw [if_pos e]
      exact lp_mtold h v2 (by omega) 13 [] _ I2 rfl (by rw [b1, nI_1]) (lu_pos (u := u) (by omega)) z2 t2 (b2.fr.tr f1)
  · have q0 : qSet u n p = (nx u n p, none) := by unfold qSet; rw [v1]
    rw [q0]
    exact ⟨rfl, rfl, br_f (by rw [am_up_eq]; decide) ⟨Or.inl rfl, _, rfl, rfl, a1.fr.up (by omega), by rw [am_up_ne (by omega)]; exact v3, fun s l e => by cases e⟩⟩
end MX
