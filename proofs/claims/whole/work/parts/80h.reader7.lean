/-! the class's Reader: sets; the whole text -/
def zed (z : Nat) (r : Nat × Option (List Nat)) : Rs := match r with
  | (p, none) => (p, none)
  | (p, some l) => (p, some (z, l))
section TX
variable {u : Nat → Nat} {n : Nat}
theorem qTold_none {z k p p' : Nat} {l : List Nat} (h : qOne u n z l p = (p', none)) : qTold u n z (k + 1) p l = (p', none) := by
  rw [qTold, h]
theorem qTold_more {z k p p' s : Nat} {l : List Nat} (h : qOne u n z l p = (p', some s)) (hc : lu u n (nx u n p') = 44) : qTold u n z (k + 1) p l = qTold u n z k (nx u n p' + 1) (l ++ [s]) := by
  rw [qTold, h]
  exact if_pos hc
theorem qTold_end {z k p p' s : Nat} {l : List Nat} (h : qOne u n z l p = (p', some s)) (hc : ¬ lu u n (nx u n p') = 44) : qTold u n z (k + 1) p l = (nx u n p', some (l ++ [s])) := by
  rw [qTold, h]
  exact if_neg hc
/-- groups of z elements -/
def LOk (z : Nat) (l : List Nat) : Prop := l.length ≤ 12 ∧ (∀ s, s ∈ l → 1 ≤ s ∧ s < 2 ^ z) ∧ l.Nodup
theorem LOk.add {z s : Nat} {l : List Nat} (h : LOk z l) (h1 : 1 ≤ s) (h2 : s < 2 ^ z) (h3 : ¬ l.contains s = true) (h4 : ¬ l.length = 12) : LOk z (l ++ [s]) := by
  obtain ⟨a, b, c⟩ := h
  have h3 : ¬ s ∈ l := by simpa using h3
  refine ⟨by simp; omega, fun x hx => ?_, ?_⟩
  · rcases List.mem_append.mp hx with q | q
    · exact b x q
    · have : x = s := by simpa using q
      rw [this]
      exact ⟨h1, h2⟩
  · rw [List.nodup_append]
    refine ⟨c, by simp, fun x hx y hy e => ?_⟩
    have : y = s := by simpa using hy
    rw [e, this] at hx
    exact h3 hx
theorem qTold_ok {z : Nat} : ∀ k p (l : List Nat), p ≤ n → LOk z l → (qTold u n z k p l).1 ≤ n ∧ ∀ l', (qTold u n z k p l).2 = some l' → LOk z l' := by
  intro k
  induction k with
  | zero => intro p l hp _; exact ⟨hp, fun l' e => by cases e⟩
  | succ k ih =>
    intro p l hp hl
    obtain ⟨a1, a2, a3⟩ := qOne_ok (u := u) (n := n) (z := z) (l := l) hp
    rcases hq : qOne u n z l p with ⟨p', o⟩
    rw [hq] at a1 a3
    have a1 : p' ≤ n := a1
    cases o with
    | none =>
      rw [qTold_none hq]
      exact ⟨a1, fun l' e => by cases e⟩
    | some s =>
      obtain ⟨b1, b2, b3, b4⟩ := a3 s rfl
      by_cases hc : lu u n (nx u n p') = 44
      · rw [qTold_more hq hc]
        exact ih _ _ (lu_pos (u := u) (by omega)) (hl.add b2 b1 b3 b4)
      · rw [qTold_end hq hc]
        exact ⟨nx_le a1, fun l' e => by rw [← Option.some.inj e]; exact hl.add b2 b1 b3 b4⟩
theorem fig_ok {m p v : Nat} (h : fig u n m p = some v) : nx u n p + 1 ≤ n ∧ 1 ≤ v ∧ v ≤ m := by
  unfold fig at h
  by_cases q : 49 ≤ lu u n (nx u n p) ∧ lu u n (nx u n p) ≤ 48 + m
  · rw [if_pos q] at h
    have := Option.some.inj h
    exact ⟨lu_pos (u := u) (by omega), by omega, by omega⟩
  · rw [if_neg q] at h; cases h
theorem fin_le {r : Rs} (h : r.1 ≤ n) : (fin u n r).1 ≤ n := by
  obtain ⟨p, o⟩ := r
  have h : p ≤ n := h
  cases o with
  | none => exact nx_le h
  | some x =>
    by_cases q : lu u n (nx u n p) = 0
    · rw [fin_yes q]; exact nx_le h
    · rw [fin_not q]; exact nx_le h
theorem fin_some {r : Rs} {x : Nat × List Nat} (h : (fin u n r).2 = some x) : r.2 = some x := by
  obtain ⟨p, o⟩ := r
  cases o with
  | none => cases h
  | some y =>
    by_cases q : lu u n (nx u n p) = 0
    · rw [fin_yes q] at h; exact h
    · rw [fin_not q] at h; cases h
theorem qSet_eq {p z : Nat} (h : fig u n 7 p = some z) : qSet u n p = if lu u n (nx u n (nx u n p + 1)) = 58 then zed z (qTold u n z 13 (nx u n (nx u n p + 1) + 1) []) else (nx u n (nx u n p + 1), some (z, [])) := by
  unfold qSet
  rw [h]
  rfl
end TX
section RD
variable {f g : Nat → Nat} {I : Nat → Nat → Int32} {J : Nat → Nat → Int64} {u : Nat → Nat} {n : Nat}
theorem fin_dec {p : Nat} {x : Nat × List Nat} : (fin u n (p, some x)).1 = nx u n p ∧ (fin u n (p, some x)).2.isSome = decide (lu u n (nx u n p) = 0) ∧ ∀ y, (fin u n (p, some x)).2 = some y → y = x := by
  by_cases h : lu u n (nx u n p) = 0
  · rw [fin_yes h, decide_eq_true h]
    exact ⟨rfl, rfl, fun y e => (Option.some.inj e).symm⟩
  · rw [fin_not h, decide_eq_false h]
    exact ⟨rfl, rfl, fun y e => by cases e⟩
theorem lp_fgs {z : Nat} (h : CT I u n) (h8 : z ≤ 7) : ∀ k gg (l : List Nat) p (I' : Nat → Nat → Int32), k + gg = 13 → l.length = gg → I' 201 6 = nI p → p ≤ n → I' 201 0 = nI z → TL I' l → FrC I' I → am_u am_sh m_Re_figures (RdQ f g I J (fin u n (zed z (qTold u n z k p l)))) (am_at am_c_Re_figures 50) 50 [some (.ref 201), some (.int (nI gg))] [] (I', J, am_Rf f g) := by
  intro k
  induction k with
  | zero =>
    intro gg l p I' hk hl hp hn h0 hT hF
    have := hT.2.1
    omega
  | succ k ih =>
    intro gg l p I' hk hl hp hn h0 hT hF
    have l12 := hT.2.1
    have hc := h.fr hF
    obtain ⟨o1, o2, o3⟩ := qOne_ok (u := u) (n := n) (z := z) (l := l) hn
    refine br_f (nI_nlt (a := 12) (by omega) (by omega)) ⟨rfl, (ev_isGroupTold (l := l) hc hp hn h8 h0 hT).mono ?_⟩
    rintro x σ' ⟨I1, rfl, rfl, a1, a2, a3, a4⟩
    rcases hq : qOne u n z l p with ⟨p', o⟩
    rw [hq] at o1 o2 o3 a3 a4
    have o1 : p' ≤ n := o1
    have o2 : nx u n p' = p' := o2
    have a3 : I1 201 6 = nI p' := a3
    cases o with
    | none =>
      rw [qTold_none hq]
      refine ⟨fun e => absurd rfl e, fun _ => ⟨Or.inl rfl, I1, rfl, rfl, a1.tr hF, ?_, fun s l e => by cases e⟩⟩
      show I1 201 6 = nI (nx u n p')
      rw [o2]
      exact a3
    | some s =>
      have t1 := a4 s rfl
      refine ⟨fun _ => j_Re_figures ⟨rfl, (ev_skips (p := p') (c := 44) (hc.fr a1) a3 o1 (by omega) (by omega)).mono ?_⟩, fun e => absurd (show b2i true = 0 from e) (by decide)⟩
      rintro x σ' ⟨y, I2, rfl, rfl, b1, b2, b3⟩
      have z2 : I2 201 0 = nI z := by rw [b1 201 0 (by omega)]; exact a2
      cases y with
      | true =>
        obtain ⟨d1, d2, d3⟩ := b2 rfl
        rw [qTold_more hq d1]
        refine ⟨fun _ => j_Re_figures (j_Re_figures ?_), fun e => absurd e (by decide)⟩
        rw [nI_1]
        exact ih (gg + 1) (l ++ [s]) _ I2 (by omega) (by simp; omega) d2 d3 z2 (t1.sat b1) ((b1.fr.tr a1).tr hF)
      | false =>
        obtain ⟨d1, d2⟩ := b3 rfl
        rw [qTold_end hq d1]
        have nn := nx_nx (u := u) o1
        refine ⟨fun e => absurd rfl e, fun _ => ⟨rfl, (ev_ends (p := nx u n p') ((hc.fr a1).fr b1.fr) d2 (nx_le o1)).mono ?_⟩⟩
        rintro x σ' ⟨I3, rfl, rfl, k1, k2⟩
        obtain ⟨m1, m2, m3⟩ := fin_dec (u := u) (n := n) (p := nx u n p') (x := (z, l ++ [s]))
        refine ⟨b2i_01 _, I3, by show _ = some (Value.int (b2i (fin u n (nx u n p', some (z, l ++ [s]))).2.isSome)); rw [m2], rfl, ((k1.fr.tr b1.fr).tr a1).tr hF, by show I3 201 6 = nI (fin u n (nx u n p', some (z, l ++ [s]))).1; rw [m1]; exact k2, fun s' l' e => ?_⟩
        have e := m3 _ e
        rw [(Prod.mk.inj e).1, (Prod.mk.inj e).2]
        exact ⟨by rw [k1 201 0 (by omega)]; exact z2, (t1.sat b1).sat k1⟩
theorem ev_figures {p : Nat} (h : CT I u n) (hp : I 201 6 = nI p) (hn : p ≤ n) (hT : TL I []) : am_ev am_sh m_Re_figures [.ref 201] (I, J, am_Rf f g) (RdQ f g I J (fin u n (qSet u n p))) := by
  refine s_Re_figures ⟨rfl, (ev_figure (m := 7) h hp hn rfl (by omega)).mono ?_⟩
  rintro x σ' ⟨I1, rfl, a1, ⟨z, v1, v2, v3, rfl, v5, v6⟩ | ⟨v1, rfl, v3⟩⟩
  · have c1 : CT (am_up I1 201 0 (nI z)) u n := h.fr a1.fr.up0
    have z1 : ¬ am_up I1 201 0 (nI z) 201 0 = 0 := by rw [am_up_eq]; exact nI_ne0 v2 (by omega)
    refine ⟨rfl, rfl, fun e => absurd e z1, fun _ => ⟨rfl, (ev_ends (p := nx u n p + 1) c1 (by rw [am_up_ne (by omega)]; exact v5) v6).mono ?_⟩⟩
    rintro x σ' ⟨I2, rfl, rfl, b1, b2⟩
    have nn := nx_nx (u := u) v6
    have z2 : I2 201 0 = nI z := by rw [b1 201 0 (by omega), am_up_eq]
    have t2 : TL I2 [] := (hT.sat a1).up0.sat b1
    have f2 : FrC I2 I := b1.fr.tr a1.fr.up0
    have c2 := c1.fr b1.fr
    rw [qSet_eq v1]
    by_cases w : lu u n (nx u n (nx u n p + 1)) = 0
    · rw [decide_eq_true w, if_neg (by omega), fin_yes (by rw [nn]; exact w), nn]
      refine ⟨fun e => absurd e (by decide), fun _ => ⟨rfl, fun e => absurd e (by rw [z2]; exact nI_ne0 v2 (by omega)), fun _ => j_Re_figures ⟨Or.inr rfl, I2, rfl, rfl, f2, b2, fun s l e => ?_⟩⟩⟩
      have e := Option.some.inj e
      rw [← (Prod.mk.inj e).1, ← (Prod.mk.inj e).2]
      exact ⟨z2, t2⟩
    · rw [decide_eq_false w]
      refine ⟨fun _ => j_Re_figures ⟨rfl, (ev_skips (p := nx u n (nx u n p + 1)) (c := 58) c2 b2 (nx_le v6) (by omega) (by omega)).mono ?_⟩, fun e => absurd rfl e⟩
      rintro x σ' ⟨y, I3, rfl, rfl, d1, d2, d3⟩
      rw [nn] at d2 d3
      cases y with
      | true =>
        obtain ⟨e1, e2, e3⟩ := d2 rfl
        rw [if_pos e1]
        exact ⟨fun _ => j_Re_figures (j_Re_figures (lp_fgs h (by omega) 13 0 [] _ I3 (by omega) rfl e2 e3 (by rw [d1 201 0 (by omega)]; exact z2) (t2.sat d1) (d1.fr.tr f2))), fun e => absurd e (by decide)⟩
      | false =>
        obtain ⟨e1, e2⟩ := d3 rfl
        rw [if_neg e1, fin_not (by rw [nn]; exact w), nn]
        exact ⟨fun e => absurd rfl e, fun _ => ⟨Or.inl rfl, I3, rfl, rfl, d1.fr.tr f2, e2, fun s l e => by cases e⟩⟩
  · have q0 : qSet u n p = (nx u n p, none) := by unfold qSet; rw [v1]
    rw [q0, fin_no, nx_nx hn]
    refine ⟨rfl, rfl, fun _ => j_Re_figures ⟨rfl, fun _ => j_Re_figures ⟨Or.inl rfl, _, rfl, rfl, a1.fr.up0, by rw [am_up_ne (by omega)]; exact v3, fun s l e => by cases e⟩, fun e => absurd (by show am_up I1 201 0 0 201 0 = 0; rw [am_up_eq]) e⟩, fun e => absurd (by show am_up I1 201 0 0 201 0 = 0; rw [am_up_eq]) e⟩
end RD
/-- a wall: too many groups are a fault of its name -/
def wres (a : Nat) (r : Nat × Option (List Nat)) : Rs := match r with
  | (p, none) => (p, none)
  | (p, some ws) => if totN (lw ws) ws.length ≤ 12 then (p, some (ws.sum, walL (lw ws) ws.length)) else (a, none)
/-- what a text tells: elements and groups; or the place of its fault -/
def txt (u : Nat → Nat) (n : Nat) : Rs :=
  if isNm u n 0 (nx u n 0) (ln u n (nx u n 0)) = true then fin u n (qMaj u n (ln u n (nx u n 0)))
  else if isNm u n 1 (nx u n 0) (ln u n (nx u n 0)) = true then fin u n (qGrid u n (ln u n (nx u n 0)))
  else if isNm u n 2 (nx u n 0) (ln u n (nx u n 0)) = true then wres (nx u n 0) (finW u n (qWid u n 3 (ln u n (nx u n 0)) 0 []))
  else if isNm u n 3 (nx u n 0) (ln u n (nx u n 0)) = true then fin u n (qPln (ln u n (nx u n 0)))
  else if isNm u n 4 (nx u n 0) (ln u n (nx u n 0)) = true then fin u n (qSet u n (ln u n (nx u n 0)))
  else (nx u n 0, none)
section RD
variable {f g : Nat → Nat} {I : Nat → Nat → Int32} {J : Nat → Nat → Int64} {u : Nat → Nat} {n : Nat}
abbrev FtQ (f g : Nat → Nat) (I : Nat → Nat → Int32) (J : Nat → Nat → Int64) (r : Rs) : am_Q := fun x σ' => ∃ I', σ' = (I', J, am_Rf f g) ∧ FrC I' I ∧ ((r.2 = none ∧ x = some (.int (nI r.1))) ∨ ∃ s l, r.2 = some (s, l) ∧ x = some (.int (-1)) ∧ I' 201 0 = nI s ∧ TL I' l)
theorem ev_faultUnless (b : Bool) (σ : am_S) {I : Nat → Nat → Int32} {J : Nat → Nat → Int64} {R : Nat → Nat → Option Nat} (hσ : σ = (I, J, R)) : am_ev am_sh m_Re_faultUnless [.ref 201, .int (b2i b)] σ (Rt (.int (if b = true then -1 else I 201 6)) σ) := by
  subst hσ
  cases b with
  | true => exact s_Re_faultUnless ⟨fun e => absurd e (by decide), fun _ => j_Re_faultUnless ⟨rfl, rfl⟩⟩
  | false => exact s_Re_faultUnless ⟨fun _ => j_Re_faultUnless ⟨rfl, rfl, rfl⟩, fun e => absurd rfl e⟩
/-- behind a name: what is told -/
theorem rd_fault {r : Rs} {y : Nat} {I0 : Nat → Nat → Int32} (hF0 : FrC I0 I) (ev : am_ev am_sh y [.ref 201] (I0, J, am_Rf f g) (RdQ f g I0 J r)) : am_ev am_sh y [.ref 201] (I0, J, am_Rf f g) (fun w σ' => ∃ I3 b, w = some (.int (b2i b)) ∧ σ' = (I3, J, am_Rf f g) ∧ am_ev am_sh m_Re_faultUnless [.ref 201, .int (b2i b)] (I3, J, am_Rf f g) (FtQ f g I J r)) := by
  refine ev.mono ?_
  rintro x σ' ⟨I1, rfl, rfl, a1, a2, a3⟩
  refine ⟨I1, _, rfl, rfl, (ev_faultUnless _ _ rfl).rt ⟨I1, rfl, a1.tr hF0, ?_⟩⟩
  cases hr : r.2 with
  | none =>
    refine Or.inl ⟨rfl, ?_⟩
    rw [if_neg (by decide), a2]
  | some x =>
    obtain ⟨s, l⟩ := x
    obtain ⟨b1, b2⟩ := a3 s l hr
    exact Or.inr ⟨s, l, rfl, by rw [show (some (s, l)).isSome = true from rfl, if_pos rfl], b1, b2⟩
end RD
