/-! the reference: the whole text -/
theorem nmx0 : nmx 0 = [109, 97, 106, 111, 114, 105, 116, 121] := by decide +kernel
theorem nmx1 : nmx 1 = [103, 114, 105, 100] := by decide +kernel
theorem nmx2 : nmx 2 = [119, 97, 108, 108] := by decide +kernel
theorem nmx3 : nmx 3 = [112, 108, 97, 110, 101] := by decide +kernel
theorem nmx4 : nmx 4 = [115, 101, 116] := by decide +kernel
section TX
variable {u : Nat → Nat} {n a b : Nat}
theorem isNm_iff {t : Nat} : isNm u n t a b = true ↔ b - a = (nmx t).length ∧ ∀ i, i < (nmx t).length → lu u n (a + i) = (nmx t).getD i 0 := by
  unfold isNm
  rw [Bool.and_eq_true, ba_iff]
  constructor
  · rintro ⟨h1, h2⟩
    exact ⟨of_decide_eq_true h1, fun i hi => of_decide_eq_true (h2 i hi)⟩
  · rintro ⟨h1, h2⟩
    exact ⟨decide_eq_true h1, fun i hi => decide_eq_true (h2 i hi)⟩
theorem nm0 : isNm u n 0 a b = true ↔ b - a = 8 ∧ lu u n a = 109 ∧ lu u n (a + 1) = 97 ∧ lu u n (a + 2) = 106 ∧ lu u n (a + 3) = 111 ∧ lu u n (a + 4) = 114 ∧ lu u n (a + 5) = 105 ∧ lu u n (a + 6) = 116 ∧ lu u n (a + 7) = 121 := by
  rw [isNm_iff, nmx0]
  constructor
  · rintro ⟨h1, h2⟩
    exact ⟨h1, h2 0 (by decide), h2 1 (by decide), h2 2 (by decide), h2 3 (by decide), h2 4 (by decide), h2 5 (by decide), h2 6 (by decide), h2 7 (by decide)⟩
  · rintro ⟨h1, p0, p1, p2, p3, p4, p5, p6, p7⟩
    refine ⟨h1, fun i hi => ?_⟩
    have hi : i < 8 := hi
    rcases (show i = 0 ∨ i = 1 ∨ i = 2 ∨ i = 3 ∨ i = 4 ∨ i = 5 ∨ i = 6 ∨ i = 7 by omega) with rfl | rfl | rfl | rfl | rfl | rfl | rfl | rfl
    · exact p0
    · exact p1
    · exact p2
    · exact p3
    · exact p4
    · exact p5
    · exact p6
    · exact p7
theorem nm4 {t c0 c1 c2 c3 : Nat} (ht : nmx t = [c0, c1, c2, c3]) : isNm u n t a b = true ↔ b - a = 4 ∧ lu u n a = c0 ∧ lu u n (a + 1) = c1 ∧ lu u n (a + 2) = c2 ∧ (4 = 3 ∨ lu u n (a + 3) = c3) := by
  rw [isNm_iff, ht]
  constructor
  · rintro ⟨h1, h2⟩
    exact ⟨h1, h2 0 (by simp), h2 1 (by simp), h2 2 (by simp), Or.inr (h2 3 (by simp))⟩
  · rintro ⟨h1, p0, p1, p2, p3⟩
    refine ⟨h1, fun i hi => ?_⟩
    have hi : i < 4 := hi
    rcases (show i = 0 ∨ i = 1 ∨ i = 2 ∨ i = 3 by omega) with rfl | rfl | rfl | rfl
    · exact p0
    · exact p1
    · exact p2
    · rcases p3 with q | q
      · omega
      · exact q
theorem nm5 : isNm u n 3 a b = true ↔ b - a = 5 ∧ lu u n a = 112 ∧ lu u n (a + 1) = 108 ∧ lu u n (a + 2) = 97 ∧ lu u n (a + 3) = 110 ∧ lu u n (a + 4) = 101 := by
  rw [isNm_iff, nmx3]
  constructor
  · rintro ⟨h1, h2⟩
    exact ⟨h1, h2 0 (by decide), h2 1 (by decide), h2 2 (by decide), h2 3 (by decide), h2 4 (by decide)⟩
  · rintro ⟨h1, p0, p1, p2, p3, p4⟩
    refine ⟨h1, fun i hi => ?_⟩
    have hi : i < 5 := hi
    rcases (show i = 0 ∨ i = 1 ∨ i = 2 ∨ i = 3 ∨ i = 4 by omega) with rfl | rfl | rfl | rfl | rfl
    · exact p0
    · exact p1
    · exact p2
    · exact p3
    · exact p4
theorem nm3 : isNm u n 4 a b = true ↔ b - a = 3 ∧ lu u n a = 115 ∧ lu u n (a + 1) = 101 ∧ lu u n (a + 2) = 116 ∧ (3 = 3 ∨ lu u n (a + 3) = 0) := by
  rw [isNm_iff, nmx4]
  constructor
  · rintro ⟨h1, h2⟩
    exact ⟨h1, h2 0 (by decide), h2 1 (by decide), h2 2 (by decide), Or.inl rfl⟩
  · rintro ⟨h1, p0, p1, p2, _⟩
    refine ⟨h1, fun i hi => ?_⟩
    have hi : i < 3 := hi
    rcases (show i = 0 ∨ i = 1 ∨ i = 2 by omega) with rfl | rfl | rfl
    · exact p0
    · exact p1
    · exact p2
end TX
/-- what the whole text comes to: the place leads to the fault -/
abbrev IsQ (f g : Nat → Nat) (I : Nat → Nat → Int32) (J : Nat → Nat → Int64) (u : Nat → Nat) (n : Nat) (r : Rs) : am_Q := fun x σ' => ∃ I' p', x = some (.int (b2i r.2.isSome)) ∧ σ' = (I', J, am_Rf f g) ∧ FrR I' I ∧ I' 236 12 = nI p' ∧ p' ≤ n ∧ nx u n p' = r.1 ∧ ∀ s l, r.2 = some (s, l) → I' 236 13 = nI s ∧ GL I' (l, false)
section MX
variable {f g : Nat → Nat} {I : Nat → Nat → Int32} {J : Nat → Nat → Int64} {u : Nat → Nat} {n : Nat} {q : am_Q}
theorem it_tail {a pl : Nat} {ok tm : Bool} {I' : Nat → Nat → Int32} (h : RT I' u n) (hp : I' 236 12 = nI pl) (hn : pl ≤ n) (ht : ok = true → I' 236 16 = b2i tm) (hq : ∀ I2 : Nat → Nat → Int32, I2 236 12 = nI (if (ok && decide (lu u n (nx u n pl) = 0) && tm) = true then a else if ok = true then nx u n pl else pl) → Rat I2 I' → q (some (.int (b2i (ok && decide (lu u n (nx u n pl) = 0) && !tm)))) (I2, J, am_Rf f g)) : am_u am_sh m_MD_isText q (am_at am_c_MD_isText 270) 270 [some (.ref 236), some (.int (nI a)), some (.int (b2i ok))] [] (I', J, am_Rf f g) := by
  have lb := h.le (nx u n pl)
  cases ok with
  | false => exact br_t rfl (j_MD_isText (br_t rfl (j_MD_isText ⟨rfl, rfl, br_t rfl (j_MD_isText ⟨Or.inl rfl, hq (am_up I' 236 12 (I' 236 12)) (by rw [am_up_eq]; exact hp) Rat.up⟩)⟩)))
  | true =>
    have ht := ht rfl
    refine br_f (by decide) ⟨rfl, (ev_here h hp hn).mono ?_⟩
    rintro x σ' ⟨rfl, I1, rfl, a1, a2⟩
    have tm1 : I1 236 16 = b2i tm := by rw [a2 236 16 (by omega)]; exact ht
    refine ⟨fun e => j_MD_isText (br_t rfl (j_MD_isText ⟨rfl, rfl, br_t rfl (j_MD_isText ?_)⟩)), fun e => j_MD_isText (br_f (by decide) ⟨rfl, ?_⟩)⟩
    · have e : ¬ nI (lu u n (nx u n pl)) = nI 0 := e
      rw [nI_eq (by omega) (by omega)] at e
      have := hq (am_up I1 236 12 (I1 236 12)) (by rw [am_up_eq, decide_eq_false e]; exact a1) (Rat.up.tr a2)
      rw [decide_eq_false e] at this
      exact ⟨Or.inl rfl, this⟩
    · have e : nI (lu u n (nx u n pl)) = nI 0 := e
      rw [nI_eq (by omega) (by omega)] at e
      rw [decide_eq_true e] at hq
      cases tm with
      | false =>
        refine br_t tm1 (j_MD_isText ⟨rfl, rfl, br_f (by decide) ⟨rfl, fun w => absurd ?_ w, fun _ => j_MD_isText ⟨Or.inr rfl, hq (am_up I1 236 12 (I1 236 12)) (by rw [am_up_eq]; exact a1) (Rat.up.tr a2)⟩⟩⟩)
        show am_up I1 236 12 (I1 236 12) 236 16 = 0
        rw [am_up_ne (by omega)]
        exact tm1
      | true =>
        refine br_f (by rw [tm1]; decide) (j_MD_isText ⟨rfl, br_f (by decide) ⟨rfl, fun _ => j_MD_isText ⟨Or.inl rfl, hq (am_up I1 236 12 (nI a)) am_up_eq (Rat.up.tr a2)⟩, fun w => absurd (show am_up I1 236 12 (nI a) 236 16 = 0 from w) ?_⟩⟩)
        rw [am_up_ne (by omega), tm1]
        decide
/-- behind a name other than a wall's -/
theorem it_name {a y : Nat} {r : Rs} {I0 : Nat → Nat → Int32} (h : RT I u n) (hF : FrR I0 I) (hT : GL I0 ([], false)) (hr : r.1 ≤ n) (hs0 : r.2 = none → True) (ev : am_ev am_sh y [.ref 236] (I0, J, am_Rf f g) (RfQ f g I0 J r)) : am_ev am_sh y [.ref 236] (I0, J, am_Rf f g) (fun x σ' => ∃ b, x = some (.int (b2i b)) ∧ am_u am_sh m_MD_isText (IsQ f g I J u n (fin u n r)) (am_at am_c_MD_isText 270) 270 [some (.ref 236), some (.int (nI a)), some (.int (b2i b))] [] σ') := by
  refine ev.mono ?_
  rintro x σ' ⟨I1, rfl, rfl, a1, a2, a3⟩
  obtain ⟨pl, o⟩ := r
  have hr : pl ≤ n := hr
  have a2 : I1 236 12 = nI pl := a2
  have hF1 := a1.tr hF
  cases o with
  | none =>
    refine ⟨false, rfl, it_tail (tm := false) (h.fr hF1) a2 hr (fun e => by cases e) (fun I2 b1 b2 => ⟨I2, pl, rfl, rfl, b2.fr.tr hF1, b1, hr, rfl, fun s l e => by cases e⟩)⟩
  | some x =>
    obtain ⟨s, l⟩ := x
    obtain ⟨c1, c2⟩ := a3 s l rfl
    refine ⟨true, rfl, it_tail (tm := false) (h.fr hF1) a2 hr (fun _ => c2.2.2.2) (fun I2 b1 b2 => ?_)⟩
    have nn := nx_nx (u := u) hr
    by_cases w : lu u n (nx u n pl) = 0
    · rw [fin_yes w]
      rw [decide_eq_true w] at b1 ⊢
      refine ⟨I2, nx u n pl, rfl, rfl, b2.fr.tr hF1, b1, nx_le hr, nn, fun s' l' e => ?_⟩
      have e := Option.some.inj e
      rw [← (Prod.mk.inj e).1, ← (Prod.mk.inj e).2]
      exact ⟨by rw [b2 236 13 (by omega)]; exact c1, c2.at b2⟩
    · rw [fin_not w]
      rw [decide_eq_false w] at b1 ⊢
      exact ⟨I2, nx u n pl, rfl, rfl, b2.fr.tr hF1, b1, nx_le hr, nn, fun s' l' e => by cases e⟩
theorem it_wall {a : Nat} {r : Nat × Option (List Nat)} {I0 : Nat → Nat → Int32} (h : RT I u n) (hF : FrR I0 I) (ha : a ≤ n) (hna : nx u n a = a) (hr : r.1 ≤ n) (ev : am_ev am_sh m_MD_wall [.ref 236] (I0, J, am_Rf f g) (RwQ f g I0 J r)) : am_ev am_sh m_MD_wall [.ref 236] (I0, J, am_Rf f g) (fun x σ' => ∃ b, x = some (.int (b2i b)) ∧ am_u am_sh m_MD_isText (IsQ f g I J u n (wres a (finW u n r))) (am_at am_c_MD_isText 270) 270 [some (.ref 236), some (.int (nI a)), some (.int (b2i b))] [] σ') := by
  refine ev.mono ?_
  rintro x σ' ⟨I1, rfl, rfl, a1, a2, a4, a3⟩
  obtain ⟨pl, o⟩ := r
  have hr : pl ≤ n := hr
  have a2 : I1 236 12 = nI pl := a2
  have hF1 := a1.tr hF
  cases o with
  | none =>
    refine ⟨false, rfl, it_tail (tm := false) (h.fr hF1) a2 hr (fun e => by cases e) (fun I2 b1 b2 => ⟨I2, pl, rfl, rfl, b2.fr.tr hF1, b1, hr, rfl, fun s l e => by cases e⟩)⟩
  | some ws =>
    obtain ⟨c1, c2, c3, c4⟩ := a3 ws rfl
    obtain ⟨m1, _⟩ := c2.more c3
    refine ⟨true, rfl, it_tail (tm := (wlR (lw ws) ws.length ws.length).2) (h.fr hF1) a2 hr (fun _ => c4.2.2.2) (fun I2 b1 b2 => ?_)⟩
    have nn := nx_nx (u := u) hr
    by_cases w : lu u n (nx u n pl) = 0
    · rw [finW_yes w]
      rw [decide_eq_true w] at b1 ⊢
      unfold wRb at m1
      by_cases tot : totN (lw ws) ws.length ≤ 12
      · rw [if_pos tot] at m1
        have m1 := of_decide_eq_true m1
        rw [m1] at b1 c4 ⊢
        have q0 : wres a (nx u n pl, some ws) = (nx u n pl, some (ws.sum, walL (lw ws) ws.length)) := if_pos tot
        rw [q0]
        refine ⟨I2, nx u n pl, rfl, rfl, b2.fr.tr hF1, b1, nx_le hr, nn, fun s' l' e => ?_⟩
        have e := Option.some.inj e
        rw [← (Prod.mk.inj e).1, ← (Prod.mk.inj e).2]
        exact ⟨by rw [b2 236 13 (by omega)]; exact c1, c4.at b2⟩
      · rw [if_neg tot] at m1
        rw [m1] at b1 ⊢
        have q0 : wres a (nx u n pl, some ws) = (a, none) := if_neg tot
        rw [q0]
        exact ⟨I2, a, rfl, rfl, b2.fr.tr hF1, b1, ha, hna, fun s' l' e => by cases e⟩
    · rw [finW_not w]
      rw [decide_eq_false w] at b1 ⊢
      exact ⟨I2, nx u n pl, rfl, rfl, b2.fr.tr hF1, b1, nx_le hr, nn, fun s' l' e => by cases e⟩
theorem lp_letters {a p0 : Nat} (h : RT I u n) (K : ∀ I' : Nat → Nat → Int32, I' 236 12 = nI (ln u n p0) → Rat I' I → am_run am_sh m_MD_isText q 71 [some (.ref 236), some (.int (nI a)), none] [] (I', J, am_Rf f g)) : ∀ k p (I' : Nat → Nat → Int32), k + p = n → I' 236 12 = nI p → Rat I' I → ln u n p = ln u n p0 → am_u am_sh m_MD_isText q (am_at am_c_MD_isText 25) 25 [some (.ref 236), some (.int (nI a)), none] [] (I', J, am_Rf f g) := by
  have h90 := h.1
  intro k
  induction k with
  | zero =>
    intro p I' hk hp hs hn
    obtain rfl : p = n := by omega
    have hc := h.fr hs.fr
    rw [ln_no (by rw [lu_n]; omega)] at hn
    exact ⟨rfl, rfl, br_t (by rw [hc.2.1, hp]; exact nI_le (Nat.le_refl _) (by omega)) (K I' (by rw [← hn]; exact hp) hs)⟩
  | succ k ih =>
    intro p I' hk hp hs hn
    have hc := h.fr hs.fr
    have lb := h.le p
    have tp : I' 245 p = nI (lu u n p) := by rw [(hc.2.2 p (by omega)).1, lu_lt (by omega)]
    have key : ((97 : Int32) ≤ I' 245 p ∧ I' 245 p ≤ 122) ↔ (97 ≤ lu u n p ∧ lu u n p ≤ 122) := by
      rw [tp]
      exact ⟨fun w => ⟨(nI_leI (a := 97) (by omega) (by omega)).mp w.1, (nI_leI (b := 122) (by omega) (by omega)).mp w.2⟩, fun w => ⟨(nI_leI (a := 97) (by omega) (by omega)).mpr w.1, (nI_leI (b := 122) (by omega) (by omega)).mpr w.2⟩⟩
    refine ⟨rfl, rfl, br_f (by rw [hc.2.1, hp]; exact nI_ge (by omega) (by omega)) ⟨245, rfl, rfl, rfl, 90, p, rfl, by omega, hp, (ev_in32 (I' 245 p) 97 122 _).rt ⟨fun e => ?_, fun e => ⟨rfl, rfl, j_MD_isText ?_⟩⟩⟩⟩
    · have e := of_decide_eq_false (b2i_eq0.mp e)
      rw [ln_no (fun w => e (key.mpr w))] at hn
      exact K I' (by rw [← hn]; exact hp) hs
    · have e := of_decide_eq_true (b2i_ne0.mp e)
      rw [hp, nI_1]
      exact ih (p + 1) _ (by omega) am_up_eq (Rat.up.tr hs) (by rw [← ln_yes (key.mp e)]; exact hn)
end MX
