/-! the reference: the whole text; what texts tell is well-formed -/
section TX
variable {u : Nat → Nat} {n : Nat}
theorem lok_ok {z : Nat} {l : List Nat} (h : lok z l = true) : LOk z l := by
  unfold lok at h
  rw [Bool.and_eq_true, Bool.and_eq_true, List.all_eq_true] at h
  exact ⟨of_decide_eq_true h.1.1, fun s hs => of_decide_eq_true (h.1.2 s hs), of_decide_eq_true h.2⟩
theorem LOk.of3 {z : Nat} {l : List Nat} (h : l.length ≤ 12 ∧ l.all (fun s => decide (1 ≤ s ∧ s < 2 ^ z)) = true ∧ l.Nodup) : LOk z l := by
  obtain ⟨a, b, c⟩ := h
  rw [List.all_eq_true] at b
  exact ⟨a, fun s hs => of_decide_eq_true (b s hs), c⟩
/-- a result within the tape, and good groups -/
def ROk (n : Nat) (r : Rs) : Prop := r.1 ≤ n ∧ ∀ s l, r.2 = some (s, l) → 1 ≤ s ∧ s ≤ 7 ∧ LOk s l
theorem ROk.fin {r : Rs} (h : ROk n r) : ROk n (fin u n r) := ⟨fin_le h.1, fun s l e => h.2 s l (fin_some e)⟩
theorem qMaj_ok {p : Nat} (hp : p ≤ n) : ROk n (qMaj u n p) := by
  unfold qMaj
  cases h : fig u n 5 p with
  | none => exact ⟨nx_le hp, fun s l e => by cases e⟩
  | some v =>
    obtain ⟨a, b, c⟩ := fig_ok h
    refine ⟨a, fun s l e => ?_⟩
    have e := Option.some.inj e
    rw [← (Prod.mk.inj e).1, ← (Prod.mk.inj e).2]
    exact ⟨b, by omega, LOk.of3 (majL_ok v (by omega) b)⟩
theorem qGrid_ok {p : Nat} (hp : p ≤ n) : ROk n (qGrid u n p) := by
  unfold qGrid
  cases h : fig u n 4 p with
  | none => exact ⟨nx_le hp, fun s l e => by cases e⟩
  | some w =>
    obtain ⟨a, b, c⟩ := fig_ok h
    dsimp only
    by_cases e : lu u n (nx u n (nx u n p + 1)) = 42
    · rw [if_pos e]
      have d3 : nx u n (nx u n p + 1) + 1 ≤ n := lu_pos (u := u) (by omega)
      cases h2 : fig u n (min 4 (7 / w)) (nx u n (nx u n p + 1) + 1) with
      | none => exact ⟨nx_le d3, fun s l e => by cases e⟩
      | some hh =>
        obtain ⟨a2, b2, c2⟩ := fig_ok h2
        obtain ⟨g1, g2, g3, g4⟩ := gmin_tab w (by omega) b
        have h7 := g4 hh c2
        refine ⟨a2, fun s l e => ?_⟩
        have e := Option.some.inj e
        rw [← (Prod.mk.inj e).1, ← (Prod.mk.inj e).2]
        have wh : 1 ≤ w * hh := Nat.mul_pos b b2
        exact ⟨wh, h7, LOk.of3 (grdL_ok w (by omega) hh (by omega) ⟨b, b2, h7⟩)⟩
    · rw [if_neg e]
      exact ⟨nx_le a, fun s l e => by cases e⟩
theorem qPln_ok {p : Nat} (hp : p ≤ n) : ROk n (qPln p) := by
  refine ⟨hp, fun s l e => ?_⟩
  have e := Option.some.inj e
  rw [← (Prod.mk.inj e).1, ← (Prod.mk.inj e).2]
  exact ⟨by omega, by omega, LOk.of3 plnL_ok⟩
theorem qSet_ok {p : Nat} (hp : p ≤ n) : ROk n (qSet u n p) := by
  cases h : fig u n 7 p with
  | none =>
    have q0 : qSet u n p = (nx u n p, none) := by unfold qSet; rw [h]
    rw [q0]
    exact ⟨nx_le hp, fun s l e => by cases e⟩
  | some z =>
    obtain ⟨a, b, c⟩ := fig_ok h
    have l0 : LOk z [] := ⟨by simp, fun s hs => by simp at hs, by simp⟩
    rw [qSet_eq h]
    by_cases e : lu u n (nx u n (nx u n p + 1)) = 58
    · rw [if_pos e]
      have d3 : nx u n (nx u n p + 1) + 1 ≤ n := lu_pos (u := u) (by omega)
      obtain ⟨t1, t2⟩ := qTold_ok (u := u) (n := n) (z := z) 13 _ [] d3 l0
      rcases hq : qTold u n z 13 (nx u n (nx u n p + 1) + 1) [] with ⟨p', o⟩
      rw [hq] at t1 t2
      cases o with
      | none => exact ⟨t1, fun s l e => by cases e⟩
      | some l' =>
        refine ⟨t1, fun s l e => ?_⟩
        have e := Option.some.inj e
        rw [← (Prod.mk.inj e).1, ← (Prod.mk.inj e).2]
        exact ⟨b, c, t2 l' rfl⟩
    · rw [if_neg e]
      refine ⟨nx_le a, fun s l e => ?_⟩
      have e := Option.some.inj e
      rw [← (Prod.mk.inj e).1, ← (Prod.mk.inj e).2]
      exact ⟨b, c, l0⟩
theorem qWid_ok : ∀ k p (ws : List Nat), p ≤ n → ws.length + (k + 1) = 3 → Wl ws → (qWid u n (k + 1) p ws.sum ws).1 ≤ n ∧ ∀ ws', (qWid u n (k + 1) p ws.sum ws).2 = some ws' → Wl ws' ∧ 1 ≤ ws'.length := by
  intro k
  induction k with
  | zero =>
    intro p ws hp hl hw
    cases h : fig u n (min 4 (7 - ws.sum)) p with
    | none => rw [qWid_none h]; exact ⟨nx_le hp, fun s e => by cases e⟩
    | some v =>
      obtain ⟨a, b, c⟩ := fig_ok h
      rw [qWid_last h]
      exact ⟨a, fun ws' e => by rw [← Option.some.inj e]; exact ⟨hw.add (by omega) b c, by simp⟩⟩
  | succ k ih =>
    intro p ws hp hl hw
    cases h : fig u n (min 4 (7 - ws.sum)) p with
    | none => rw [qWid_none h]; exact ⟨nx_le hp, fun s e => by cases e⟩
    | some v =>
      obtain ⟨a, b, c⟩ := fig_ok h
      have hw2 := hw.add (v := v) (by omega) b c
      rw [qWid_more h]
      by_cases e : lu u n (nx u n (nx u n p + 1)) = 44
      · rw [if_pos e, show ws.sum + v = (ws ++ [v]).sum by simp]
        exact ih _ (ws ++ [v]) (lu_pos (u := u) (by omega)) (by simp; omega) hw2
      · rw [if_neg e]
        exact ⟨nx_le a, fun ws' e => by rw [← Option.some.inj e]; exact ⟨hw2, by simp⟩⟩
theorem wall_ok {a p : Nat} (ha : a ≤ n) (hp : p ≤ n) : (qWid u n 3 p 0 []).1 ≤ n ∧ ROk n (wres a (finW u n (qWid u n 3 p 0 []))) := by
  obtain ⟨h1, h2⟩ := qWid_ok (u := u) (n := n) 2 p [] hp rfl ⟨by simp, fun v hv => by simp at hv, by simp⟩
  refine ⟨h1, ?_⟩
  rcases hq : qWid u n 3 p 0 [] with ⟨p', o⟩
  have h1 : (qWid u n 3 p 0 []).1 ≤ n := h1
  have h2 : ∀ ws', (qWid u n 3 p 0 []).2 = some ws' → Wl ws' ∧ 1 ≤ ws'.length := h2
  rw [hq] at h1 h2
  have h1 : p' ≤ n := h1
  cases o with
  | none => exact ⟨nx_le h1, fun s l e => by cases e⟩
  | some ws =>
    obtain ⟨w1, w2⟩ := h2 ws rfl
    obtain ⟨_, m2⟩ := w1.more w2
    obtain ⟨_, o2, _⟩ := w1.ok w2
    by_cases w : lu u n (nx u n p') = 0
    · rw [finW_yes w]
      by_cases tot : totN (lw ws) ws.length ≤ 12
      · have q0 : wres a (nx u n p', some ws) = (nx u n p', some (ws.sum, walL (lw ws) ws.length)) := if_pos tot
        rw [q0]
        refine ⟨nx_le h1, fun s l e => ?_⟩
        have e := Option.some.inj e
        rw [← (Prod.mk.inj e).1, ← (Prod.mk.inj e).2]
        rw [decide_eq_true tot, o2] at m2
        refine ⟨?_, w1.2.2, lok_ok m2⟩
        match ws, w2, w1 with
        | x :: xs, _, w1 =>
          have := (w1.2.1 x (by simp)).1
          simp
          omega
      · have q0 : wres a (nx u n p', some ws) = (a, none) := if_neg tot
        rw [q0]
        exact ⟨ha, fun s l e => by cases e⟩
    · rw [finW_not w]
      exact ⟨nx_le h1, fun s l e => by cases e⟩
theorem txt_ok : ROk n (txt u n) := by
  have n0 := nx_le (u := u) (n := n) (p := 0) (Nat.zero_le _)
  have n1 := (ln_le (u := u) (n := n) (n - nx u n 0) (nx u n 0) (by omega)).1
  unfold txt
  split
  · exact (qMaj_ok n1).fin
  · split
    · exact (qGrid_ok n1).fin
    · split
      · exact (wall_ok n0 n1).2
      · split
        · exact (qPln_ok n1).fin
        · split
          · exact (qSet_ok n1).fin
          · exact ⟨n0, fun s l e => by cases e⟩
end TX
section MX
variable {f g : Nat → Nat} {I : Nat → Nat → Int32} {J : Nat → Nat → Int64} {u : Nat → Nat} {n : Nat}
theorem ev_isText (h : RT I u n) : am_ev am_sh m_MD_isText [.ref 236] (I, J, am_Rf f g) (IsQ f g I J u n (txt u n)) := by
  have h90 := h.1
  have n0 := nx_le (u := u) (n := n) (p := 0) (Nat.zero_le _)
  have n00 := nx_nx (u := u) (n := n) (p := 0) (Nat.zero_le _)
  obtain ⟨n1, n2⟩ := ln_le (u := u) (n := n) (n - nx u n 0) (nx u n 0) (by omega)
  have f0 : FrR (am_up (am_up (am_up I 236 12 0) 236 14 0) 236 16 0) I := (((FrR.rf I).up (by omega)).up (by omega)).up (by omega)
  refine s_MD_isText ⟨rfl, rfl, rfl, Or.inl rfl, rfl, (ev_here (p := 0) (h.fr f0) (by rw [am_up_ne (by omega), am_up_ne (by omega), am_up_eq]; rfl) (Nat.zero_le _)).mono ?_⟩
  rintro x σ' ⟨rfl, I1, rfl, a1, a2⟩
  have g1 : GL I1 ([], false) := by
    refine GL.at ?_ a2
    refine ⟨?_, by simp, fun k v hk => by simp at hk, ?_⟩
    · rw [am_up_ne (by omega), am_up_eq]; rfl
    · rw [am_up_eq]; rfl
  refine ⟨rfl, j_MD_isText ?_⟩
  rw [a1]
  refine lp_letters (p0 := nx u n 0) ((h.fr f0).fr a2.fr) (fun I2 b1 b2 => j_MD_isText ?_) (n - nx u n 0) (nx u n 0) I1 (by omega) a1 (Rat.rf I1) rfl
  have c2 : RT I2 u n := ((h.fr f0).fr a2.fr).fr b2.fr
  have f2 : FrR I2 I := (b2.fr.tr a2.fr).tr f0
  have g2 : GL I2 ([], false) := g1.at b2
  have le := fun k => h.le (nx u n 0 + k)
  have tp : ∀ k, nx u n 0 + k < n → I2 245 (nx u n 0 + k) = nI (lu u n (nx u n 0 + k)) := fun k hk => by rw [(c2.2.2 _ hk).1, lu_lt hk]
  have nm := fun {z c0 c1 c2' c3 : Nat} (hz : 3 ≤ z ∧ z ≤ 8) (hc : c0 < 128 ∧ c1 < 128 ∧ c2' < 128 ∧ c3 < 128) => ev_misName (f := f) (g := g) (J := J) (a := nx u n 0) (z := z) (c0 := c0) (c1 := c1) (c2 := c2') (c3 := c3) c2 rfl b1 n2 n1 hz hc
  -- set
  have L5 : am_u am_sh m_MD_isText (IsQ f g I J u n (if isNm u n 4 (nx u n 0) (ln u n (nx u n 0)) = true then fin u n (qSet u n (ln u n (nx u n 0))) else (nx u n 0, none))) (am_at am_c_MD_isText 239) 239 [some (.ref 236), some (.int (nI (nx u n 0))), none] [] (I2, J, am_Rf f g) := by
    refine ⟨rfl, (nm (z := 3) (c0 := 115) (c1 := 101) (c2' := 116) (c3 := 0) (by omega) (by omega)).mono ?_⟩
    rintro x σ' ⟨y, rfl, rfl, hy⟩
    rw [← nm3] at hy
    cases y with
    | true =>
      rw [if_pos (hy.mp rfl)]
      refine br_f (by decide) ⟨rfl, (it_name (a := nx u n 0) h f2 g2 (qSet_ok n1).1 (fun _ => trivial) (ev_told c2 b1 n1 g2)).mono ?_⟩
      rintro x σ' ⟨b, rfl, hb⟩
      exact j_MD_isText hb
    | false =>
      rw [if_neg (fun w => absurd (hy.mpr w) (by decide))]
      exact br_t rfl (j_MD_isText ⟨rfl, Or.inl rfl, _, nx u n 0, rfl, rfl, f2.up (by omega), am_up_eq, n0, n00, fun s l e => by cases e⟩)
  -- plane
  have L4 : am_u am_sh m_MD_isText (IsQ f g I J u n (if isNm u n 3 (nx u n 0) (ln u n (nx u n 0)) = true then fin u n (qPln (ln u n (nx u n 0))) else if isNm u n 4 (nx u n 0) (ln u n (nx u n 0)) = true then fin u n (qSet u n (ln u n (nx u n 0))) else (nx u n 0, none))) (am_at am_c_MD_isText 201) 201 [some (.ref 236), some (.int (nI (nx u n 0))), none] [] (I2, J, am_Rf f g) := by
    refine ⟨rfl, (nm (z := 5) (c0 := 112) (c1 := 108) (c2' := 97) (c3 := 110) (by omega) (by omega)).mono ?_⟩
    rintro x σ' ⟨y, rfl, rfl, hy⟩
    cases y with
    | true =>
      obtain ⟨w1, w2, w3, w4, w5⟩ := hy.mp rfl
      have w5 : lu u n (nx u n 0 + 3) = 110 := by
        rcases w5 with q | q
        · omega
        · exact q
      have l4 := le 4
      refine br_f (by decide) ⟨245, rfl, rfl, 90, nx u n 0 + 4, rfl, by omega, nI_add (nx u n 0) 4, fun e => j_MD_isText ?_, fun e => ?_⟩
      · have e : ¬ I2 245 (nx u n 0 + 4) = nI 101 := e
        rw [tp 4 (by omega), nI_eq (by omega) (by omega)] at e
        rw [if_neg (fun w => e (nm5.mp w).2.2.2.2.2)]
        exact L5
      · have e : I2 245 (nx u n 0 + 4) = nI 101 := e
        rw [tp 4 (by omega), nI_eq (by omega) (by omega)] at e
        rw [if_pos (nm5.mpr ⟨w1, w2, w3, w4, w5, e⟩)]
        refine ⟨rfl, (it_name (a := nx u n 0) h f2 g2 (qPln_ok n1).1 (fun _ => trivial) (ev_mplane b1 g2)).mono ?_⟩
        rintro x σ' ⟨b, rfl, hb⟩
        exact j_MD_isText hb
    | false =>
      refine br_t rfl (j_MD_isText ?_)
      rw [if_neg (fun w => by
        obtain ⟨w1, w2, w3, w4, w5, w6⟩ := nm5.mp w
        exact absurd (hy.mpr ⟨w1, w2, w3, w4, Or.inr w5⟩) (by decide))]
      exact L5
  -- wall
  have L3 : am_u am_sh m_MD_isText (IsQ f g I J u n (if isNm u n 2 (nx u n 0) (ln u n (nx u n 0)) = true then wres (nx u n 0) (finW u n (qWid u n 3 (ln u n (nx u n 0)) 0 [])) else if isNm u n 3 (nx u n 0) (ln u n (nx u n 0)) = true then fin u n (qPln (ln u n (nx u n 0))) else if isNm u n 4 (nx u n 0) (ln u n (nx u n 0)) = true then fin u n (qSet u n (ln u n (nx u n 0))) else (nx u n 0, none))) (am_at am_c_MD_isText 176) 176 [some (.ref 236), some (.int (nI (nx u n 0))), none] [] (I2, J, am_Rf f g) := by
    refine ⟨rfl, (nm (z := 4) (c0 := 119) (c1 := 97) (c2' := 108) (c3 := 108) (by omega) (by omega)).mono ?_⟩
    rintro x σ' ⟨y, rfl, rfl, hy⟩
    rw [← nm4 nmx2] at hy
    cases y with
    | true =>
      rw [if_pos (hy.mp rfl)]
      refine br_f (by decide) ⟨rfl, (it_wall (a := nx u n 0) h f2 n0 n00 (wall_ok n0 n1).1 (ev_mwall c2 b1 n1 g2)).mono ?_⟩
      rintro x σ' ⟨b, rfl, hb⟩
      exact j_MD_isText hb
    | false =>
      rw [if_neg (fun w => absurd (hy.mpr w) (by decide))]
      exact br_t rfl (j_MD_isText L4)
  -- grid
  have L2 : am_u am_sh m_MD_isText (IsQ f g I J u n (if isNm u n 1 (nx u n 0) (ln u n (nx u n 0)) = true then fin u n (qGrid u n (ln u n (nx u n 0))) else if isNm u n 2 (nx u n 0) (ln u n (nx u n 0)) = true then wres (nx u n 0) (finW u n (qWid u n 3 (ln u n (nx u n 0)) 0 [])) else if isNm u n 3 (nx u n 0) (ln u n (nx u n 0)) = true then fin u n (qPln (ln u n (nx u n 0))) else if isNm u n 4 (nx u n 0) (ln u n (nx u n 0)) = true then fin u n (qSet u n (ln u n (nx u n 0))) else (nx u n 0, none))) (am_at am_c_MD_isText 151) 151 [some (.ref 236), some (.int (nI (nx u n 0))), none] [] (I2, J, am_Rf f g) := by
    refine ⟨rfl, (nm (z := 4) (c0 := 103) (c1 := 114) (c2' := 105) (c3 := 100) (by omega) (by omega)).mono ?_⟩
    rintro x σ' ⟨y, rfl, rfl, hy⟩
    rw [← nm4 nmx1] at hy
    cases y with
    | true =>
      rw [if_pos (hy.mp rfl)]
      refine br_f (by decide) ⟨rfl, (it_name (a := nx u n 0) h f2 g2 (qGrid_ok n1).1 (fun _ => trivial) (ev_mgrid c2 b1 n1 g2)).mono ?_⟩
      rintro x σ' ⟨b, rfl, hb⟩
      exact j_MD_isText hb
    | false =>
      rw [if_neg (fun w => absurd (hy.mpr w) (by decide))]
      exact br_t rfl (j_MD_isText L3)
  unfold txt
  refine ⟨rfl, (nm (z := 8) (c0 := 109) (c1 := 97) (c2' := 106) (c3 := 111) (by omega) (by omega)).mono ?_⟩
  rintro x σ' ⟨y, rfl, rfl, hy⟩
  have no0 : ¬ isNm u n 0 (nx u n 0) (ln u n (nx u n 0)) = true → am_run am_sh m_MD_isText (IsQ f g I J u n (if isNm u n 0 (nx u n 0) (ln u n (nx u n 0)) = true then fin u n (qMaj u n (ln u n (nx u n 0))) else if isNm u n 1 (nx u n 0) (ln u n (nx u n 0)) = true then fin u n (qGrid u n (ln u n (nx u n 0))) else if isNm u n 2 (nx u n 0) (ln u n (nx u n 0)) = true then wres (nx u n 0) (finW u n (qWid u n 3 (ln u n (nx u n 0)) 0 [])) else if isNm u n 3 (nx u n 0) (ln u n (nx u n 0)) = true then fin u n (qPln (ln u n (nx u n 0))) else if isNm u n 4 (nx u n 0) (ln u n (nx u n 0)) = true then fin u n (qSet u n (ln u n (nx u n 0))) else (nx u n 0, none))) 151 [some (.ref 236), some (.int (nI (nx u n 0))), none] [] (I2, J, am_Rf f g) := fun w => by
    rw [if_neg w]
    exact j_MD_isText L2
  cases y with
  | false =>
    refine br_t rfl (no0 (fun w => ?_))
    obtain ⟨w1, w2, w3, w4, w5, _⟩ := nm0.mp w
    exact absurd (hy.mpr ⟨w1, w2, w3, w4, Or.inr w5⟩) (by decide)
  | true =>
    obtain ⟨w1, w2, w3, w4, w5⟩ := hy.mp rfl
    have w5 : lu u n (nx u n 0 + 3) = 111 := by
      rcases w5 with q | q
      · omega
      · exact q
    have l4 := le 4
    have l5 := le 5
    have l6 := le 6
    have l7 := le 7
    refine br_f (by decide) ⟨245, rfl, rfl, 90, nx u n 0 + 4, rfl, by omega, nI_add (nx u n 0) 4, fun e => no0 (fun w => ?_), fun e4 => ⟨245, rfl, rfl, 90, nx u n 0 + 5, rfl, by omega, nI_add (nx u n 0) 5, fun e => no0 (fun w => ?_), fun e5 => ⟨245, rfl, rfl, 90, nx u n 0 + 6, rfl, by omega, nI_add (nx u n 0) 6, fun e => no0 (fun w => ?_), fun e6 => ⟨245, rfl, rfl, 90, nx u n 0 + 7, rfl, by omega, nI_add (nx u n 0) 7, fun e => no0 (fun w => ?_), fun e7 => ?_⟩⟩⟩⟩
    · have e : ¬ I2 245 (nx u n 0 + 4) = nI 114 := e
      rw [tp 4 (by omega), nI_eq (by omega) (by omega)] at e
      exact e (nm0.mp w).2.2.2.2.2.1
    · have e : ¬ I2 245 (nx u n 0 + 5) = nI 105 := e
      rw [tp 5 (by omega), nI_eq (by omega) (by omega)] at e
      exact e (nm0.mp w).2.2.2.2.2.2.1
    · have e : ¬ I2 245 (nx u n 0 + 6) = nI 116 := e
      rw [tp 6 (by omega), nI_eq (by omega) (by omega)] at e
      exact e (nm0.mp w).2.2.2.2.2.2.2.1
    · have e : ¬ I2 245 (nx u n 0 + 7) = nI 121 := e
      rw [tp 7 (by omega), nI_eq (by omega) (by omega)] at e
      exact e (nm0.mp w).2.2.2.2.2.2.2.2
    · have e4 : I2 245 (nx u n 0 + 4) = nI 114 := e4
      have e5 : I2 245 (nx u n 0 + 5) = nI 105 := e5
      have e6 : I2 245 (nx u n 0 + 6) = nI 116 := e6
      have e7 : I2 245 (nx u n 0 + 7) = nI 121 := e7
      rw [tp 4 (by omega), nI_eq (by omega) (by omega)] at e4
      rw [tp 5 (by omega), nI_eq (by omega) (by omega)] at e5
      rw [tp 6 (by omega), nI_eq (by omega) (by omega)] at e6
      rw [tp 7 (by omega), nI_eq (by omega) (by omega)] at e7
      rw [if_pos (nm0.mpr ⟨w1, w2, w3, w4, w5, e4, e5, e6, e7⟩)]
      refine ⟨rfl, (it_name (a := nx u n 0) h f2 g2 (qMaj_ok n1).1 (fun _ => trivial) (ev_mmajority c2 b1 n1 g2)).mono ?_⟩
      rintro x σ' ⟨b, rfl, hb⟩
      exact j_MD_isText hb
end MX
