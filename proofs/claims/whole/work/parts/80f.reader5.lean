/-! the class's Reader: a wall's widths; sets told by figures -/
def finW (u : Nat → Nat) (n : Nat) (r : Nat × Option (List Nat)) : Nat × Option (List Nat) := match r with
  | (p, none) => (nx u n p, none)
  | (p, some x) => if lu u n (nx u n p) = 0 then (nx u n p, some x) else (nx u n p, none)
def Wst (I : Nat → Nat → Int32) (ws : List Nat) : Prop := ∀ k v, ws[k]? = some v → I 205 k = nI v
/-- widths so far -/
def Wl (ws : List Nat) : Prop := ws.length ≤ 3 ∧ (∀ v ∈ ws, 1 ≤ v ∧ v ≤ 4) ∧ ws.sum ≤ 7
def lw (ws : List Nat) : Nat → Nat := w3 (ws.getD 0 0) (ws.getD 1 0) (ws.getD 2 0)
theorem wmin_tab : ∀ z, z < 8 → (if nI 7 - nI z < nI 4 then nI 7 - nI z else nI 4) = nI (min 4 (7 - z)) := by decide +kernel
theorem Wl.ok {ws : List Nat} (h : Wl ws) (h1 : 1 ≤ ws.length) : wOk (lw ws) ws.length = true ∧ su3 (lw ws) ws.length = ws.sum ∧ ∀ k v, ws[k]? = some v → lw ws k = v := by
  obtain ⟨h3, ha, hs⟩ := h
  match ws, h1, h3, ha, hs with
  | [a], _, _, ha, hs =>
    have a1 := ha a (by simp)
    refine ⟨wOk_1 a (by omega) a1.1, by simp [su3, lw, w3], fun k v hk => ?_⟩
    match k, hk with
    | 0, hk => exact Option.some.inj hk
    | k + 1, hk => simp at hk
  | [a, b], _, _, ha, hs =>
    have a1 := ha a (by simp)
    have b1 := ha b (by simp)
    simp at hs
    refine ⟨wOk_2 a (by omega) b (by omega) ⟨a1.1, b1.1, by omega⟩, by simp [su3, lw, w3], fun k v hk => ?_⟩
    match k, hk with
    | 0, hk => exact Option.some.inj hk
    | 1, hk => exact Option.some.inj hk
    | k + 2, hk => simp at hk
  | [a, b, c], _, _, ha, hs =>
    have a1 := ha a (by simp)
    have b1 := ha b (by simp)
    have c1 := ha c (by simp)
    simp at hs
    refine ⟨wOk_3 a (by omega) b (by omega) c (by omega) ⟨a1.1, b1.1, c1.1, by omega⟩, by simp [su3, lw, w3]; omega, fun k v hk => ?_⟩
    match k, hk with
    | 0, hk => exact Option.some.inj hk
    | 1, hk => exact Option.some.inj hk
    | 2, hk => exact Option.some.inj hk
    | k + 3, hk => simp at hk
theorem Wl.add {ws : List Nat} {v : Nat} (h : Wl ws) (hl : ws.length < 3) (h1 : 1 ≤ v) (h2 : v ≤ min 4 (7 - ws.sum)) : Wl (ws ++ [v]) := by
  obtain ⟨_, ha, hs⟩ := h
  refine ⟨by simp; omega, fun x hx => ?_, by simp; omega⟩
  rcases List.mem_append.mp hx with q | q
  · exact ha x q
  · have : x = v := by simpa using q
    omega
theorem finW_yes {u : Nat → Nat} {n p : Nat} {x : List Nat} (h : lu u n (nx u n p) = 0) : finW u n (p, some x) = (nx u n p, some x) := if_pos h
theorem finW_not {u : Nat → Nat} {n p : Nat} {x : List Nat} (h : ¬ lu u n (nx u n p) = 0) : finW u n (p, some x) = (nx u n p, none) := if_neg h
theorem finW_dec {u : Nat → Nat} {n p : Nat} {x : List Nat} : (finW u n (p, some x)).1 = nx u n p ∧ (finW u n (p, some x)).2.isSome = decide (lu u n (nx u n p) = 0) ∧ ∀ y, (finW u n (p, some x)).2 = some y → y = x := by
  by_cases h : lu u n (nx u n p) = 0
  · rw [finW_yes h, decide_eq_true h]
    exact ⟨rfl, rfl, fun y e => (Option.some.inj e).symm⟩
  · rw [finW_not h, decide_eq_false h]
    exact ⟨rfl, rfl, fun y e => by cases e⟩
theorem qWid_none {u : Nat → Nat} {n k p z : Nat} {ws : List Nat} (h : fig u n (min 4 (7 - z)) p = none) : qWid u n (k + 1) p z ws = (nx u n p, none) := by
  unfold qWid
  rw [h]
theorem qWid_last {u : Nat → Nat} {n p z v : Nat} {ws : List Nat} (h : fig u n (min 4 (7 - z)) p = some v) : qWid u n (0 + 1) p z ws = (nx u n p + 1, some (ws ++ [v])) := by
  unfold qWid
  rw [h]
theorem qWid_more {u : Nat → Nat} {n k p z v : Nat} {ws : List Nat} (h : fig u n (min 4 (7 - z)) p = some v) : qWid u n (k + 1 + 1) p z ws = if lu u n (nx u n (nx u n p + 1)) = 44 then qWid u n (k + 1) (nx u n (nx u n p + 1) + 1) (z + v) (ws ++ [v]) else (nx u n (nx u n p + 1), some (ws ++ [v])) := by
  rw [qWid]
  rw [h]
abbrev WdQ (f g : Nat → Nat) (I : Nat → Nat → Int32) (J : Nat → Nat → Int64) (r : Nat × Option (List Nat)) : am_Q := fun x σ' => ∃ I', x = some (.int (b2i r.2.isSome)) ∧ σ' = (I', J, am_Rf f g) ∧ FrC I' I ∧ I' 201 6 = nI r.1 ∧ TL I' [] ∧ ∀ ws, r.2 = some ws → I' 201 0 = nI ws.sum ∧ I' 201 5 = nI ws.length ∧ Wst I' ws ∧ Wl ws ∧ 1 ≤ ws.length
section RD
variable {f g : Nat → Nat} {I : Nat → Nat → Int32} {J : Nat → Nat → Int64} {u : Nat → Nat} {n : Nat}
theorem lp_wall (h : CT I u n) : ∀ k (ws : List Nat) p w1 (I' : Nat → Nat → Int32), ws.length + (k + 1) = 3 → I' 201 5 = nI ws.length → I' 201 0 = nI ws.sum → Wl ws → Wst I' ws → I' 201 6 = nI p → p ≤ n → TL I' [] → FrC I' I → am_u am_sh m_Re_wall (WdQ f g I J (finW u n (qWid u n (k + 1) p ws.sum ws))) (am_at am_c_Re_wall 34) 34 [some (.ref 201), w1] [] (I', J, am_Rf f g) := by
  intro k
  induction k with
  | zero =>
    intro ws p w1 I' hl h5 h0 hw hs hp hn hT hF
    have hc := h.fr hF
    have zm := wmin_tab ws.sum (by have := hw.2.2; omega)
    refine ⟨rfl, rfl, (ev_figure (m := min 4 (7 - ws.sum)) hc hp hn (by show (if nI 7 - I' 201 0 < nI 4 then nI 7 - I' 201 0 else nI 4) = _; rw [h0]; exact zm) (by omega)).mono ?_⟩
    rintro x σ' ⟨I1, rfl, a1, ⟨v, v1, v2, v3, rfl, v5, v6⟩ | ⟨v1, rfl, v3⟩⟩
    · refine ⟨fun _ => j_Re_wall ⟨205, rfl, rfl, rfl, 3, ws.length, rfl, by omega, by rw [a1 201 5 (by omega)]; exact h5, rfl, rfl, rfl, rfl, j_Re_wall ⟨rfl, br_t ?_ (j_Re_wall ⟨rfl, (ev_ends (u := u) (n := n) (p := nx u n p + 1) ?_ ?_ v6).mono ?_⟩)⟩⟩, fun e => absurd e (nI_ne0 v2 (by omega))⟩
      · rw [am_up_eq, am_up_ne (by omega), am_up_ne (by omega), a1 201 5 (by omega), h5, nI_1]
        exact nI_le (a := 3) (by omega) (by omega)
      · exact hc.fr (((FrC.tr (I' := I1) (fun c c1 c2 c3 => by rw [up_cell c3]) a1.fr).up0).up0)
      · rw [am_up_ne (by omega), am_up_ne (by omega), am_up_ne (by omega)]
        exact v5
      · rintro x σ' ⟨I2, rfl, rfl, b1, b2⟩
        have q0 : qWid u n (0 + 1) p ws.sum ws = (nx u n p + 1, some (ws ++ [v])) := qWid_last v1
        obtain ⟨d1, d2, d3⟩ := finW_dec (u := u) (n := n) (p := nx u n p + 1) (x := ws ++ [v])
        rw [← q0] at d1 d2 d3
        refine ⟨b2i_01 _, I2, by rw [d2], rfl, ?_, by rw [d1]; exact b2, ?_, fun ws' e => ?_⟩
        · exact FrC.tr b1.fr (FrC.tr (((FrC.tr (I' := I1) (fun c c1 c2 c3 => by rw [up_cell c3]) a1.fr).up0).up0) hF)
        · refine TL.sat ?_ b1
          have := hT.sat a1
          unfold TL
          rw [am_up_ne (by omega), am_up_ne (by omega), am_up_ne (by omega), up_cell (by omega), up_cell (by omega), up_cell (by omega)]
          exact this
        · rw [d3 ws' e]
          refine ⟨?_, ?_, fun k' v' hk => ?_, hw.add (by omega) v2 v3, by simp⟩
          · rw [b1 201 0 (by omega), am_up_ne (by omega), am_up_eq, am_up_ne (by omega), a1 201 0 (by omega), h0, nI_add]
            simp
          · rw [b1 201 5 (by omega), am_up_eq, am_up_ne (by omega), am_up_ne (by omega), a1 201 5 (by omega), h5, nI_1]
            simp
          · rw [b1 205 k' (by omega), am_up_ne (by omega), am_up_ne (by omega)]
            rcases Nat.lt_trichotomy k' ws.length with q | q | q
            · rw [List.getElem?_append_left q] at hk
              rw [am_up_ne (by omega), a1 205 k' (by omega)]
              exact hs k' v' hk
            · subst q
              rw [List.getElem?_append_right (Nat.le_refl _), Nat.sub_self] at hk
              rw [am_up_eq, ← Option.some.inj hk]
            · rw [List.getElem?_eq_none (by simp; omega)] at hk
              cases hk
    · have q0 : qWid u n (0 + 1) p ws.sum ws = (nx u n p, none) := qWid_none v1
      rw [q0]
      exact ⟨fun e => absurd rfl e, fun _ => ⟨Or.inl rfl, I1, rfl, rfl, a1.fr.tr hF, by show I1 201 6 = nI (nx u n (nx u n p)); rw [nx_nx hn]; exact v3, hT.sat a1, fun ws' e => by cases e⟩⟩
  | succ k ih =>
    intro ws p w1 I' hl h5 h0 hw hs hp hn hT hF
    have hc := h.fr hF
    have zm := wmin_tab ws.sum (by have := hw.2.2; omega)
    refine ⟨rfl, rfl, (ev_figure (m := min 4 (7 - ws.sum)) hc hp hn (by show (if nI 7 - I' 201 0 < nI 4 then nI 7 - I' 201 0 else nI 4) = _; rw [h0]; exact zm) (by omega)).mono ?_⟩
    rintro x σ' ⟨I1, rfl, a1, ⟨v, v1, v2, v3, rfl, v5, v6⟩ | ⟨v1, rfl, v3⟩⟩
    · have q0 : qWid u n (k + 1 + 1) p ws.sum ws = if lu u n (nx u n (nx u n p + 1)) = 44 then qWid u n (k + 1) (nx u n (nx u n p + 1) + 1) (ws.sum + v) (ws ++ [v]) else (nx u n (nx u n p + 1), some (ws ++ [v])) := qWid_more v1
      refine ⟨fun _ => j_Re_wall ⟨205, rfl, rfl, rfl, 3, ws.length, rfl, by omega, by rw [a1 201 5 (by omega)]; exact h5, rfl, rfl, rfl, rfl, j_Re_wall ?_⟩, fun e => absurd e (nI_ne0 v2 (by omega))⟩
      -- the state behind the row
      have st : ∀ I2 : Nat → Nat → Int32, I2 201 5 = nI (ws.length + 1) → I2 201 0 = nI (ws.sum + v) → I2 201 6 = nI (nx u n p + 1) → Wst I2 (ws ++ [v]) → TL I2 [] → FrC I2 I → am_u am_sh m_Re_wall (WdQ f g I J (finW u n (qWid u n (k + 1 + 1) p ws.sum ws))) (am_at am_c_Re_wall 5) 5 [some (.ref 201), some (.int (nI v))] [] (I2, J, am_Rf f g) := by
        intro I2 e5 e0 e6 es et ef
        have c2 := h.fr ef
        refine ⟨rfl, br_f (by rw [e5]; exact nI_ge (b := 3) (by omega) (by omega)) ⟨rfl, br_f (by rw [e5]; exact nI_ge (a := 0) (by omega) (by omega)) ⟨rfl, (ev_skips (p := nx u n p + 1) (c := 44) c2 e6 v6 (by omega) (by omega)).mono ?_⟩⟩⟩
        rintro x σ' ⟨y, I3, rfl, rfl, b1, b2, b3⟩
        have t3 : TL I3 [] := et.sat b1
        have f3 : FrC I3 I := b1.fr.tr ef
        have s3 : Wst I3 (ws ++ [v]) := fun k' v' hk => by rw [b1 205 k' (by omega)]; exact es k' v' hk
        have w3 : Wl (ws ++ [v]) := hw.add (by omega) v2 v3
        cases y with
        | true =>
          obtain ⟨d1, d2, d3⟩ := b2 rfl
          rw [q0, if_pos d1]
          refine ⟨fun _ => j_Re_wall ?_, fun e => absurd e (by decide)⟩
          have := ih (ws ++ [v]) (nx u n (nx u n p + 1) + 1) (some (.int (nI v))) I3 (by simp; omega) (by rw [b1 201 5 (by omega), e5]; simp) (by rw [b1 201 0 (by omega), e0]; simp) w3 s3 d2 d3 t3 f3
          rw [show (ws ++ [v]).sum = ws.sum + v by simp] at this
          exact this
        | false =>
          obtain ⟨d1, d2⟩ := b3 rfl
          rw [q0, if_neg d1]
          have nn := nx_nx (u := u) v6
          refine ⟨fun e => absurd rfl e, fun _ => ⟨rfl, (ev_ends (p := nx u n (nx u n p + 1)) (c2.fr b1.fr) d2 (nx_le v6)).mono ?_⟩⟩
          rintro x σ' ⟨I4, rfl, rfl, k1, k2⟩
          obtain ⟨m1, m2, m3⟩ := finW_dec (u := u) (n := n) (p := nx u n (nx u n p + 1)) (x := ws ++ [v])
          refine ⟨b2i_01 _, I4, by rw [m2], rfl, k1.fr.tr f3, by rw [m1]; exact k2, t3.sat k1, fun ws' e => ?_⟩
          rw [m3 ws' e]
          exact ⟨by rw [k1 201 0 (by omega), b1 201 0 (by omega), e0]; simp, by rw [k1 201 5 (by omega), b1 201 5 (by omega), e5]; simp, fun k' v' hk => by rw [k1 205 k' (by omega)]; exact s3 k' v' hk, w3, by simp⟩
      refine st _ ?_ ?_ ?_ (fun k' v' hk => ?_) ?_ ?_
      · rw [am_up_eq, am_up_ne (by omega), am_up_ne (by omega), a1 201 5 (by omega), h5, nI_1]
      · rw [am_up_ne (by omega), am_up_eq, am_up_ne (by omega), a1 201 0 (by omega), h0, nI_add]
      · rw [am_up_ne (by omega), am_up_ne (by omega), am_up_ne (by omega)]
        exact v5
      · rw [am_up_ne (by omega), am_up_ne (by omega)]
        rcases Nat.lt_trichotomy k' ws.length with q | q | q
        · rw [List.getElem?_append_left q] at hk
          rw [am_up_ne (by omega), a1 205 k' (by omega)]
          exact hs k' v' hk
        · subst q
          rw [List.getElem?_append_right (Nat.le_refl _), Nat.sub_self] at hk
          rw [am_up_eq, ← Option.some.inj hk]
        · rw [List.getElem?_eq_none (by simp; omega)] at hk
          cases hk
      · have := hT.sat a1
        unfold TL
        rw [am_up_ne (by omega), am_up_ne (by omega), am_up_ne (by omega), up_cell (by omega), up_cell (by omega), up_cell (by omega)]
        exact this
      · exact FrC.tr (((FrC.tr (I' := I1) (fun c c1 c2 c3 => by rw [up_cell c3]) a1.fr).up0).up0) hF
    · have q0 : qWid u n (k + 1 + 1) p ws.sum ws = (nx u n p, none) := qWid_none v1
      rw [q0]
      exact ⟨fun e => absurd rfl e, fun _ => ⟨Or.inl rfl, I1, rfl, rfl, a1.fr.tr hF, by show I1 201 6 = nI (nx u n (nx u n p)); rw [nx_nx hn]; exact v3, hT.sat a1, fun ws' e => by cases e⟩⟩
theorem ev_wall {p : Nat} (h : CT I u n) (hp : I 201 6 = nI p) (hn : p ≤ n) (h0 : I 201 0 = nI 0) (hT : TL I []) : am_ev am_sh m_Re_wall [.ref 201] (I, J, am_Rf f g) (WdQ f g I J (finW u n (qWid u n 3 p 0 []))) := by
  have hF : FrC (am_up I 201 5 0) I := (FrC.rf I).up0
  refine s_Re_wall ⟨rfl, j_Re_wall ⟨rfl, br_f (by rw [am_up_eq]; decide) ⟨rfl, br_t (by rw [am_up_eq]; decide) (j_Re_wall ?_)⟩⟩⟩
  exact lp_wall h 2 [] p none _ rfl (by rw [am_up_eq]; rfl) (by rw [am_up_ne (by omega)]; exact h0) ⟨by simp, fun v hv => by simp at hv, by simp⟩ (fun k v hk => by simp at hk) (by rw [am_up_ne (by omega)]; exact hp) hn (by
    unfold TL
    rw [am_up_ne (by omega), up_cell (by omega)]
    exact hT) hF
end RD
