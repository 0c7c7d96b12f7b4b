/-! the reference: a wall's widths; names -/
section MX
variable {f g : Nat → Nat} {I : Nat → Nat → Int32} {J : Nat → Nat → Int64} {u : Nat → Nat} {n : Nat}
theorem lp_mwall (h : RT I u n) : ∀ k (ws : List Nat) p w3' (I' : Nat → Nat → Int32), ws.length + (k + 1) = 3 → I' 236 13 = nI ws.sum → Wl ws → Wsm I' ws → I' 236 12 = nI p → p ≤ n → GL I' ([], false) → FrR I' I → am_u am_sh m_MD_wall (RwQ f g I J (qWid u n (k + 1) p ws.sum ws)) (am_at am_c_MD_wall 9) 9 [some (.ref 236), some (.int (nI ws.length)), some (.int 1), w3'] [] (I', J, am_Rf f g) := by
  intro k
  induction k with
  | zero =>
    intro ws p w3' I' hl h0 hw hs hp hn hT hF
    have hc := h.fr hF
    have s7 := hw.2.2
    have zm := wmin_tab ws.sum (by omega)
    have tail : am_u am_sh m_MD_wall (RwQ f g I J (qWid u n (0 + 1) p ws.sum ws)) (am_at am_c_MD_wall 37) 37 [some (.ref 236), some (.int (nI ws.length)), some (.int 1), w3'] [.int (nI (min 4 (7 - ws.sum))), .int 1, .ref 236] (I', J, am_Rf f g) := by
      refine ⟨rfl, (ev_mfigure (m := min 4 (7 - ws.sum)) hc hp hn rfl (by omega)).mono ?_⟩
      rintro x σ' ⟨I1, rfl, a1, ⟨v, v1, v2, v3, rfl, v5, v6⟩ | ⟨v1, rfl, v3⟩⟩
      · refine br_t (nI_pos' (by omega)) (j_MD_wall ⟨247, rfl, rfl, 3, ws.length, rfl, by omega, rfl, rfl, rfl, ?_⟩)
        rw [nI_1]
        refine br_t (nI_le (a := 3) (by omega) (by omega)) (j_MD_wall ⟨rfl, br_t rfl (j_MD_wall ⟨rfl, j_MD_wall (br_t rfl ?_)⟩)⟩)
        have := mwall_end (f := f) (g := g) (J := J) (I := I) (x2 := 0) (w3' := some (.int (nI v))) (I' := am_up (am_up (am_up I1 247 ws.length (nI v)) 236 13 (am_up I1 247 ws.length (nI v) 236 13 + nI v)) 236 12 (am_up (am_up I1 247 ws.length (nI v)) 236 13 (am_up I1 247 ws.length (nI v) 236 13 + nI v) 236 12 + 0)) (ws := ws ++ [v]) (p := nx u n p + 1) (qWid_last v1) (hw.add (by omega) v2 v3) (by simp) (fun k' v' hk => ?_) ?_ ?_ ?_ ?_
        · rw [show (ws ++ [v]).length = ws.length + 1 by simp] at this
          exact this
        · rw [am_up_ne (by omega), am_up_ne (by omega)]
          rcases Nat.lt_trichotomy k' ws.length with q | q | q
          · rw [List.getElem?_append_left q] at hk
            rw [am_up_ne (by omega), a1 247 k' (by omega)]
            exact hs k' v' hk
          · subst q
            rw [List.getElem?_append_right (Nat.le_refl _), Nat.sub_self] at hk
            rw [am_up_eq, ← Option.some.inj hk]
          · rw [List.getElem?_eq_none (by simp; omega)] at hk
            cases hk
        · rw [am_up_ne (by omega), am_up_eq, am_up_ne (by omega), a1 236 13 (by omega), h0, nI_add]
          simp
        · rw [am_up_eq, am_up_ne (by omega), am_up_ne (by omega), Int32.add_zero]
          exact v5
        · have := hT.at a1
          unfold GL
          rw [am_up_ne (by omega), am_up_ne (by omega), am_up_ne (by omega), am_up_ne (by omega), am_up_ne (by omega), am_up_ne (by omega), up_cell (by omega), up_cell (by omega), up_cell (by omega)]
          exact this
        · exact FrR.tr ((FrR.up (FrR.up (FrR.tr (I' := I1) ⟨fun c c1 c2 c3 => by rw [up_cell c3], fun k a => by rw [am_up_ne (by omega)]⟩ a1.fr) (by omega)) (by omega))) hF
      · rw [qWid_none v1]
        refine br_f (by decide) ⟨Or.inl rfl, I1, rfl, rfl, a1.fr.tr hF, v3, fun _ => ?_, fun ws' e => by cases e⟩
        rw [a1 236 16 (by omega)]
        exact hT.2.2.2
    refine br_f (by decide) ⟨rfl, fun e1 => j_MD_wall ?_, fun e1 => ⟨rfl, j_MD_wall ?_⟩⟩
    · have e1 : nI 4 ≤ nI 7 - I' 236 13 := e1
      rw [h0] at e1
      rw [if_neg (Int32.not_lt.mpr e1)] at zm
      rw [← zm] at tail
      exact tail
    · have e1 : ¬ nI 4 ≤ nI 7 - I' 236 13 := e1
      rw [h0] at e1
      rw [if_pos (Int32.not_le.mp e1)] at zm
      rw [← zm, ← h0] at tail
      exact tail
  | succ k ih =>
    intro ws p w3' I' hl h0 hw hs hp hn hT hF
    have hc := h.fr hF
    have s7 := hw.2.2
    have zm := wmin_tab ws.sum (by omega)
    have tail : am_u am_sh m_MD_wall (RwQ f g I J (qWid u n (k + 1 + 1) p ws.sum ws)) (am_at am_c_MD_wall 37) 37 [some (.ref 236), some (.int (nI ws.length)), some (.int 1), w3'] [.int (nI (min 4 (7 - ws.sum))), .int 1, .ref 236] (I', J, am_Rf f g) := by
      refine ⟨rfl, (ev_mfigure (m := min 4 (7 - ws.sum)) hc hp hn rfl (by omega)).mono ?_⟩
      rintro x σ' ⟨I1, rfl, a1, ⟨v, v1, v2, v3, rfl, v5, v6⟩ | ⟨v1, rfl, v3⟩⟩
      · -- the state behind the row
        have hw2 := hw.add (v := v) (by omega) v2 v3
        have st : ∀ I2 : Nat → Nat → Int32, I2 236 13 = nI (ws.sum + v) → I2 236 12 = nI (nx u n p + 1) → Wsm I2 (ws ++ [v]) → GL I2 ([], false) → FrR I2 I → am_u am_sh m_MD_wall (RwQ f g I J (qWid u n (k + 1 + 1) p ws.sum ws)) (am_at am_c_MD_wall 67) 67 [some (.ref 236), some (.int (nI (ws.length + 1))), some (.int 1), some (.int (nI v))] [] (I2, J, am_Rf f g) := by
          intro I2 e0 e6 es et ef
          have lb := h.le (nx u n (nx u n p + 1))
          refine br_f (nI_ge (b := 3) (by omega) (by omega)) ⟨rfl, (ev_here (p := nx u n p + 1) (h.fr ef) e6 v6).mono ?_⟩
          rintro x σ' ⟨rfl, I3, rfl, b1, b2⟩
          have s3 : Wsm I3 (ws ++ [v]) := fun k' v' hk => by rw [b2 247 k' (by omega)]; exact es k' v' hk
          have z3 : I3 236 13 = nI (ws ++ [v]).sum := by rw [b2 236 13 (by omega), e0]; simp
          refine ⟨fun e => j_MD_wall ⟨rfl, br_t rfl (j_MD_wall ⟨rfl, j_MD_wall (br_t rfl ?_)⟩)⟩, fun e => j_MD_wall ⟨rfl, br_f (by decide) (j_MD_wall ⟨rfl, j_MD_wall ?_⟩)⟩⟩
          · have e : ¬ nI (lu u n (nx u n (nx u n p + 1))) = nI 44 := e
            rw [nI_eq (by omega) (by omega)] at e
            rw [qWid_more v1, if_neg e]
            have := mwall_end (f := f) (g := g) (J := J) (I := I) (x2 := 0) (w3' := some (.int (nI v))) (I' := am_up I3 236 12 (I3 236 12 + 0)) (ws := ws ++ [v]) (p := nx u n (nx u n p + 1)) rfl hw2 (by simp) (fun k' v' hk => by rw [am_up_ne (by omega)]; exact s3 k' v' hk) (by rw [am_up_ne (by omega)]; exact z3) (by rw [am_up_eq, Int32.add_zero]; exact b1) ((et.at b2).up (by omega)) ((b2.fr.tr ef).up (by omega))
            rw [show (ws ++ [v]).length = ws.length + 1 by simp] at this
            exact this
          · have e : nI (lu u n (nx u n (nx u n p + 1))) = nI 44 := e
            rw [nI_eq (by omega) (by omega)] at e
            rw [qWid_more v1, if_pos e]
            have := ih (ws ++ [v]) (nx u n (nx u n p + 1) + 1) (some (.int (nI v))) (am_up I3 236 12 (I3 236 12 + 1)) (by simp; omega) (by rw [am_up_ne (by omega)]; exact z3) hw2 (fun k' v' hk => by rw [am_up_ne (by omega)]; exact s3 k' v' hk) (by rw [am_up_eq, b1, nI_1]) (lu_pos (u := u) (by omega)) ((et.at b2).up (by omega)) ((b2.fr.tr ef).up (by omega))
            rw [show (ws ++ [v]).length = ws.length + 1 by simp, show (ws ++ [v]).sum = ws.sum + v by simp] at this
            exact this
        refine br_t (nI_pos' (by omega)) (j_MD_wall ⟨247, rfl, rfl, 3, ws.length, rfl, by omega, rfl, rfl, rfl, ?_⟩)
        rw [nI_1]
        refine st _ ?_ ?_ (fun k' v' hk => ?_) ?_ ?_
        · rw [am_up_eq, am_up_ne (by omega), a1 236 13 (by omega), h0, nI_add]
        · rw [am_up_ne (by omega), am_up_ne (by omega)]
          exact v5
        · rw [am_up_ne (by omega)]
          rcases Nat.lt_trichotomy k' ws.length with q | q | q
          · rw [List.getElem?_append_left q] at hk
            rw [am_up_ne (by omega), a1 247 k' (by omega)]
            exact hs k' v' hk
          · subst q
            rw [List.getElem?_append_right (Nat.le_refl _), Nat.sub_self] at hk
            rw [am_up_eq, ← Option.some.inj hk]
          · rw [List.getElem?_eq_none (by simp; omega)] at hk
            cases hk
        · have := hT.at a1
          unfold GL
          rw [am_up_ne (by omega), am_up_ne (by omega), am_up_ne (by omega), am_up_ne (by omega), up_cell (by omega), up_cell (by omega)]
          exact this
        · exact FrR.tr ((FrR.up (FrR.tr (I' := I1) ⟨fun c c1 c2 c3 => by rw [up_cell c3], fun k a => by rw [am_up_ne (by omega)]⟩ a1.fr) (by omega))) hF
      · rw [qWid_none v1]
        refine br_f (by decide) ⟨Or.inl rfl, I1, rfl, rfl, a1.fr.tr hF, v3, fun _ => ?_, fun ws' e => by cases e⟩
        rw [a1 236 16 (by omega)]
        exact hT.2.2.2
    refine br_f (by decide) ⟨rfl, fun e1 => j_MD_wall ?_, fun e1 => ⟨rfl, j_MD_wall ?_⟩⟩
    · have e1 : nI 4 ≤ nI 7 - I' 236 13 := e1
      rw [h0] at e1
      rw [if_neg (Int32.not_lt.mpr e1)] at zm
      rw [← zm] at tail
      exact tail
    · have e1 : ¬ nI 4 ≤ nI 7 - I' 236 13 := e1
      rw [h0] at e1
      rw [if_pos (Int32.not_le.mp e1)] at zm
      rw [← zm, ← h0] at tail
      exact tail
theorem ev_mwall {p : Nat} (h : RT I u n) (hp : I 236 12 = nI p) (hn : p ≤ n) (hT : GL I ([], false)) : am_ev am_sh m_MD_wall [.ref 236] (I, J, am_Rf f g) (RwQ f g I J (qWid u n 3 p 0 [])) := by
  refine s_MD_wall ⟨rfl, j_MD_wall ?_⟩
  exact lp_mwall h 2 [] p none _ rfl (by rw [am_up_eq]; rfl) ⟨by simp, fun v hv => by simp at hv, by simp⟩ (fun k v hk => by simp at hk) (by rw [am_up_ne (by omega)]; exact hp) hn (hT.up (by omega)) ((FrR.rf I).up (by omega))
/-- a name of some letters -/
theorem ev_misName {a b z c0 c1 c2 c3 : Nat} {x : Int32} (h : RT I u n) (hx : x = nI a) (hp : I 236 12 = nI b) (hab : a ≤ b) (hb : b ≤ n) (hz : 3 ≤ z ∧ z ≤ 8) (hc : c0 < 128 ∧ c1 < 128 ∧ c2 < 128 ∧ c3 < 128) : am_ev am_sh m_MD_isName [.ref 236, .int x, .int (nI z), .int (nI c0), .int (nI c1), .int (nI c2), .int (nI c3)] (I, J, am_Rf f g) (fun r σ' => ∃ y, r = some (.int (b2i y)) ∧ σ' = (I, J, am_Rf f g) ∧ (y = true ↔ b - a = z ∧ lu u n a = c0 ∧ lu u n (a + 1) = c1 ∧ lu u n (a + 2) = c2 ∧ (z = 3 ∨ lu u n (a + 3) = c3))) := by
  have h90 := h.1
  subst hx
  have le := fun k => h.le (a + k)
  have tp : ∀ k, a + k < n → I 245 (a + k) = nI (lu u n (a + k)) := fun k hk => by rw [(h.2.2 _ hk).1, lu_lt hk]
  have no : ∀ (w : ¬ (b - a = z ∧ lu u n a = c0 ∧ lu u n (a + 1) = c1 ∧ lu u n (a + 2) = c2 ∧ (z = 3 ∨ lu u n (a + 3) = c3))), am_u am_sh m_MD_isName (fun r σ' => ∃ y, r = some (.int (b2i y)) ∧ σ' = (I, J, am_Rf f g) ∧ (y = true ↔ b - a = z ∧ lu u n a = c0 ∧ lu u n (a + 1) = c1 ∧ lu u n (a + 2) = c2 ∧ (z = 3 ∨ lu u n (a + 3) = c3))) (am_at am_c_MD_isName 68) 68 [some (.ref 236), some (.int (nI a)), some (.int (nI z)), some (.int (nI c0)), some (.int (nI c1)), some (.int (nI c2)), some (.int (nI c3))] [] (I, J, am_Rf f g) := fun w => ⟨Or.inl rfl, false, rfl, rfl, fun e => (by cases e), fun e => absurd e w⟩
  have yes : (b - a = z ∧ lu u n a = c0 ∧ lu u n (a + 1) = c1 ∧ lu u n (a + 2) = c2 ∧ (z = 3 ∨ lu u n (a + 3) = c3)) → am_u am_sh m_MD_isName (fun r σ' => ∃ y, r = some (.int (b2i y)) ∧ σ' = (I, J, am_Rf f g) ∧ (y = true ↔ b - a = z ∧ lu u n a = c0 ∧ lu u n (a + 1) = c1 ∧ lu u n (a + 2) = c2 ∧ (z = 3 ∨ lu u n (a + 3) = c3))) (am_at am_c_MD_isName 64) 64 [some (.ref 236), some (.int (nI a)), some (.int (nI z)), some (.int (nI c0)), some (.int (nI c1)), some (.int (nI c2)), some (.int (nI c3))] [] (I, J, am_Rf f g) := fun w => j_MD_isName ⟨Or.inr rfl, true, rfl, rfl, fun _ => w, fun _ => rfl⟩
  refine s_MD_isName ⟨rfl, fun e0 => j_MD_isName (no (fun w => e0 ?_)), fun e0 => ?_⟩
  · show I 236 12 - nI a = nI z
    rw [hp, nI_sub hab, w.1]
  · have e0 : I 236 12 - nI a = nI z := e0
    rw [hp, nI_sub hab, nI_eq (by omega) (by omega)] at e0
    have l0 := le 0
    have l1 := le 1
    have l2 := le 2
    have l3 := le 3
    have t0 := tp 0 (by omega)
    have t1 := tp 1 (by omega)
    have t2 := tp 2 (by omega)
    rw [Nat.add_zero] at l0 t0
    refine ⟨245, rfl, rfl, 90, a, rfl, by omega, rfl, fun e1 => j_MD_isName (no (fun w => e1 ?_)), fun e1 => ⟨245, rfl, rfl, 90, a + 1, rfl, by omega, nI_1 a, fun e2 => j_MD_isName (no (fun w => e2 ?_)), fun e2 => ⟨245, rfl, rfl, 90, a + 2, rfl, by omega, nI_add a 2, fun e3 => j_MD_isName (no (fun w => e3 ?_)), fun e3 => ⟨fun e4 => j_MD_isName (yes ?_), fun e4 => ⟨245, rfl, rfl, 90, a + 3, rfl, (by
      have e6 : ¬ nI z = nI 3 := e4
      rw [nI_eq (by omega) (by omega)] at e6
      omega), nI_add a 3, fun e5 => j_MD_isName (no (fun w => ?_)), fun e5 => yes ?_⟩⟩⟩⟩⟩
    · show I 245 a = nI c0
      rw [t0, w.2.1]
    · show I 245 (a + 1) = nI c1
      rw [t1, w.2.2.1]
    · show I 245 (a + 2) = nI c2
      rw [t2, w.2.2.2.1]
    · have e1 : I 245 a = nI c0 := e1
      have e2 : I 245 (a + 1) = nI c1 := e2
      have e3 : I 245 (a + 2) = nI c2 := e3
      have e4 : nI z = nI 3 := e4
      rw [t0, nI_eq (by omega) (by omega)] at e1
      rw [t1, nI_eq (by omega) (by omega)] at e2
      rw [t2, nI_eq (by omega) (by omega)] at e3
      rw [nI_eq (by omega) (by omega)] at e4
      exact ⟨e0, e1, e2, e3, Or.inl e4⟩
    · have e4 : ¬ nI z = nI 3 := e4
      rw [nI_eq (by omega) (by omega)] at e4
      have e5 : ¬ I 245 (a + 3) = nI c3 := e5
      rw [tp 3 (by omega), nI_eq (by omega) (by omega)] at e5
      rcases w.2.2.2.2 with q | q
      · exact e4 q
      · exact e5 q
    · have e1 : I 245 a = nI c0 := e1
      have e2 : I 245 (a + 1) = nI c1 := e2
      have e3 : I 245 (a + 2) = nI c2 := e3
      have e4 : ¬ nI z = nI 3 := e4
      have e5 : I 245 (a + 3) = nI c3 := e5
      rw [t0, nI_eq (by omega) (by omega)] at e1
      rw [t1, nI_eq (by omega) (by omega)] at e2
      rw [t2, nI_eq (by omega) (by omega)] at e3
      rw [nI_eq (by omega) (by omega)] at e4
      rw [tp 3 (by omega), nI_eq (by omega) (by omega)] at e5
      exact ⟨e0, e1, e2, e3, Or.inr e5⟩
end MX
