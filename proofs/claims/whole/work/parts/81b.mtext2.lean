/-! the reference: majority, grid, plane -/
def majR (v k : Nat) : List Nat × Bool := fo (fun s a => if 1 ≤ s ∧ pc7 s = v / 2 + 1 then gtt a s else a) ([], false) k
theorem majR_tab : ∀ v, v < 6 → 1 ≤ v → majR v (2 ^ v) = (majL v, false) := by decide +kernel
def rset (w y x k : Nat) : Nat := fo (fun e s => s ||| (if e / w = y ∨ e % w = x then 2 ^ e else 0)) 0 k
theorem rset_tab : ∀ w, w < 5 → ∀ h, h < 5 → w * h ≤ 7 → ∀ y, y < h → ∀ x, x < w → rset w y x (w * h) = gset w h y x := by decide +kernel
def grR2 (w h y : Nat) (a : List Nat × Bool) (k : Nat) : List Nat × Bool := fo (fun x a => if a.1.contains (gset w h y x) = true then a else gtt a (gset w h y x)) a k
def grR (w h k : Nat) : List Nat × Bool := fo (fun y a => grR2 w h y a w) ([], false) k
theorem grR_tab : ∀ w, w < 5 → ∀ h, h < 5 → (1 ≤ w ∧ w * h ≤ 7) → grR w h h = (grdL w h, false) := by decide +kernel
def plR (k : Nat) : List Nat × Bool := fo (fun k a => gtt a (2 ^ k ||| 2 ^ ((k + 1) % 7) ||| 2 ^ ((k + 3) % 7))) ([], false) k
theorem plR_tab : plR 7 = (plnL, false) := by decide +kernel
section MX
variable {f g : Nat → Nat} {I : Nat → Nat → Int32} {J : Nat → Nat → Int64} {u : Nat → Nat} {n : Nat}
theorem lp_mmajority {v : Nat} (h1 : 1 ≤ v) (h6 : v < 6) {q : am_Q} (hq : ∀ I' : Nat → Nat → Int32, GL I' (majL v, false) → Gst I' I → q (some (.int 1)) (I', J, am_Rf f g)) : ∀ m k (I' : Nat → Nat → Int32), m + k = 2 ^ v → 1 ≤ k → GL I' (majR v k) → Gst I' I → am_u am_sh m_MD_majority q (am_at am_c_MD_majority 14) 14 [some (.ref 236), some (.int (nI v)), some (.int (nI k))] [] (I', J, am_Rf f g) := by
  have hp := pow_tab v h6
  have vp : ¬ nI v ≤ 0 := nI_ge (a := 0) (by omega) (by omega)
  intro m
  induction m with
  | zero =>
    intro k I' hk hk1 hT hS
    obtain rfl : k = 2 ^ v := by omega
    rw [majR_tab v h6 h1] at hT
    refine br_f vp (br_t ?_ (j_MD_majority (br_f vp (j_MD_majority ⟨Or.inr rfl, hq I' hT hS⟩))))
    rw [shl_tab v (by omega)]
    exact nI_le (Nat.le_refl _) (by omega)
  | succ m ih =>
    intro k I' hk hk1 hT hS
    have pl : pc7 k ≤ 7 := by unfold pc7; omega
    refine br_f vp (br_f ?_ ((ev_bits (show k < 4096 by omega) _).rt ⟨by decide, fun e => j_MD_majority (j_MD_majority ?_), fun e => ⟨rfl, (ev_gets hT rfl (show k < 128 by omega)).mono ?_⟩⟩))
    · rw [shl_tab v (by omega)]
      exact nI_ge (by omega) (by omega)
    · have e : ¬ nI (pc12 k) = nI v / nI 2 + 1 := e
      rw [pc12_7 k (by omega), nI_div (by omega) (by omega), nI_1, nI_eq (by omega) (by omega)] at e
      rw [nI_1]
      refine ih (k + 1) I' (by omega) (by omega) ?_ hS
      have : majR v (k + 1) = majR v k := if_neg (fun w => e w.2)
      rw [this]
      exact hT
    · rintro x σ' ⟨rfl, I1, rfl, a1, a2⟩
      have e : nI (pc12 k) = nI v / nI 2 + 1 := e
      rw [pc12_7 k (by omega), nI_div (by omega) (by omega), nI_1, nI_eq (by omega) (by omega)] at e
      refine j_MD_majority ?_
      rw [nI_1]
      refine ih (k + 1) I1 (by omega) (by omega) ?_ (a2.tr hS)
      have : majR v (k + 1) = gtt (majR v k) k := if_pos ⟨hk1, e⟩
      rw [this]
      exact a1
theorem ev_mmajority {p : Nat} (h : RT I u n) (hp : I 236 12 = nI p) (hn : p ≤ n) (hT : GL I ([], false)) : am_ev am_sh m_MD_majority [.ref 236] (I, J, am_Rf f g) (RfQ f g I J (qMaj u n p)) := by
  refine s_MD_majority ⟨rfl, (ev_mfigure (m := 5) h hp hn rfl (by omega)).mono ?_⟩
  rintro x σ' ⟨I1, rfl, a1, ⟨v, v1, v2, v3, rfl, v5, v6⟩ | ⟨v1, rfl, v3⟩⟩
  · have q0 : qMaj u n p = (nx u n p + 1, some (v, majL v)) := by unfold qMaj; rw [v1]
    have p2 := Nat.two_pow_pos v
    rw [q0]
    refine ⟨rfl, j_MD_majority (lp_mmajority v2 (by omega) (fun I' t1 t2 => ⟨I', rfl, rfl, t2.fr.tr (a1.fr.up (by omega)), ?_, fun s l e => ?_⟩) (2 ^ v - 1) 1 _ (by omega) (by omega) ((hT.at a1).up (by omega)) (Gst.rf _))⟩
    · rw [t2.2 12 (by omega) (by omega), am_up_ne (by omega)]
      exact v5
    · have e := Option.some.inj e
      rw [← (Prod.mk.inj e).1, ← (Prod.mk.inj e).2]
      exact ⟨by rw [t2.2 13 (by omega) (by omega), am_up_eq], t1⟩
  · have q0 : qMaj u n p = (nx u n p, none) := by unfold qMaj; rw [v1]
    rw [q0]
    exact ⟨rfl, j_MD_majority (br_t (by decide) (j_MD_majority (br_t (by decide) (j_MD_majority ⟨Or.inl rfl, _, rfl, rfl, a1.fr.up (by omega), by rw [am_up_ne (by omega)]; exact v3, fun s l e => by cases e⟩))))⟩
theorem lp_mgrid4 {w h y x : Nat} {q : am_Q} (hw : w < 5) (hh : h < 5) (h1 : 1 ≤ w) (h7 : w * h ≤ 7) (hy : y < h) (hx : x < w) (K : ∀ w6, am_run am_sh m_MD_grid q 127 [some (.ref 236), some (.int (nI w)), some (.int (nI h)), some (.int (nI y)), some (.int (nI x)), some (.int (nI (gset w h y x))), w6] [] (I, J, am_Rf f g)) : ∀ m e, m + e = w * h → am_u am_sh m_MD_grid q (am_at am_c_MD_grid 83) 83 [some (.ref 236), some (.int (nI w)), some (.int (nI h)), some (.int (nI y)), some (.int (nI x)), some (.int (nI (rset w y x e))), some (.int (nI e))] [] (I, J, am_Rf f g) := by
  have w0 : ¬ nI w = 0 := nI_ne0 h1 (by omega)
  intro m
  induction m with
  | zero =>
    intro e he
    obtain rfl : e = w * h := by omega
    refine br_t (by rw [nI_mul]; exact nI_le (Nat.le_refl _) (by omega)) ?_
    rw [rset_tab w hw h hh h7 y hy x hx]
    exact K _
  | succ m ih =>
    intro e he
    have nx1 := ih (e + 1) (by omega)
    have em := Nat.mod_lt e (show 0 < w by omega)
    have ed := Nat.div_le_self e w
    have st : rset w y x (e + 1) = rset w y x e ||| (if e / w = y ∨ e % w = x then 2 ^ e else 0) := rfl
    rw [st] at nx1
    refine br_f (by rw [nI_mul]; exact nI_ge (by omega) (by omega)) ⟨w0, fun e1 => j_MD_grid (j_MD_grid (j_MD_grid ?_)), fun e1 => ⟨w0, fun e2 => j_MD_grid (j_MD_grid ?_), fun e2 => j_MD_grid (j_MD_grid ?_)⟩⟩
    · have e1 : nI e / nI w = nI y := e1
      rw [nI_div (by omega) (by omega), nI_eq (by omega) (by omega)] at e1
      rw [shl_tab e (by omega), nI_or, nI_1]
      rw [if_pos (Or.inl e1)] at nx1
      exact nx1
    · have e1 : ¬ nI e / nI w = nI y := e1
      have e2 : ¬ nI e - nI e / nI w * nI w = nI x := e2
      rw [nI_div (by omega) (by omega), nI_eq (by omega) (by omega)] at e1
      rw [nI_rem (by omega) (by omega), nI_eq (by omega) (by omega)] at e2
      rw [Int32.or_zero, nI_1]
      rw [if_neg (fun w => by rcases w with w | w; exact e1 w; exact e2 w), Nat.or_zero] at nx1
      exact nx1
    · have e2 : nI e - nI e / nI w * nI w = nI x := e2
      rw [nI_rem (by omega) (by omega), nI_eq (by omega) (by omega)] at e2
      rw [shl_tab e (by omega), nI_or, nI_1]
      rw [if_pos (Or.inr e2)] at nx1
      exact nx1
theorem lp_mgrid3 {w h y : Nat} {q : am_Q} (hw : w < 5) (hh : h < 5) (h1 : 1 ≤ w) (h7 : w * h ≤ 7) (hy : y < h) {a0 : List Nat × Bool} (K : ∀ (I' : Nat → Nat → Int32) w4 w5 w6, GL I' (grR2 w h y a0 w) → Gst I' I → am_run am_sh m_MD_grid q 148 [some (.ref 236), some (.int (nI w)), some (.int (nI h)), some (.int (nI y)), w4, w5, w6] [] (I', J, am_Rf f g)) : ∀ m x w5 w6 (I' : Nat → Nat → Int32), m + x = w → GL I' (grR2 w h y a0 x) → Gst I' I → am_u am_sh m_MD_grid q (am_at am_c_MD_grid 71) 71 [some (.ref 236), some (.int (nI w)), some (.int (nI h)), some (.int (nI y)), some (.int (nI x)), w5, w6] [] (I', J, am_Rf f g) := by
  intro m
  induction m with
  | zero =>
    intro x w5 w6 I' hm hT hS
    obtain rfl : x = w := by omega
    exact br_t (nI_le (Nat.le_refl _) (by omega)) (K I' _ _ _ hT hS)
  | succ m ih =>
    intro x w5 w6 I' hm hT hS
    have gs := gset_tab w hw h hh h7 y hy x (by omega)
    refine br_f (nI_ge (by omega) (by omega)) (j_MD_grid (lp_mgrid4 hw hh h1 h7 hy (show x < w by omega) (fun w6 => j_MD_grid ⟨rfl, (ev_isGot (s := gset w h y x) hT rfl gs).rt ⟨fun e => j_MD_grid (j_MD_grid ?_), fun e => ⟨rfl, (ev_gets (s := gset w h y x) hT rfl gs).mono ?_⟩⟩⟩) (w * h) 0 (by omega)))
    · rw [nI_1]
      refine ih (x + 1) _ _ I' (by omega) ?_ hS
      have : grR2 w h y a0 (x + 1) = grR2 w h y a0 x := if_pos (b2i_ne0.mp e)
      rw [this]
      exact hT
    · rintro r σ' ⟨rfl, I1, rfl, a1, a2⟩
      refine j_MD_grid ?_
      rw [nI_1]
      refine ih (x + 1) _ _ I1 (by omega) ?_ (a2.tr hS)
      have : grR2 w h y a0 (x + 1) = gtt (grR2 w h y a0 x) (gset w h y x) := if_neg (fun hc => by
        have ee := b2i_eq0.mp e
        rw [show (grR2 w h y a0 x).1.contains (gset w h y x) = true from hc] at ee
        cases ee)
      rw [this]
      exact a1
theorem lp_mgrid2 {w h : Nat} {q : am_Q} (hw : w < 5) (hh : h < 5) (h1 : 1 ≤ w) (h2 : 1 ≤ h) (h7 : w * h ≤ 7) (hq : ∀ I' : Nat → Nat → Int32, GL I' (grdL w h, false) → Gst I' I → q (some (.int 1)) (I', J, am_Rf f g)) : ∀ m y w4 w5 w6 (I' : Nat → Nat → Int32), m + y = h → GL I' (grR w h y) → Gst I' I → am_u am_sh m_MD_grid q (am_at am_c_MD_grid 63) 63 [some (.ref 236), some (.int (nI w)), some (.int (nI h)), some (.int (nI y)), w4, w5, w6] [] (I', J, am_Rf f g) := by
  intro m
  induction m with
  | zero =>
    intro y w4 w5 w6 I' hm hT hS
    obtain rfl : y = h := by omega
    rw [grR_tab w hw y hh ⟨h1, h7⟩] at hT
    exact br_t (nI_le (Nat.le_refl _) (by omega)) (j_MD_grid (br_f (nI_ge (a := 0) (by omega) (by omega)) (j_MD_grid ⟨Or.inr rfl, hq I' hT hS⟩)))
  | succ m ih =>
    intro y w4 w5 w6 I' hm hT hS
    refine br_f (nI_ge (by omega) (by omega)) (j_MD_grid (lp_mgrid3 (I := I') hw hh h1 h7 (show y < h by omega) (fun I1 w4 w5 w6 a1 a2 => j_MD_grid (j_MD_grid ?_)) w 0 w5 w6 I' (by omega) hT (Gst.rf I')))
    rw [nI_1]
    exact ih (y + 1) w4 w5 w6 I1 (by omega) a1 (a2.tr hS)
theorem ev_mgrid {p : Nat} (h : RT I u n) (hp : I 236 12 = nI p) (hn : p ≤ n) (hT : GL I ([], false)) : am_ev am_sh m_MD_grid [.ref 236] (I, J, am_Rf f g) (RfQ f g I J (qGrid u n p)) := by
  refine s_MD_grid ⟨rfl, (ev_mfigure (m := 4) h hp hn rfl (by omega)).mono ?_⟩
  rintro x σ' ⟨I1, rfl, a1, ⟨w, v1, v2, v3, rfl, v5, v6⟩ | ⟨v1, rfl, v3⟩⟩
  · have c1 : RT I1 u n := h.fr a1.fr
    have lb := h.le (nx u n (nx u n p + 1))
    refine br_f (nI_pos (by omega)) ⟨rfl, (ev_here (p := nx u n p + 1) c1 v5 v6).mono ?_⟩
    rintro x σ' ⟨rfl, I2, rfl, b1, b2⟩
    refine ⟨fun e => j_MD_grid ?_, fun e => ⟨Or.inl rfl, ?_⟩⟩
    · have e : nI (lu u n (nx u n (nx u n p + 1))) = nI 42 := e
      rw [nI_eq (by omega) (by omega)] at e
      have d3 : nx u n (nx u n p + 1) + 1 ≤ n := lu_pos (u := u) (by omega)
      obtain ⟨g1, g2, g3, g4⟩ := gmin_tab w (by omega) v2
      have w0 : ¬ nI w = 0 := nI_ne0 v2 (by omega)
      have c2 : RT (am_up I2 236 12 (nI (nx u n (nx u n p + 1) + 1))) u n := c1.fr (b2.fr.up (by omega))
      -- behind the figure of the height
      have tail : am_ev am_sh m_MD_figure [.ref 236, .int 1, .int (nI (min 4 (7 / w)))] (am_up I2 236 12 (nI (nx u n (nx u n p + 1) + 1)), J, am_Rf f g) (fun x σ' => ∃ I', σ' = (I', J, am_Rf f g) ∧ Rat I' I1 ∧ ((∃ v, fig u n (min 4 (7 / w)) (nx u n (nx u n p + 1) + 1) = some v ∧ 1 ≤ v ∧ v ≤ min 4 (7 / w) ∧ x = some (.int (nI v)) ∧ I' 236 12 = nI (nx u n (nx u n (nx u n p + 1) + 1) + 1) ∧ nx u n (nx u n (nx u n p + 1) + 1) + 1 ≤ n) ∨ (fig u n (min 4 (7 / w)) (nx u n (nx u n p + 1) + 1) = none ∧ x = some (.int (-1)) ∧ I' 236 12 = nI (nx u n (nx u n (nx u n p + 1) + 1))))) := (ev_mfigure (m := min 4 (7 / w)) c2 am_up_eq d3 rfl (by omega)).mono (by
        rintro x σ' ⟨I3, rfl, k1, k2⟩
        exact ⟨I3, rfl, (k1.tr Rat.up).tr b2, k2⟩)
      have fin2 : ∀ (x : Option Value) (σ' : am_S), (∃ I', σ' = (I', J, am_Rf f g) ∧ Rat I' I1 ∧ ((∃ v, fig u n (min 4 (7 / w)) (nx u n (nx u n p + 1) + 1) = some v ∧ 1 ≤ v ∧ v ≤ min 4 (7 / w) ∧ x = some (.int (nI v)) ∧ I' 236 12 = nI (nx u n (nx u n (nx u n p + 1) + 1) + 1) ∧ nx u n (nx u n (nx u n p + 1) + 1) + 1 ≤ n) ∨ (fig u n (min 4 (7 / w)) (nx u n (nx u n p + 1) + 1) = none ∧ x = some (.int (-1)) ∧ I' 236 12 = nI (nx u n (nx u n (nx u n p + 1) + 1))))) → ∃ v, x = some (.int v) ∧ am_u am_sh m_MD_grid (RfQ f g I J (qGrid u n p)) (am_at am_c_MD_grid 53) 53 [some (.ref 236), some (.int (nI w)), none, none, none, none, none] [.int v] σ' := by
        rintro x σ' ⟨I3, rfl, k1, ⟨hh, f1, f2, f3, rfl, f5, f6⟩ | ⟨f1, rfl, f3⟩⟩
        · have q0 : qGrid u n p = (nx u n (nx u n (nx u n p + 1) + 1) + 1, some (w * hh, grdL w hh)) := by
            unfold qGrid
            rw [v1]
            show (if _ then _ else _) = _
            rw [if_pos e, f1]
          have h7 := g4 hh f3
          refine ⟨_, rfl, rfl, ?_⟩
          rw [q0]
          refine j_MD_grid (lp_mgrid2 (show w < 5 by omega) (show hh < 5 by omega) v2 f2 h7 (fun I' t1 t2 => ⟨I', rfl, rfl, t2.fr.tr ((k1.fr.tr a1.fr).up (by omega)), ?_, fun s l e => ?_⟩) hh 0 none none none _ (by omega) (((hT.at a1).at k1).up (by omega)) (Gst.rf _))
          · rw [t2.2 12 (by omega) (by omega), am_up_ne (by omega)]
            exact f5
          · have e := Option.some.inj e
            rw [← (Prod.mk.inj e).1, ← (Prod.mk.inj e).2]
            exact ⟨by rw [t2.2 13 (by omega) (by omega), am_up_eq, nI_mul], t1⟩
        · have q0 : qGrid u n p = (nx u n (nx u n (nx u n p + 1) + 1), none) := by
            unfold qGrid
            rw [v1]
            show (if _ then _ else _) = _
            rw [if_pos e, f1]
          refine ⟨_, rfl, rfl, ?_⟩
          rw [q0]
          exact j_MD_grid (br_t (by decide) (j_MD_grid (br_t (by decide) (j_MD_grid ⟨Or.inl rfl, _, rfl, rfl, (k1.fr.tr a1.fr).up (by omega), by rw [am_up_ne (by omega)]; exact f3, fun s l e => by cases e⟩))))
      refine ⟨rfl, rfl, w0, fun e1 => j_MD_grid ⟨rfl, ?_⟩, fun e1 => ⟨w0, j_MD_grid ⟨rfl, ?_⟩⟩⟩
      · have e1 : nI 4 ≤ nI 7 / nI w := e1
        rw [if_neg (Int32.not_lt.mpr e1)] at g1
        show am_ev am_sh m_MD_figure [.ref 236, .int 1, .int (nI 4)] (am_up I2 236 12 (I2 236 12 + 1), J, am_Rf f g) _
        rw [b1, nI_1, g1]
        refine tail.mono (fun x σ' hx => ?_)
        obtain ⟨v, rfl, hv⟩ := fin2 x σ' hx
        exact hv
      · have e1 : ¬ nI 4 ≤ nI 7 / nI w := e1
        rw [if_pos (Int32.not_le.mp e1)] at g1
        show am_ev am_sh m_MD_figure [.ref 236, .int 1, .int (nI 7 / nI w)] (am_up I2 236 12 (I2 236 12 + 1), J, am_Rf f g) _
        rw [b1, nI_1, g1]
        refine tail.mono (fun x σ' hx => ?_)
        obtain ⟨v, rfl, hv⟩ := fin2 x σ' hx
        exact hv
    · have e : ¬ nI (lu u n (nx u n (nx u n p + 1))) = nI 42 := e
      rw [nI_eq (by omega) (by omega)] at e
      have q0 : qGrid u n p = (nx u n (nx u n p + 1), none) := by unfold qGrid; rw [v1]; exact if_neg e
      rw [q0]
      exact ⟨I2, rfl, rfl, b2.fr.tr a1.fr, b1, fun s l e => by cases e⟩
  · have q0 : qGrid u n p = (nx u n p, none) := by unfold qGrid; rw [v1]
    rw [q0]
    exact br_t (by decide) (j_MD_grid ⟨Or.inl rfl, I1, rfl, rfl, a1.fr, v3, fun s l e => by cases e⟩)
theorem lp_mplane {q : am_Q} (hq : ∀ I' : Nat → Nat → Int32, GL I' (plnL, false) → Gst I' I → q (some (.int 1)) (I', J, am_Rf f g)) : ∀ m k (I' : Nat → Nat → Int32), m + k = 7 → GL I' (plR k) → Gst I' I → am_u am_sh m_MD_plane q (am_at am_c_MD_plane 8) 8 [some (.ref 236), some (.int (nI k))] [] (I', J, am_Rf f g) := by
  intro m
  induction m with
  | zero =>
    intro k I' hm hT hS
    obtain rfl : k = 7 := by omega
    rw [plR_tab] at hT
    exact br_t (by decide) (j_MD_plane ⟨Or.inr rfl, hq I' hT hS⟩)
  | succ m ih =>
    intro k I' hm hT hS
    refine br_f (nI_ge (b := 7) (by omega) (by omega)) ⟨by decide, by decide, rfl, (ev_gets hT (pln_tab k (by omega)) (pln_lt k (by omega))).mono ?_⟩
    rintro r σ' ⟨rfl, I1, rfl, a1, a2⟩
    refine j_MD_plane ?_
    rw [nI_1]
    exact ih (k + 1) I1 (by omega) a1 (a2.tr hS)
theorem ev_mplane {p : Nat} (hp : I 236 12 = nI p) (hT : GL I ([], false)) : am_ev am_sh m_MD_plane [.ref 236] (I, J, am_Rf f g) (RfQ f g I J (qPln p)) := by
  refine s_MD_plane ⟨rfl, j_MD_plane (lp_mplane (fun I' t1 t2 => ⟨I', rfl, rfl, t2.fr.tr ((FrR.rf I).up (by omega)), ?_, fun s l e => ?_⟩) 7 0 _ (by omega) (hT.up (by omega)) (Gst.rf _))⟩
  · rw [t2.2 12 (by omega) (by omega), am_up_ne (by omega)]
    exact hp
  · have e := Option.some.inj e
    rw [← (Prod.mk.inj e).1, ← (Prod.mk.inj e).2]
    exact ⟨by rw [t2.2 13 (by omega) (by omega), am_up_eq]; rfl, t1⟩
end MX
