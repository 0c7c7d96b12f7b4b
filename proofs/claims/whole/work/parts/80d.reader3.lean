/-! the class's Reader: grid, plane, names -/
theorem wrow_tab : ∀ w, w < 5 → ∀ k, k < 8 → ((1 : Int32) <<< (nI w &&& 31) - 1) <<< (nI k &&& 31) = nI ((2 ^ w - 1) * 2 ^ k) := by decide +kernel
theorem gmin_tab : ∀ w, w < 5 → 1 ≤ w → (if nI 7 / nI w < nI 4 then nI 7 / nI w else nI 4) = nI (min 4 (7 / w)) ∧ 1 ≤ min 4 (7 / w) ∧ min 4 (7 / w) < 5 ∧ ∀ h, h ≤ min 4 (7 / w) → w * h ≤ 7 := by
  intro w h5 h1
  rcases (show w = 1 ∨ w = 2 ∨ w = 3 ∨ w = 4 by omega) with rfl | rfl | rfl | rfl
  · exact ⟨by decide +kernel, by decide, by decide, fun h hh => (by rw [show min 4 (7 / 1) = 4 from rfl] at hh; omega)⟩
  · exact ⟨by decide +kernel, by decide, by decide, fun h hh => (by rw [show min 4 (7 / 2) = 3 from rfl] at hh; omega)⟩
  · exact ⟨by decide +kernel, by decide, by decide, fun h hh => (by rw [show min 4 (7 / 3) = 2 from rfl] at hh; omega)⟩
  · exact ⟨by decide +kernel, by decide, by decide, fun h hh => (by rw [show min 4 (7 / 4) = 1 from rfl] at hh; omega)⟩
theorem csh_tab : ∀ c, c < 128 → ∀ x, x < 4 → nI c <<< (nI x &&& 31) = nI (c * 2 ^ x) := by decide +kernel
theorem gcol_tab : ∀ w, w < 5 → ∀ h, h < 5 → (1 ≤ w ∧ w * h ≤ 7) → gcol w h < 128 := by decide +kernel
theorem gset_tab : ∀ w, w < 5 → ∀ h, h < 5 → w * h ≤ 7 → ∀ y, y < h → ∀ x, x < w → gset w h y x < 128 := by decide +kernel
theorem pln_tab : ∀ k, k < 7 → (1 : Int32) <<< (nI k &&& 31) ||| (1 : Int32) <<< ((nI k + 1 - (nI k + 1) / 7 * 7) &&& 31) ||| (1 : Int32) <<< ((nI k + 3 - (nI k + 3) / 7 * 7) &&& 31) = nI (2 ^ k ||| 2 ^ ((k + 1) % 7) ||| 2 ^ ((k + 3) % 7)) := by decide +kernel
theorem pln_lt : ∀ k, k < 7 → 2 ^ k ||| 2 ^ ((k + 1) % 7) ||| 2 ^ ((k + 3) % 7) < 128 := by decide +kernel
theorem nmx_tab : ∀ t, t < 5 → (am_txt t).length = (nmx t).length ∧ (nmx t).length ≤ 8 ∧ ∀ j, j < (nmx t).length → (am_txt t).getD j 0 = nI ((nmx t).getD j 0) ∧ 1 ≤ (nmx t).getD j 0 ∧ (nmx t).getD j 0 < 128 := by
  intro t ht
  rcases (show t = 0 ∨ t = 1 ∨ t = 2 ∨ t = 3 ∨ t = 4 by omega) with rfl | rfl | rfl | rfl | rfl <;> exact ⟨by decide +kernel, by decide +kernel, by decide +kernel⟩
section RD
variable {f g : Nat → Nat} {I : Nat → Nat → Int32} {J : Nat → Nat → Int64} {u : Nat → Nat} {n : Nat}
theorem ev_wallRow {x y : Int32} {w k : Nat} (hx : x = nI w) (hy : y = nI k) (hw : w < 5) (hk : k < 8) (σ : am_S) : am_ev am_sh m_Re_wallRow [.int x, .int y] σ (Rt (.int (nI ((2 ^ w - 1) * 2 ^ k))) σ) := by
  obtain ⟨I, J, R⟩ := σ
  rw [hx, hy, ← wrow_tab w hw k hk]
  exact s_Re_wallRow ⟨rfl, rfl⟩
theorem lp_grid3 {w h y : Nat} {q : am_Q} (hw : w < 5) (hh : h < 5) (h1 : 1 ≤ w) (h7 : w * h ≤ 7) (hy : y < h) {l0 : List Nat} (K : ∀ (I' : Nat → Nat → Int32) w5, TL I' (fo (fun x l => tel l (gset w h y x)) l0 w) → Stl I' I → am_run am_sh m_Re_grid q 121 [some (.ref 201), some (.int (nI w)), some (.int (nI h)), some (.int (nI (gcol w h))), some (.int (nI y)), w5] [] (I', J, am_Rf f g)) : ∀ m x (I' : Nat → Nat → Int32), m + x = w → TL I' (fo (fun x l => tel l (gset w h y x)) l0 x) → Stl I' I → am_u am_sh m_Re_grid q (am_at am_c_Re_grid 92) 92 [some (.ref 201), some (.int (nI w)), some (.int (nI h)), some (.int (nI (gcol w h))), some (.int (nI y)), some (.int (nI x))] [] (I', J, am_Rf f g) := by
  have wy : w * y < 8 := by
    have := Nat.mul_le_mul_left w (Nat.le_of_lt hy)
    omega
  intro m
  induction m with
  | zero =>
    intro x I' hm hT hS
    obtain rfl : x = w := by omega
    exact br_t (nI_le (Nat.le_refl _) (by omega)) (K I' _ hT hS)
  | succ m ih =>
    intro x I' hm hT hS
    refine br_f (nI_ge (by omega) (by omega)) ((ev_wallRow (w := w) (k := w * y) rfl (nI_mul w y) hw wy _).rt ⟨rfl, (ev_tell (s := gset w h y x) hT ?_ (gset_tab w hw h hh h7 y hy x (by omega))).mono ?_⟩)
    · show nI ((2 ^ w - 1) * 2 ^ (w * y)) ||| nI (gcol w h) <<< (nI x &&& 31) = nI (gset w h y x)
      rw [csh_tab _ (gcol_tab w hw h hh ⟨h1, h7⟩) x (by omega), nI_or]
      rfl
    · rintro r σ' ⟨rfl, I1, rfl, a1, a2⟩
      refine j_Re_grid ?_
      rw [nI_1]
      exact ih (x + 1) I1 (by omega) a1 (a2.tr hS)
theorem lp_grid2 {w h : Nat} {q : am_Q} {w5 : Option Value} (hw : w < 5) (hh : h < 5) (h1 : 1 ≤ w) (h7 : w * h ≤ 7) (hq : ∀ I' : Nat → Nat → Int32, TL I' (grdL w h) → Stl I' I → q (some (.int 1)) (I', J, am_Rf f g)) : ∀ m y w5 (I' : Nat → Nat → Int32), m + y = h → TL I' (fo (fun y l => fo (fun x l => tel l (gset w h y x)) l w) [] y) → Stl I' I → am_u am_sh m_Re_grid q (am_at am_c_Re_grid 83) 83 [some (.ref 201), some (.int (nI w)), some (.int (nI h)), some (.int (nI (gcol w h))), some (.int (nI y)), w5] [] (I', J, am_Rf f g) := by
  intro m
  induction m with
  | zero =>
    intro y w5 I' hm hT hS
    obtain rfl : y = h := by omega
    exact br_t (nI_le (Nat.le_refl _) (by omega)) (j_Re_grid ⟨Or.inr rfl, hq I' hT hS⟩)
  | succ m ih =>
    intro y w5 I' hm hT hS
    refine br_f (nI_ge (by omega) (by omega)) (j_Re_grid (lp_grid3 (I := I') hw hh h1 h7 (show y < h by omega) (fun I1 w5 a1 a2 => j_Re_grid (j_Re_grid ?_)) w 0 I' (by omega) hT (Stl.rf I')))
    rw [nI_1]
    exact ih (y + 1) w5 I1 (by omega) a1 (a2.tr hS)
theorem lp_grid1 {w h : Nat} {q : am_Q} {w5 : Option Value} (hw : w < 5) (hh : h < 5) (h1 : 1 ≤ w) (h7 : w * h ≤ 7) (K : ∀ w4, am_run am_sh m_Re_grid q 80 [some (.ref 201), some (.int (nI w)), some (.int (nI h)), some (.int (nI (gcol w h))), w4, w5] [] (I, J, am_Rf f g)) : ∀ m y, m + y = h → am_u am_sh m_Re_grid q (am_at am_c_Re_grid 59) 59 [some (.ref 201), some (.int (nI w)), some (.int (nI h)), some (.int (nI (fo (fun y c => c ||| 2 ^ (w * y)) 0 y))), some (.int (nI y)), w5] [] (I, J, am_Rf f g) := by
  intro m
  induction m with
  | zero =>
    intro y hm
    obtain rfl : y = h := by omega
    exact br_t (nI_le (Nat.le_refl _) (by omega)) (K _)
  | succ m ih =>
    intro y hm
    have wy : w * y < 8 := by
      have := Nat.mul_le_mul_left w (show y ≤ h by omega)
      omega
    refine br_f (nI_ge (by omega) (by omega)) (j_Re_grid ?_)
    rw [nI_1, nI_mul, shl_tab (w * y) (by omega), nI_or]
    exact ih (y + 1) (by omega)
theorem ev_grid {p : Nat} (h : CT I u n) (hp : I 201 6 = nI p) (hn : p ≤ n) (hT : TL I []) : am_ev am_sh m_Re_grid [.ref 201] (I, J, am_Rf f g) (RdQ f g I J (fin u n (qGrid u n p))) := by
  refine s_Re_grid ⟨rfl, (ev_figure (m := 4) h hp hn rfl (by omega)).mono ?_⟩
  rintro x σ' ⟨I1, rfl, a1, ⟨w, v1, v2, v3, rfl, v5, v6⟩ | ⟨v1, rfl, v3⟩⟩
  · have c1 : CT I1 u n := h.fr a1.fr
    refine ⟨fun e => absurd e (nI_ne0 v2 (by omega)), fun _ => ⟨rfl, (ev_skips (p := nx u n p + 1) (c := 42) c1 v5 v6 (by omega) (by omega)).mono ?_⟩⟩
    rintro x σ' ⟨y, I2, rfl, rfl, b1, b2, b3⟩
    have c2 : CT I2 u n := c1.fr b1.fr
    cases y with
    | false =>
      obtain ⟨d1, d2⟩ := b3 rfl
      have q0 : qGrid u n p = (nx u n (nx u n p + 1), none) := by unfold qGrid; rw [v1]; exact if_neg d1
      rw [q0, fin_no, nx_nx v6]
      exact ⟨fun e => absurd rfl e, fun _ => ⟨Or.inl rfl, I2, rfl, rfl, b1.fr.tr a1.fr, d2, fun s l e => by cases e⟩⟩
    | true =>
      obtain ⟨d1, d2, d3⟩ := b2 rfl
      obtain ⟨g1, g2, g3, g4⟩ := gmin_tab w (by omega) v2
      refine ⟨fun _ => j_Re_grid ⟨nI_ne0 v2 (by omega), rfl, (ev_figure (m := min 4 (7 / w)) c2 d2 d3 g1 (by omega)).mono ?_⟩, fun e => absurd e (by decide)⟩
      rintro x σ' ⟨I3, rfl, e1, ⟨hh, f1, f2, f3, rfl, f5, f6⟩ | ⟨f1, rfl, f3⟩⟩
      · have q0 : qGrid u n p = (nx u n (nx u n (nx u n p + 1) + 1) + 1, some (w * hh, grdL w hh)) := by
          unfold qGrid
          rw [v1]
          show (if _ then _ else _) = _
          rw [if_pos d1, f1]
        have c3 : CT I3 u n := c2.fr e1.fr
        have h7 := g4 hh f3
        refine ⟨fun e => absurd e (nI_ne0 f2 (by omega)), fun _ => ⟨rfl, (ev_ends (p := nx u n (nx u n (nx u n p + 1) + 1) + 1) c3 f5 f6).mono ?_⟩⟩
        rintro x σ' ⟨I4, rfl, rfl, k1, k2⟩
        by_cases wd : lu u n (nx u n (nx u n (nx u n (nx u n p + 1) + 1) + 1)) = 0
        · rw [q0, fin_yes wd, decide_eq_true wd]
          refine ⟨fun _ => j_Re_grid ⟨rfl, j_Re_grid (lp_grid1 (show w < 5 by omega) (show hh < 5 by omega) v2 h7 (fun w4 => j_Re_grid (j_Re_grid (lp_grid2 (w5 := none) (show w < 5 by omega) (show hh < 5 by omega) v2 h7 (fun I' t1 t2 => ⟨I', rfl, rfl, ?_, ?_, fun s l e => ?_⟩) hh 0 none _ (by omega) ((((hT.sat a1).sat b1).sat e1).sat k1).up0 (Stl.rf _)))) hh 0 (by omega))⟩, fun e => absurd e (by decide)⟩
          · exact t2.fr.tr ((((k1.fr.tr e1.fr).tr b1.fr).tr a1.fr).up0)
          · rw [t2.2 6 (by omega), am_up_ne (by omega)]
            exact k2
          · have e := Option.some.inj e
            rw [← (Prod.mk.inj e).1, ← (Prod.mk.inj e).2]
            exact ⟨by rw [t2.2 0 (by omega), am_up_eq, nI_mul], t1⟩
        · rw [q0, fin_not wd, decide_eq_false wd]
          exact ⟨fun e => absurd rfl e, fun _ => ⟨Or.inl rfl, I4, rfl, rfl, ((k1.fr.tr e1.fr).tr b1.fr).tr a1.fr, k2, fun s l e => by cases e⟩⟩
      · have q0 : qGrid u n p = (nx u n (nx u n (nx u n p + 1) + 1), none) := by
          unfold qGrid
          rw [v1]
          show (if _ then _ else _) = _
          rw [if_pos d1, f1]
        rw [q0, fin_no, nx_nx d3]
        exact ⟨fun _ => j_Re_grid ⟨Or.inl rfl, I3, rfl, rfl, (e1.fr.tr b1.fr).tr a1.fr, f3, fun s l e => by cases e⟩, fun e => absurd rfl e⟩
  · have q0 : qGrid u n p = (nx u n p, none) := by unfold qGrid; rw [v1]
    rw [q0, fin_no, nx_nx hn]
    exact ⟨fun _ => j_Re_grid ⟨Or.inl rfl, I1, rfl, rfl, a1.fr, v3, fun s l e => by cases e⟩, fun e => absurd rfl e⟩
theorem lp_plane {q : am_Q} (hn : I 201 0 = nI 7) (hq : ∀ I' : Nat → Nat → Int32, TL I' plnL → Stl I' I → q (some (.int 1)) (I', J, am_Rf f g)) : ∀ m k (I' : Nat → Nat → Int32), m + k = 7 → TL I' (fo (fun k l => tel l (2 ^ k ||| 2 ^ ((k + 1) % 7) ||| 2 ^ ((k + 3) % 7))) [] k) → Stl I' I → am_u am_sh m_Re_plane q (am_at am_c_Re_plane 17) 17 [some (.ref 201), some (.int (nI k))] [] (I', J, am_Rf f g) := by
  intro m
  induction m with
  | zero =>
    intro k I' hm hT hS
    obtain rfl : k = 7 := by omega
    exact ⟨rfl, br_t (by rw [hS.2 0 (by omega), hn]; exact nI_le (Nat.le_refl _) (by omega)) (j_Re_plane ⟨Or.inr rfl, hq I' hT hS⟩)⟩
  | succ m ih =>
    intro k I' hm hT hS
    refine ⟨rfl, br_f (by rw [hS.2 0 (by omega), hn]; exact nI_ge (by omega) (by omega)) ⟨by decide, by decide, rfl, (ev_tell hT (pln_tab k (by omega)) (pln_lt k (by omega))).mono ?_⟩⟩
    rintro r σ' ⟨rfl, I1, rfl, a1, a2⟩
    refine j_Re_plane ?_
    rw [nI_1]
    exact ih (k + 1) I1 (by omega) a1 (a2.tr hS)
theorem ev_plane {p : Nat} (h : CT I u n) (hp : I 201 6 = nI p) (hn : p ≤ n) (hT : TL I []) : am_ev am_sh m_Re_plane [.ref 201] (I, J, am_Rf f g) (RdQ f g I J (fin u n (qPln p))) := by
  refine s_Re_plane ⟨rfl, rfl, (ev_ends (p := p) (h.fr (FrC.rf I).up0) (by rw [am_up_ne (by omega)]; exact hp) hn).mono ?_⟩
  rintro x σ' ⟨I1, rfl, rfl, b1, b2⟩
  by_cases w : lu u n (nx u n p) = 0
  · rw [qPln, fin_yes w, decide_eq_true w]
    refine ⟨fun _ => j_Re_plane (j_Re_plane (lp_plane (by rw [b1 201 0 (by omega), am_up_eq]; rfl) (fun I' t1 t2 => ⟨I', rfl, rfl, (t2.fr.tr b1.fr).tr (FrC.rf I).up0, by rw [t2.2 6 (by omega)]; exact b2, fun s l e => ?_⟩) 7 0 I1 (by omega) (hT.up0.sat b1) (Stl.rf I1))), fun e => absurd e (by decide)⟩
    have e := Option.some.inj e
    rw [← (Prod.mk.inj e).1, ← (Prod.mk.inj e).2]
    exact ⟨by rw [t2.2 0 (by omega), b1 201 0 (by omega), am_up_eq]; rfl, t1⟩
  · rw [qPln, fin_not w, decide_eq_false w]
    exact ⟨fun e => absurd rfl e, fun _ => ⟨Or.inl rfl, I1, rfl, rfl, b1.fr.tr (FrC.rf I).up0, b2, fun s l e => by cases e⟩⟩
theorem lp_isName {t a b : Nat} (h : CT I u n) (ht : t < 5) (ha : a ≤ n) (hab : b - a = (nmx t).length) : ∀ m i, m + i = (nmx t).length → (∀ j, j < i → lu u n (a + j) = (nmx t).getD j 0) → am_u am_sh m_Re_isName (Rt (.int (b2i (isNm u n t a b))) (I, J, am_Rf f g)) (am_at am_c_Re_isName 15) 15 [some (.ref 201), some (.ref (am_SB + t)), some (.int (nI a)), some (.int (nI b)), some (.int (nI i))] [] (I, J, am_Rf f g) := by
  obtain ⟨t1, t2, t3⟩ := nmx_tab t ht
  have h90 := h.1
  intro m
  induction m with
  | zero =>
    intro i hm h0
    obtain rfl : i = (nmx t).length := by omega
    refine ⟨t, rfl, ht, br_t (by rw [t1]; exact nI_le (Nat.le_refl _) (by omega)) (j_Re_isName ⟨Or.inr rfl, ?_, rfl⟩)⟩
    have : isNm u n t a b = true := by
      unfold isNm
      rw [decide_eq_true hab, Bool.true_and, ba_iff]
      exact fun k hk => decide_eq_true (h0 k hk)
    rw [this]
    rfl
  | succ m ih =>
    intro i hm h0
    have x3 := t3 i (by omega)
    have lb := h.le (a + i)
    refine ⟨t, rfl, ht, br_f (by rw [t1]; exact nI_ge (by omega) (by omega)) ⟨203, rfl, rfl, rfl, (ev_tAt (p := a + i) h (nI_add a i) (by omega)).rt ⟨t, i, rfl, ht, by omega, rfl, fun e => j_Re_isName (j_Re_isName ?_), fun e => ⟨Or.inl rfl, ?_, rfl⟩⟩⟩⟩
    · have e : nI (lu u n (a + i)) = (am_txt t).getD i 0 := e
      rw [x3.1, nI_eq (by omega) (by omega)] at e
      rw [nI_1]
      refine ih (i + 1) (by omega) (fun j hj => ?_)
      by_cases q : j = i
      · rw [q]; exact e
      · exact h0 j (by omega)
    · have e : ¬ nI (lu u n (a + i)) = (am_txt t).getD i 0 := e
      rw [x3.1, nI_eq (by omega) (by omega)] at e
      have : isNm u n t a b = false := by
        cases q : isNm u n t a b with
        | false => rfl
        | true =>
          unfold isNm at q
          rw [Bool.and_eq_true, ba_iff] at q
          exact absurd (of_decide_eq_true (q.2 i (by omega))) e
      rw [this]
      rfl
theorem ev_isName {t a b : Nat} (h : CT I u n) (ht : t < 5) (ha : a ≤ b) (hb : b ≤ n) : am_ev am_sh m_Re_isName [.ref 201, .ref (am_SB + t), .int (nI a), .int (nI b)] (I, J, am_Rf f g) (Rt (.int (b2i (isNm u n t a b))) (I, J, am_Rf f g)) := by
  obtain ⟨t1, t2, t3⟩ := nmx_tab t ht
  have h90 := h.1
  refine s_Re_isName ⟨t, rfl, ht, fun e => j_Re_isName (j_Re_isName ?_), fun e => ⟨Or.inl rfl, ?_, rfl⟩⟩
  · have e : nI b - nI a = nI (am_txt t).length := e
    rw [nI_sub ha, t1, nI_eq (by omega) (by omega)] at e
    exact lp_isName h ht (by omega) e (nmx t).length 0 (by omega) (fun j hj => by omega)
  · have e : ¬ nI b - nI a = nI (am_txt t).length := e
    rw [nI_sub ha, t1, nI_eq (by omega) (by omega)] at e
    have : isNm u n t a b = false := by
      unfold isNm
      rw [decide_eq_false e]
      rfl
    rw [this]
    rfl
end RD
