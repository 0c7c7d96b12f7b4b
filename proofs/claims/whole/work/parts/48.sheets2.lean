/-! sheets on both: sheet, item, film, copy -/
def wrL (G v : Nat → Int64) (p k : Nat) : Nat → Int64 := fun j => if p ≤ j ∧ j < p + k then v (j - p) else G j
theorem wrL_up {G v : Nat → Int64} {p k : Nat} : vp_updL (wrL G v p k) (p + k) (v k) = wrL G v p (k + 1) := by
  funext j
  by_cases e : j = p + k
  · subst e
    unfold vp_updL wrL
    rw [if_pos rfl, if_pos (by omega), show p + k - p = k by omega]
  · unfold vp_updL wrL
    rw [if_neg e]
    by_cases h1 : p ≤ j ∧ j < p + k
    · rw [if_pos h1, if_pos (by omega)]
    · rw [if_neg h1, if_neg (by omega)]
theorem wrL_0 {G v : Nat → Int64} {p : Nat} : wrL G v p 0 = G := by
  funext j
  unfold wrL
  rw [if_neg (by omega)]
theorem wrL_in {G v : Nat → Int64} {p k j : Nat} (h : j < k) : wrL G v p k (p + j) = v j := by
  unfold wrL
  rw [if_pos (by omega), show p + j - p = j by omega]
theorem wrL_out {G v : Nat → Int64} {p k j : Nat} (h : j < p ∨ p + k ≤ j) : wrL G v p k j = G j := by
  unfold wrL
  rw [if_neg (by omega)]
theorem low_tab : ∀ l, l < 4 → ∀ s, s < 128 → low (nI l) (nI s).toInt64 = (nI s).toInt64 := by decide +kernel
section T8
variable {f g : Nat → Nat} {I : Nat → Nat → Int32} {J : Nat → Nat → Int64}
theorem lp_msheet {t : Nat} {y z : Int32} {q : am_Q} (ht : t < 4) (hq : q (some (.int z)) (I, am_row J 253 (wrL (J 253) (fun _ => 0) (24 * t) 24), am_Rf f g)) : ∀ n k, n + k = 24 → am_u am_sh m_MD_sheet q (am_at am_c_MD_sheet 51) 51 [some (.ref 236), some (.int (nI t)), some (.int y), some (.int z), some (.int (nI k))] [] (I, am_row J 253 (wrL (J 253) (fun _ => 0) (24 * t) k), am_Rf f g) := by
  intro n
  induction n with
  | zero =>
    intro k hk
    obtain rfl : k = 24 := by omega
    exact br_t (nI_le (a := 24) (by omega) (by omega)) (j_MD_sheet hq)
  | succ n ih =>
    intro k hk
    refine br_f (nI_ge (b := 24) (by omega) (by omega)) ⟨253, rfl, rfl, 96, 24 * t + k, rfl, by omega, ?_, j_MD_sheet ?_⟩
    · show nI 24 * nI t + nI k = _
      rw [nI_mul, nI_add]
    · have e := wrL_up (G := J 253) (v := fun _ => 0) (p := 24 * t) (k := k)
      rw [show nI k + 1 = nI (k + 1) from nI_1 k, am_up_rowL, e]
      exact ih (k + 1) (by omega)
theorem T_sheet (x y z : Int32) {σ : am_S} (h : Inv σ) : Both m_MG_sheet m_MD_sheet [.int x, .int y, .int z] σ := by
  obtain ⟨I, J, f, g, rfl, hR, hf, hg, ⟨N, hp⟩, hI, ⟨n, ht⟩, hsh, hby⟩ := h
  have inv0 : Inv (I, J, am_Rf f g) := ⟨I, J, f, g, rfl, hR, hf, hg, ⟨N, hp⟩, hI, ⟨n, ht⟩, hsh, hby⟩
  refine s_MG_sheet ((ev_isSheet x _).rt ⟨fun h1 => j_MG_sheet ⟨-1, rfl, s_MD_sheet ((ev_misSheet x _).rt ⟨fun h2 => j_MD_sheet ⟨rfl, inv0⟩, fun h2 => absurd h1 h2⟩)⟩, fun h1 => ?_⟩)
  refine (ev_isLane y _).rt ⟨fun h2 => j_MG_sheet ⟨-1, rfl, s_MD_sheet ((ev_misSheet x _).rt ⟨fun h3 => absurd h3 h1, fun _ => (ev_in32 y 0 3 _).rt ⟨fun h3 => j_MD_sheet ⟨rfl, inv0⟩, fun h3 => absurd h2 h3⟩⟩)⟩, fun h2 => ⟨fun h3 => j_MG_sheet ⟨fun h4 => j_MG_sheet ?_, fun h4 => ?_⟩, fun h3 => ?_⟩⟩
  · obtain ⟨t, ht4, rfl⟩ := s4_of (of_decide_eq_true (b2i_ne0.mp h1))
    obtain ⟨l, hl4, rfl⟩ := s4_of (of_decide_eq_true (b2i_ne0.mp h2))
    obtain ⟨m, hm, rfl⟩ := nI_of (x := z) (Int32.not_lt.mpr h4)
    have hm24 : m ≤ 24 := (nI_leI (b := 24) hm (by omega)).mp h3
    have hS := Shd_of (f := f) (g := g) ht4
    refine ⟨227, rfl, rfl, 4, t, rfl, ht4, rfl, 228 + 2 * t, Rf_227 ht4, hS.1, (ev_begin hS (nI l) hm24).rv ⟨nI m, rfl, ?_⟩⟩
    refine s_MD_sheet ((ev_misSheet (nI t) _).rt ⟨fun h5 => absurd h5 h1, fun _ => (ev_in32 _ 0 3 _).rt ⟨fun h5 => absurd h5 h2, fun _ => ⟨fun h5 => j_MD_sheet ⟨fun h6 => j_MD_sheet ?_, fun h6 => absurd h4 h6⟩, fun h5 => absurd h3 h5⟩⟩⟩)
    refine ⟨251, rfl, rfl, 4, t, rfl, ht4, rfl, 252, rfl, rfl, 4, t, rfl, ht4, rfl, j_MD_sheet ?_⟩
    have hl := lp_msheet (I := am_up (am_up (am_up (am_up (am_up I (228 + 2 * t) 0 1) (228 + 2 * t) 1 (nI l)) (228 + 2 * t) 2 (nI m)) 251 t (nI l)) 252 t (nI m)) (J := am_row J (228 + 2 * t + 1) (zr (J (228 + 2 * t + 1)) 24)) (f := f) (g := g) (t := t) (y := nI l) (z := nI m) (q := fun r2 σ2 => r2 = some (.int (nI m)) ∧ Inv σ2) ht4 ?_ 24 0 rfl
    · rw [wrL_0, am_row_idL] at hl
      exact hl
    · refine ⟨rfl, Inv.sht hR hf hg hp hI ht hby (fun c c1 c2 c3 c4 => ?_) (fun t' ht' => ?_)⟩
      · rw [up_cell c4, up_cell c3, up_cell (by omega), up_cell (by omega), up_cell (by omega)]
      · by_cases e : t' = t
        · subst e
          refine ⟨m, hm24, ?_, Or.inr ⟨?_, am_up_eq, ?_, ?_, ?_, fun k hk => ?_⟩⟩
          · rw [up_cell (by omega), up_cell (by omega), am_up_eq]
          · rw [up_cell (by omega), up_cell (by omega), am_up_ne (by omega), am_up_ne (by omega), am_up_eq]
          · rw [up_cell (c := 228 + 2 * t') (by omega), up_cell (c := 228 + 2 * t') (by omega), am_up_ne (b := 228 + 2 * t') (by omega), am_up_eq, up_cell (c := 251) (by omega), am_up_eq]
          · rw [up_cell (c := 251) (by omega), am_up_eq]; exact nI_pos' (by omega)
          · rw [up_cell (c := 251) (by omega), am_up_eq]; exact nI_le (b := 3) (by omega) (by omega)
          · rw [am_row_ne (by omega), am_row_eq, am_row_eq, wrL_in hk]
            unfold zr
            rw [if_pos hk]
        · obtain ⟨L', a1, a2, a3⟩ := hsh t' ht'
          have e1 : ∀ {I : Nat → Nat → Int32} {v : Int32}, am_up I 251 t v 251 t' = I 251 t' := fun {I v} => am_up_ne (by omega)
          have e2 : ∀ {I : Nat → Nat → Int32} {v : Int32}, am_up I 252 t v 252 t' = I 252 t' := fun {I v} => am_up_ne (by omega)
          have eb : (am_up (am_up (am_up (am_up (am_up I (228 + 2 * t) 0 1) (228 + 2 * t) 1 (nI l)) (228 + 2 * t) 2 (nI m)) 251 t (nI l)) 252 t (nI m)) (228 + 2 * t') = I (228 + 2 * t') := by
            rw [up_cell (by omega), up_cell (by omega), up_cell (by omega), up_cell (by omega), up_cell (by omega)]
          refine ⟨L', a1, by rw [eb]; exact a2, ?_⟩
          rw [eb, e2, up_cell (c := 252) (by omega), up_cell (c := 252) (by omega), up_cell (c := 252) (by omega), up_cell (c := 252) (by omega), up_cell (c := 251) (by omega), e1, up_cell (c := 251) (by omega), up_cell (c := 251) (by omega), up_cell (c := 251) (by omega)]
          refine a3.imp id (fun a3 => ⟨a3.1, a3.2.1, a3.2.2.1, a3.2.2.2.1, a3.2.2.2.2.1, fun k hk => ?_⟩)
          rw [am_row_ne (by omega), am_row_ne (by omega), am_row_eq, wrL_out (by omega), am_row_ne (by omega)]
          exact a3.2.2.2.2.2 k hk
  · exact ⟨-14, rfl, s_MD_sheet ((ev_misSheet x _).rt ⟨fun h5 => absurd h5 h1, fun _ => (ev_in32 y 0 3 _).rt ⟨fun h5 => absurd h5 h2, fun _ => ⟨fun h5 => j_MD_sheet ⟨fun h6 => absurd h6 h4, fun _ => ⟨rfl, inv0⟩⟩, fun h5 => absurd h3 h5⟩⟩⟩)⟩
  · exact ⟨-1, rfl, s_MD_sheet ((ev_misSheet x _).rt ⟨fun h5 => absurd h5 h1, fun _ => (ev_in32 y 0 3 _).rt ⟨fun h5 => absurd h5 h2, fun _ => ⟨fun h5 => absurd h5 h3, fun _ => ⟨rfl, inv0⟩⟩⟩⟩)⟩
theorem ev_cut (v : Int64) (l : Int32) (σ : am_S) : am_ev am_sh m_MD_cut [.long v, .int l] σ (Rt (.long (low l v)) σ) := by
  obtain ⟨I, J, R⟩ := σ
  refine s_MD_cut ⟨fun h1 => j_MD_cut ⟨fun h2 => j_MD_cut ⟨fun h3 => j_MD_cut ⟨?_, rfl⟩, fun h3 => j_MD_cut ⟨?_, rfl⟩⟩, fun h2 => j_MD_cut ⟨?_, rfl⟩⟩, fun h1 => j_MD_cut ⟨?_, rfl⟩⟩
  · unfold low
    rw [if_neg h1, if_neg h2, if_neg h3]
  · unfold low
    rw [if_neg h1, if_neg h2, if_pos h3]
  · unfold low
    rw [if_neg h1, if_pos h2]
  · unfold low
    rw [if_pos h1]
/-- where nothing is refused -/
theorem rfs_ok {th ln as x : Int32} {L m : Nat} (hL : L ≤ 24) (hm : m < 2 ^ 31) (h : 0 ≤ rfs th ln L as x (nI m)) : ¬ th = 0 ∧ ln = as ∧ ∃ i, x = nI i ∧ i + m ≤ L := by
  unfold rfs at h
  by_cases h1 : th = 0
  · rw [if_pos h1] at h
    exact absurd h (by decide)
  · rw [if_neg h1] at h
    by_cases h2 : ln = as
    · rw [if_neg (fun q => q h2)] at h
      by_cases h3 : spn x (nI m) L = true
      · refine ⟨h1, h2, ?_⟩
        have h3 := of_decide_eq_true h3
        obtain ⟨i, hi, rfl⟩ := nI_of (x := x) (Int32.not_lt.mpr h3.1)
        have h4 := h3.2.2.2
        rw [Int32.le_iff_toInt_le, nI_toInt hm, sub_int hL hi] at h4
        exact ⟨i, rfl, by omega⟩
      · rw [if_neg h3] at h
        exact absurd h (by decide)
    · rw [if_pos h2] at h
      exact absurd h (by decide)
theorem T_item (x y z : Int32) (v : Int64) {σ : am_S} (h : Inv σ) : Both m_MG_item m_MD_item [.int x, .int y, .int z, .long v] σ := by
  obtain ⟨I, J, f, g, rfl, hR, hf, hg, ⟨N, hp⟩, hI, ⟨n, ht⟩, hsh, hby⟩ := h
  have inv0 : Inv (I, J, am_Rf f g) := ⟨I, J, f, g, rfl, hR, hf, hg, ⟨N, hp⟩, hI, ⟨n, ht⟩, hsh, hby⟩
  refine s_MG_item ((ev_isSheet x _).rt ⟨fun h1 => j_MG_item ⟨-1, rfl, s_MD_item ((ev_misSheet x _).rt ⟨fun h2 => j_MD_item ⟨rfl, inv0⟩, fun h2 => absurd h1 h2⟩)⟩, fun h1 => ?_⟩)
  refine (ev_isLane y _).rt ⟨fun h2 => j_MG_item ?_, fun h2 => ⟨-1, rfl, s_MD_item ((ev_misSheet x _).rt ⟨fun h3 => absurd h3 h1, fun _ => (ev_in32 y 0 3 _).rt ⟨fun h3 => absurd h2 h3, fun _ => ⟨rfl, inv0⟩⟩⟩)⟩⟩
  obtain ⟨t, ht4, rfl⟩ := s4_of (of_decide_eq_true (b2i_ne0.mp h1))
  obtain ⟨L, hL⟩ := hsh t ht4
  have hS := Shd_of (f := f) (g := g) ht4
  refine ⟨227, rfl, rfl, 4, t, rfl, ht4, rfl, 228 + 2 * t, Rf_227 ht4, hS.1, (ev_refusal hS hL.2.1 y z 1).rt ⟨fun h3 => j_MG_item ?_, fun h3 => ⟨_, rfl, s_MD_item ((ev_misSheet _ _).rt ⟨fun h4 => absurd h4 h1, fun _ => (ev_in32 y 0 3 _).rt ⟨fun _ => j_MD_item ⟨rfl, (ev_why (m := 1) y z ht4 hL.i (by omega)).rt ⟨fun h5 => absurd h5 h3, fun _ => ⟨rfl, inv0⟩⟩⟩, fun h4 => absurd h4 h2⟩⟩)⟩⟩⟩
  obtain ⟨r1, r2, i, rfl, ri⟩ := rfs_ok (m := 1) hL.1 (by omega) h3
  refine ⟨227, rfl, rfl, 4, t, rfl, ht4, rfl, 228 + 2 * t, Rf_227 ht4, hS.1, (ev_put hS hL.2.1 hL.1 (by omega) v).rv ⟨1, rfl, s_MD_item ((ev_misSheet _ _).rt ⟨fun h4 => absurd h4 h1, fun _ => (ev_in32 y 0 3 _).rt ⟨fun _ => j_MD_item ⟨rfl, ?_⟩, fun h4 => absurd h4 h2⟩⟩)⟩⟩
  obtain ⟨l1, l2, l3⟩ := id hL
  rcases l3 with ⟨k1, _⟩ | ⟨k1, k2, k3, k4, k5, k6⟩
  · exact absurd k1 r1
  refine (ev_why (m := 1) y (nI i) ht4 hL.i (by omega)).rt ⟨fun _ => j_MD_item ⟨253, rfl, rfl, (ev_cut v y _).rt ?_⟩, fun h5 => absurd h3 h5⟩
  refine ⟨96, 24 * t + i, rfl, by omega, by show nI 24 * nI t + nI i = _; rw [nI_mul, nI_add], rfl, Inv.sht hR hf hg hp hI ht hby (fun c c1 c2 c3 c4 => rfl) (fun t' ht' => ?_)⟩
  by_cases e : t' = t
  · subst e
    refine ⟨L, l1, l2, Or.inr ⟨k1, k2, k3, k4, k5, fun k hk => ?_⟩⟩
    by_cases ek : k = i
    · subst ek
      rw [am_up_ne (by omega), am_up_eq, am_up_eq, r2]
    · rw [am_up_ne (by omega), am_up_ne (by omega), am_up_ne (by omega), am_up_ne (by omega)]
      exact k6 k hk
  · obtain ⟨L', a1, a2, a3⟩ := hsh t' ht'
    refine ⟨L', a1, a2, a3.imp id (fun a3 => ⟨a3.1, a3.2.1, a3.2.2.1, a3.2.2.2.1, a3.2.2.2.2.1, fun k hk => ?_⟩)⟩
    rw [am_up_ne (by omega), am_up_ne (by omega), am_up_ne (by omega), am_up_ne (by omega)]
    exact a3.2.2.2.2.2 k hk
theorem i5L (i k : Nat) : nI i + nI k = nI (i + k) := nI_add i k
theorem lp_film {t L i M : Nat} {gs : Nat → Nat} {x y : Int32} {q : am_Q} (ht : t < 4) (hL : I (228 + 2 * t) 2 = nI L) (h24 : L ≤ 24) (hi : i + M ≤ L) (hM : I 1 1 = nI M) (h12 : M ≤ 12) (hG : ∀ k, k < M → I 2 k = nI (gs k) ∧ gs k < 128) (hl : 0 ≤ I (228 + 2 * t) 1 ∧ I (228 + 2 * t) 1 ≤ 3) (hq : q (some (.int (nI M))) (I, am_row J (228 + 2 * t + 1) (wrL (J (228 + 2 * t + 1)) (fun k => (nI (gs k)).toInt64) i M), am_Rf f g)) : ∀ n k, n + k = M → am_u am_sh m_MG_film q (am_at am_c_MG_film 47) 47 [some (.ref 0), some (.int (nI t)), some (.int x), some (.int (nI i)), some (.int y), some (.int (nI k))] [] (I, am_row J (228 + 2 * t + 1) (wrL (J (228 + 2 * t + 1)) (fun k => (nI (gs k)).toInt64) i k), am_Rf f g) := by
  have hS := Shd_of (f := f) (g := g) ht
  obtain ⟨l, hl4, hle⟩ := s4_of hl
  intro n
  induction n with
  | zero =>
    intro k hk
    obtain rfl : k = M := by omega
    refine ⟨1, rfl, rfl, rfl, br_t (by rw [hM]; exact nI_le (by omega) (by omega)) (j_MG_film ⟨1, rfl, rfl, rfl, ?_⟩)⟩
    show q (some (.int (I 1 1))) _
    rw [hM]
    exact hq
  | succ n ih =>
    intro k hk
    refine ⟨1, rfl, rfl, rfl, br_f (by rw [hM]; exact nI_ge (by omega) (by omega)) ⟨227, rfl, rfl, 4, t, rfl, ht, rfl, 228 + 2 * t, Rf_227 ht, 1, rfl, rfl, 2, rfl, rfl, 12, k, rfl, by omega, rfl, hS.1, ?_⟩⟩
    show am_ev am_sh m_Sh_put [.ref (228 + 2 * t), .int (nI i + nI k), .long (I 2 k).toInt64] _ _
    rw [nI_add, (hG k (by omega)).1]
    refine (ev_put hS hL h24 (by omega) _).rv (j_MG_film ?_)
    have e := wrL_up (G := J (228 + 2 * t + 1)) (v := fun k => (nI (gs k)).toInt64) (p := i) (k := k)
    rw [show nI k + 1 = nI (k + 1) from nI_1 k, am_up_rowL, hle, low_tab l hl4 _ (hG k (by omega)).2, e]
    exact ih (k + 1) (by omega)
theorem lp_mfilm {t i M : Nat} {gs : Nat → Nat} {x y : Int32} {q : am_Q} (ht : t < 4) (hi : i + M ≤ 24) (hM : I 237 1 = nI M) (h12 : M ≤ 12) (hG : ∀ k, k < M → I 237 (4 + k) = nI (gs k)) (hq : q (some (.int (nI M))) (I, am_row J 253 (wrL (J 253) (fun k => (nI (gs k)).toInt64) (24 * t + i) M), am_Rf f g)) : ∀ n k, n + k = M → am_u am_sh m_MD_film q (am_at am_c_MD_film 47) 47 [some (.ref 236), some (.int (nI t)), some (.int x), some (.int (nI i)), some (.int y), some (.int (nI k))] [] (I, am_row J 253 (wrL (J 253) (fun k => (nI (gs k)).toInt64) (24 * t + i) k), am_Rf f g) := by
  intro n
  induction n with
  | zero =>
    intro k hk
    obtain rfl : k = M := by omega
    refine ⟨237, rfl, rfl, 116, 1, rfl, by omega, rfl, br_t (by rw [hM]; exact nI_le (by omega) (by omega)) (j_MD_film ⟨237, rfl, rfl, 116, 1, rfl, by omega, rfl, ?_⟩)⟩
    show q (some (.int (I 237 1))) _
    rw [hM]
    exact hq
  | succ n ih =>
    intro k hk
    refine ⟨237, rfl, rfl, 116, 1, rfl, by omega, rfl, br_f (by rw [hM]; exact nI_ge (by omega) (by omega)) ⟨253, rfl, rfl, rfl, (ev_mat (by omega)).rt ⟨96, 24 * t + i + k, rfl, by omega, by show nI 24 * nI t + nI i + nI k = _; rw [nI_mul, nI_add, nI_add], j_MD_film ?_⟩⟩⟩
    have e := wrL_up (G := J 253) (v := fun k => (nI (gs k)).toInt64) (p := 24 * t + i) (k := k)
    rw [show nI k + 1 = nI (k + 1) from nI_1 k, am_up_rowL, hG k (by omega), e]
    exact ih (k + 1) (by omega)
theorem T_film (x y z : Int32) {σ : am_S} (h : Inv σ) : Both m_MG_film m_MD_film [.int x, .int y, .int z] σ := by
  obtain ⟨I, J, f, g, rfl, ⟨n0, M, K, gs, hR⟩, hf, hg, ⟨N, hp⟩, hI, ⟨n, ht⟩, hsh, hby⟩ := h
  have inv0 : Inv (I, J, am_Rf f g) := ⟨I, J, f, g, rfl, ⟨n0, M, K, gs, hR⟩, hf, hg, ⟨N, hp⟩, hI, ⟨n, ht⟩, hsh, hby⟩
  obtain ⟨⟨n1, n2, n3, n4⟩, ⟨m1, m2, m3⟩, hgs, _⟩ := id hR
  have h7 := pow_le7 (n := n0) (by omega)
  refine s_MG_film ((ev_isSheet x _).rt ⟨fun h1 => j_MG_film ⟨-1, rfl, s_MD_film ((ev_misSheet x _).rt ⟨fun h2 => j_MD_film ⟨rfl, inv0⟩, fun h2 => absurd h1 h2⟩)⟩, fun h1 => ?_⟩)
  refine (ev_isLane y _).rt ⟨fun h2 => j_MG_film ?_, fun h2 => ⟨-1, rfl, s_MD_film ((ev_misSheet x _).rt ⟨fun h3 => absurd h3 h1, fun _ => (ev_in32 y 0 3 _).rt ⟨fun h3 => absurd h2 h3, fun _ => ⟨rfl, inv0⟩⟩⟩)⟩⟩
  obtain ⟨t, ht4, rfl⟩ := s4_of (of_decide_eq_true (b2i_ne0.mp h1))
  obtain ⟨L, hL⟩ := hsh t ht4
  have hS := Shd_of (f := f) (g := g) ht4
  refine ⟨227, rfl, rfl, 4, t, rfl, ht4, rfl, 228 + 2 * t, Rf_227 ht4, 1, rfl, rfl, rfl, hS.1, ?_⟩
  show am_ev am_sh m_Sh_refusal [.ref (228 + 2 * t), .int y, .int z, .int (I 1 1)] _ _
  rw [m1]
  have why : ∀ {J' : Nat → Nat → Int64} {q : am_Q}, am_u am_sh m_MD_film q (am_at am_c_MD_film 34) 34 [some (.ref 236), some (.int (nI t)), some (.int y), some (.int z), none, none] [.int (rfs (I (228 + 2 * t) 0) (I (228 + 2 * t) 1) L y z (nI M))] (I, J', am_Rf f g) → am_ev am_sh m_MD_film [.ref 236, .int (nI t), .int y, .int z] (I, J', am_Rf f g) q := by
    intro J' q hq
    refine s_MD_film ((ev_misSheet _ _).rt ⟨fun h4 => absurd h4 h1, fun _ => (ev_in32 y 0 3 _).rt ⟨fun _ => j_MD_film ⟨237, rfl, rfl, 116, 1, rfl, by omega, rfl, rfl, ?_⟩, fun h4 => absurd h4 h2⟩⟩)
    show am_ev am_sh m_MD_why [.ref 236, .int (nI t), .int y, .int z, .int (I 237 1)] _ _
    rw [m2]
    exact (ev_why y z ht4 hL.i (by omega)).rt hq
  refine (ev_refusal hS hL.2.1 y z (nI M)).rt ⟨fun h3 => j_MG_film (j_MG_film ?_), fun h3 => ⟨_, rfl, why ⟨fun h5 => absurd h5 h3, fun _ => ⟨rfl, inv0⟩⟩⟩⟩
  obtain ⟨r1, r2, i, rfl, ri⟩ := rfs_ok hL.1 (by omega) h3
  obtain ⟨l1, l2, l3⟩ := id hL
  rcases l3 with ⟨k1, _⟩ | ⟨k1, k2, k3, k4, k5, k6⟩
  · exact absurd k1 r1
  have hl := lp_film (I := I) (J := J) (f := f) (g := g) (t := t) (L := L) (i := i) (M := M) (gs := gs) (x := y) (y := rfs (I (228 + 2 * t) 0) (I (228 + 2 * t) 1) L y (nI i) (nI M)) (q := fun r σ1 => ∃ x, r = some (.int x) ∧ am_ev am_sh m_MD_film [.ref 236, .int (nI t), .int y, .int (nI i)] σ1 (fun r2 σ2 => r2 = some (.int x) ∧ Inv σ2)) ht4 l2 l1 ri m1 m3 (fun k hk => ⟨(hgs k hk).1, by have := (hgs k hk).2.2.2; omega⟩) (by rw [k3]; exact ⟨k4, k5⟩) ?_ M 0 rfl
  · rw [wrL_0, am_row_idL] at hl
    exact hl
  · refine ⟨nI M, rfl, why ⟨fun _ => j_MD_film (j_MD_film ?_), fun h5 => absurd h3 h5⟩⟩
    have hl := lp_mfilm (I := I) (J := am_row J (228 + 2 * t + 1) (wrL (J (228 + 2 * t + 1)) (fun k => (nI (gs k)).toInt64) i M)) (f := f) (g := g) (t := t) (i := i) (M := M) (gs := gs) (x := y) (y := rfs (I (228 + 2 * t) 0) (I (228 + 2 * t) 1) L y (nI i) (nI M)) (q := fun r2 σ2 => r2 = some (.int (nI M)) ∧ Inv σ2) ht4 (by omega) m2 m3 (fun k hk => (hgs k hk).2.1) ?_ M 0 rfl
    · rw [wrL_0, am_row_idL] at hl
      exact hl
    · refine ⟨rfl, Inv.sht ⟨n0, M, K, gs, hR⟩ hf hg hp hI ht hby (fun c c1 c2 c3 c4 => rfl) (fun t' ht' => ?_)⟩
      by_cases e : t' = t
      · subst e
        refine ⟨L, l1, l2, Or.inr ⟨k1, k2, k3, k4, k5, fun k hk => ?_⟩⟩
        rw [am_row_ne (by omega), am_row_eq, am_row_eq, row_cell (c := 253) (by omega)]
        by_cases ek : i ≤ k ∧ k < i + M
        · obtain ⟨d, rfl⟩ : ∃ d, k = i + d := ⟨k - i, by omega⟩
          rw [wrL_in (by omega), show 24 * t' + (i + d) = 24 * t' + i + d by omega, wrL_in (by omega)]
        · rw [wrL_out (by omega), wrL_out (by omega)]
          exact k6 k hk
      · obtain ⟨L', a1, a2, a3⟩ := hsh t' ht'
        refine ⟨L', a1, a2, a3.imp id (fun a3 => ⟨a3.1, a3.2.1, a3.2.2.1, a3.2.2.2.1, a3.2.2.2.2.1, fun k hk => ?_⟩)⟩
        rw [am_row_ne (by omega), am_row_ne (by omega), am_row_eq, wrL_out (by omega), am_row_ne (by omega)]
        exact a3.2.2.2.2.2 k hk
end T8
