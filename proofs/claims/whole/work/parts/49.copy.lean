/-! copy on both -/
section T9
variable {f g : Nat → Nat} {I : Nat → Nat → Int32} {J : Nat → Nat → Int64}
theorem vupL_0 {G v : Nat → Int64} {k : Nat} : vp_updL (wrL G v 0 k) k (v k) = wrL G v 0 (k + 1) := by
  have := wrL_up (G := G) (v := v) (p := 0) (k := k)
  rw [Nat.zero_add] at this
  exact this
theorem lp_copy1 {t u i j m : Nat} {q : am_Q} (ht : t < 4) (hi : i + m ≤ 24) (hq : am_run am_sh m_MD_copy q 144 [some (.ref 236), some (.int (nI t)), some (.int (nI i)), some (.int (nI u)), some (.int (nI j)), some (.int (nI m)), some (.int (nI m))] [] (I, am_row J 254 (wrL (J 254) (fun k => J 253 (24 * t + i + k)) 0 m), am_Rf f g)) : ∀ n k, n + k = m → am_u am_sh m_MD_copy q (am_at am_c_MD_copy 110) 110 [some (.ref 236), some (.int (nI t)), some (.int (nI i)), some (.int (nI u)), some (.int (nI j)), some (.int (nI m)), some (.int (nI k))] [] (I, am_row J 254 (wrL (J 254) (fun k => J 253 (24 * t + i + k)) 0 k), am_Rf f g) := by
  intro n
  induction n with
  | zero =>
    intro k hk
    obtain rfl : k = m := by omega
    exact br_t (nI_le (by omega) (by omega)) hq
  | succ n ih =>
    intro k hk
    refine br_f (nI_ge (by omega) (by omega)) ⟨254, rfl, rfl, 253, rfl, rfl, 96, 24 * t + i + k, rfl, by omega, by show nI 24 * nI t + nI i + nI k = _; rw [nI_mul, nI_add, nI_add], 24, k, rfl, by omega, rfl, j_MD_copy ?_⟩
    have e := vupL_0 (G := J 254) (v := fun k => J 253 (24 * t + i + k)) (k := k)
    rw [show nI k + 1 = nI (k + 1) from nI_1 k, am_up_rowL, am_row_ne (by omega), e]
    exact ih (k + 1) (by omega)
theorem lp_copy2 {t u i j m : Nat} {q : am_Q} (hu : u < 4) (hj : j + m ≤ 24) (hq : q (some (.int (nI m))) (I, am_row J 253 (wrL (J 253) (J 254) (24 * u + j) m), am_Rf f g)) : ∀ n k, n + k = m → am_u am_sh m_MD_copy q (am_at am_c_MD_copy 147) 147 [some (.ref 236), some (.int (nI t)), some (.int (nI i)), some (.int (nI u)), some (.int (nI j)), some (.int (nI m)), some (.int (nI k))] [] (I, am_row J 253 (wrL (J 253) (J 254) (24 * u + j) k), am_Rf f g) := by
  intro n
  induction n with
  | zero =>
    intro k hk
    obtain rfl : k = m := by omega
    exact br_t (nI_le (by omega) (by omega)) (j_MD_copy hq)
  | succ n ih =>
    intro k hk
    refine br_f (nI_ge (by omega) (by omega)) ⟨253, rfl, rfl, 254, rfl, rfl, 24, k, rfl, by omega, rfl, 96, 24 * u + j + k, rfl, by omega, by show nI 24 * nI u + nI j + nI k = _; rw [nI_mul, nI_add, nI_add], j_MD_copy ?_⟩
    rw [show nI k + 1 = nI (k + 1) from nI_1 k, am_up_rowL, am_row_ne (by omega), wrL_up]
    exact ih (k + 1) (by omega)
theorem add64 {i m L : Nat} (hi : i < 2 ^ 31) (hm : m < 2 ^ 31) (hL : L ≤ 24) : 0 < lg_cmp ((nI i).toInt64 + (nI m).toInt64) (nI L).toInt64 ↔ L < i + m := by
  have hle := @lgc_le ((nI i).toInt64 + (nI m).toInt64) (nI L).toInt64
  have e : (nI i).toInt64 + (nI m).toInt64 ≤ (nI L).toInt64 ↔ i + m ≤ L := by
    rw [Int64.le_iff_toInt_le, Int64.toInt_add, Int32.toInt_toInt64, Int32.toInt_toInt64, Int32.toInt_toInt64, nI_toInt hi, nI_toInt hm, nI_toInt (by omega), Int.bmod_def]
    split <;> omega
  rw [← Int32.not_le, hle, e]
  omega
theorem spn_ok {x z : Int32} {L : Nat} (hL : L ≤ 24) (h : spn x z L = true) : ∃ i m, x = nI i ∧ z = nI m ∧ i + m ≤ L := by
  have h := of_decide_eq_true h
  obtain ⟨i, hi, rfl⟩ := nI_of (x := x) (Int32.not_lt.mpr h.1)
  obtain ⟨m, hm, rfl⟩ := nI_of (x := z) (Int32.not_lt.mpr h.2.2.1)
  have h4 := h.2.2.2
  rw [Int32.le_iff_toInt_le, nI_toInt hm, sub_int hL hi] at h4
  exact ⟨i, m, rfl, rfl, by omega⟩
theorem spn_no {i m L : Nat} (hL : L ≤ 24) (hi : i < 2 ^ 31) (hm : m < 2 ^ 31) (h : ¬ spn (nI i) (nI m) L = true) : L < i + m := by
  rcases Nat.lt_or_ge L (i + m) with q | q
  · exact q
  · refine absurd (decide_eq_true ⟨nI_pos' hi, nI_le (by omega) (by omega), nI_pos' hm, ?_⟩) h
    rw [Int32.le_iff_toInt_le, nI_toInt hm, sub_int hL hi]
    omega
theorem T_copy (x y z w v : Int32) {σ : am_S} (h : Inv σ) : Both m_MG_copy m_MD_copy [.int x, .int y, .int z, .int w, .int v] σ := by
  obtain ⟨I, J, f, g, rfl, hR, hf, hg, ⟨N, hp⟩, hI, ⟨n, ht⟩, hsh, hby⟩ := h
  have inv0 : Inv (I, J, am_Rf f g) := ⟨I, J, f, g, rfl, hR, hf, hg, ⟨N, hp⟩, hI, ⟨n, ht⟩, hsh, hby⟩
  refine s_MG_copy ((ev_isSheet x _).rt ⟨fun h1 => j_MG_copy ⟨-1, rfl, s_MD_copy ((ev_misSheet x _).rt ⟨fun h2 => j_MD_copy ⟨rfl, inv0⟩, fun h2 => absurd h1 h2⟩)⟩, fun h1 => ?_⟩)
  refine (ev_isSheet z _).rt ⟨fun h2 => j_MG_copy ?_, fun h2 => ⟨-1, rfl, s_MD_copy ((ev_misSheet x _).rt ⟨fun h3 => absurd h3 h1, fun _ => (ev_misSheet z _).rt ⟨fun h3 => absurd h2 h3, fun _ => ⟨rfl, inv0⟩⟩⟩)⟩⟩
  obtain ⟨t, ht4, rfl⟩ := s4_of (of_decide_eq_true (b2i_ne0.mp h1))
  obtain ⟨u, hu4, rfl⟩ := s4_of (of_decide_eq_true (b2i_ne0.mp h2))
  obtain ⟨L, l1, l2, l3⟩ := hsh t ht4
  obtain ⟨L', b1, b2, b3⟩ := hsh u hu4
  have hS := Shd_of (f := f) (g := g) ht4
  have hU := Shd_of (f := f) (g := g) hu4
  have start : ∀ {J' : Nat → Nat → Int64} {q : am_Q}, am_run am_sh m_MD_copy q 16 [some (.ref 236), some (.int (nI t)), some (.int y), some (.int (nI u)), some (.int w), some (.int v), none] [] (I, J', am_Rf f g) → am_ev am_sh m_MD_copy [.ref 236, .int (nI t), .int y, .int (nI u), .int w, .int v] (I, J', am_Rf f g) q := fun {J' q} hq => s_MD_copy ((ev_misSheet _ _).rt ⟨fun h3 => absurd h3 h1, fun _ => (ev_misSheet _ _).rt ⟨fun _ => hq, fun h3 => absurd h3 h2⟩⟩)
  refine ⟨227, rfl, rfl, 4, t, rfl, ht4, rfl, 228 + 2 * t, Rf_227 ht4, 227, rfl, rfl, 4, u, rfl, hu4, rfl, 228 + 2 * u, Rf_227 hu4, hS.1, ?_⟩
  rcases l3 with ⟨k1, k2⟩ | ⟨k1, k2, k3, k4, k5, k6⟩
  · refine br_t k1 (j_MG_copy ⟨-11, rfl, start (j_MD_copy ⟨251, rfl, rfl, 4, t, rfl, ht4, rfl, br_t (by rw [k2]; decide) (j_MD_copy ⟨rfl, inv0⟩)⟩)⟩)
  refine br_f (by rw [k1]; decide) ⟨hU.1, ?_⟩
  rcases b3 with ⟨d1, d2⟩ | ⟨d1, d2, d3, d4, d5, d6⟩
  · refine ⟨fun q => absurd d1 q, fun _ => ⟨-11, rfl, start (j_MD_copy ⟨251, rfl, rfl, 4, t, rfl, ht4, rfl, br_f (Int32.not_lt.mpr k4) ⟨251, rfl, rfl, 4, u, rfl, hu4, rfl, br_f (by rw [d2]; decide) ⟨rfl, inv0⟩⟩⟩)⟩⟩
  refine ⟨fun _ => j_MG_copy ⟨hS.1, hU.1, ?_⟩, fun q => absurd q (by rw [d1]; decide)⟩
  have start2 : ∀ {J' : Nat → Nat → Int64} {q : am_Q}, am_run am_sh m_MD_copy q 37 [some (.ref 236), some (.int (nI t)), some (.int y), some (.int (nI u)), some (.int w), some (.int v), none] [] (I, J', am_Rf f g) → am_ev am_sh m_MD_copy [.ref 236, .int (nI t), .int y, .int (nI u), .int w, .int v] (I, J', am_Rf f g) q := fun {J' q} hq => start (j_MD_copy ⟨251, rfl, rfl, 4, t, rfl, ht4, rfl, br_f (Int32.not_lt.mpr k4) ⟨251, rfl, rfl, 4, u, rfl, hu4, rfl, br_t d4 hq⟩⟩)
  refine ⟨fun hl => j_MG_copy ?_, fun hl => ⟨-12, rfl, start2 (j_MD_copy ⟨251, rfl, rfl, 4, t, rfl, ht4, rfl, 251, rfl, rfl, 4, u, rfl, hu4, rfl, fun q => absurd (k3.trans (q.trans d3.symm)) hl, fun _ => ⟨rfl, inv0⟩⟩)⟩⟩
  have start3 : ∀ {J' : Nat → Nat → Int64} {q : am_Q}, am_run am_sh m_MD_copy q 55 [some (.ref 236), some (.int (nI t)), some (.int y), some (.int (nI u)), some (.int w), some (.int v), none] [] (I, J', am_Rf f g) → am_ev am_sh m_MD_copy [.ref 236, .int (nI t), .int y, .int (nI u), .int w, .int v] (I, J', am_Rf f g) q := fun {J' q} hq => start2 (j_MD_copy ⟨251, rfl, rfl, 4, t, rfl, ht4, rfl, 251, rfl, rfl, 4, u, rfl, hu4, rfl, br_t (k3.symm.trans (hl.trans d3)) hq⟩)
  have bad : ¬ (spn y v L = true ∧ spn w v L' = true) → am_ev am_sh m_MD_copy [.ref 236, .int (nI t), .int y, .int (nI u), .int w, .int v] (I, J, am_Rf f g) (fun r2 σ2 => r2 = some (.int (-13)) ∧ Inv σ2) := by
    intro hn
    refine start3 (j_MD_copy ⟨fun _ => j_MD_copy ⟨rfl, inv0⟩, fun q1 => ⟨fun _ => j_MD_copy ⟨rfl, inv0⟩, fun q2 => ⟨fun _ => j_MD_copy ⟨rfl, inv0⟩, fun q3 => ?_⟩⟩⟩)
    obtain ⟨m, hm, rfl⟩ := nI_of q1
    obtain ⟨i, hi, rfl⟩ := nI_of q2
    obtain ⟨j, hj, rfl⟩ := nI_of q3
    refine ⟨252, rfl, rfl, 4, t, rfl, ht4, rfl, fun _ => j_MD_copy ⟨rfl, inv0⟩, fun q4 => ⟨252, rfl, rfl, 4, u, rfl, hu4, rfl, fun q5 => ?_, fun _ => ⟨rfl, inv0⟩⟩⟩
    rw [k2, add64 hi hm l1] at q4
    rw [d2, ← Int32.not_lt, add64 hj hm b1] at q5
    refine absurd ⟨?_, ?_⟩ hn
    · rcases h : spn (nI i) (nI m) L with _ | _
      · exact absurd (spn_no l1 hi hm (by rw [h]; decide)) q4
      · rfl
    · rcases h : spn (nI j) (nI m) L' with _ | _
      · exact absurd (spn_no b1 hj hm (by rw [h]; decide)) q5
      · rfl
  refine ⟨hS.1, (ev_spans hS l2 y v).rt ⟨fun q => j_MG_copy ⟨-13, rfl, bad (fun h => absurd h.1 (by rw [b2i_eq0.mp q]; decide))⟩, fun q => ⟨hU.1, (ev_spans hU b2 w v).rt ⟨fun q' => j_MG_copy ?_, fun q' => ⟨-13, rfl, bad (fun h => absurd h.2 (by rw [b2i_eq0.mp q']; decide))⟩⟩⟩⟩⟩
  obtain ⟨i, m, rfl, rfl, him⟩ := spn_ok l1 (b2i_ne0.mp q)
  obtain ⟨j, m', rfl, hmm, hjm⟩ := spn_ok b1 (b2i_ne0.mp q')
  obtain rfl : m = m' := (nI_eq (by omega) (by omega)).mp hmm
  refine ⟨228 + 2 * t + 1, hS.1, hS.2.1, 228 + 2 * u + 1, hU.1, hU.2.1, 24, 24, i, j, m, hS.2.2, hU.2.2, by omega, by omega, rfl, rfl, rfl, nI m, rfl, ?_⟩
  refine start3 (j_MD_copy (br_f (nI_pos (by omega)) (br_f (nI_pos (by omega)) (br_f (nI_pos (by omega)) ⟨252, rfl, rfl, 4, t, rfl, ht4, rfl, br_f (by rw [k2, add64 (by omega) (by omega) l1]; omega) ⟨252, rfl, rfl, 4, u, rfl, hu4, rfl, br_t (by rw [d2, ← Int32.not_lt, add64 (by omega) (by omega) b1]; omega) (j_MD_copy (j_MD_copy ?_))⟩⟩))))
  have h1' := lp_copy1 (I := I) (J := am_row J (228 + 2 * u + 1) (va_cpy (J (228 + 2 * t + 1)) (J (228 + 2 * u + 1)) i j m)) (f := f) (g := g) (t := t) (u := u) (i := i) (j := j) (m := m) (q := fun r2 σ2 => r2 = some (.int (nI m)) ∧ Inv σ2) ht4 (by omega) ?_ m 0 (by omega)
  · rw [wrL_0, am_row_idL] at h1'
    exact h1'
  refine j_MD_copy (j_MD_copy ?_)
  have h2' := lp_copy2 (I := I) (J := am_row (am_row J (228 + 2 * u + 1) (va_cpy (J (228 + 2 * t + 1)) (J (228 + 2 * u + 1)) i j m)) 254 (wrL (am_row J (228 + 2 * u + 1) (va_cpy (J (228 + 2 * t + 1)) (J (228 + 2 * u + 1)) i j m) 254) (fun k => am_row J (228 + 2 * u + 1) (va_cpy (J (228 + 2 * t + 1)) (J (228 + 2 * u + 1)) i j m) 253 (24 * t + i + k)) 0 m)) (f := f) (g := g) (t := t) (u := u) (i := i) (j := j) (m := m) (q := fun r2 σ2 => r2 = some (.int (nI m)) ∧ Inv σ2) hu4 (by omega) ?_ m 0 (by omega)
  · rw [wrL_0, am_row_idL] at h2'
    exact h2'
  refine ⟨rfl, Inv.sht hR hf hg hp hI ht hby (fun c c1 c2 c3 c4 => rfl) (fun t' ht' => ?_)⟩
  by_cases e : t' = u
  · subst e
    refine ⟨L', b1, b2, Or.inr ⟨d1, d2, d3, d4, d5, fun k hk => ?_⟩⟩
    rw [am_row_ne (by omega), am_row_ne (by omega), am_row_eq, am_row_eq]
    by_cases ek : j ≤ k ∧ k < j + m
    · obtain ⟨d, rfl⟩ : ∃ d, k = j + d := ⟨k - j, by omega⟩
      rw [pk_cpy_in (by omega) (by omega), show 24 * t' + (j + d) = 24 * t' + j + d by omega, wrL_in (by omega), am_row_eq, show j + d - j = d by omega]
      have := wrL_in (G := am_row J (228 + 2 * t' + 1) (va_cpy (J (228 + 2 * t + 1)) (J (228 + 2 * t' + 1)) i j m) 254) (v := fun k => am_row J (228 + 2 * t' + 1) (va_cpy (J (228 + 2 * t + 1)) (J (228 + 2 * t' + 1)) i j m) 253 (24 * t + i + k)) (p := 0) (k := m) (j := d) (by omega)
      rw [Nat.zero_add] at this
      rw [this, am_row_ne (by omega), k6 (i + d) (by omega), show 24 * t + (i + d) = 24 * t + i + d by omega]
    · rw [pk_cpy_out (by omega), wrL_out (by omega), am_row_ne (by omega), am_row_ne (by omega)]
      exact d6 k hk
  · obtain ⟨L', a1, a2, a3⟩ := hsh t' ht'
    refine ⟨L', a1, a2, a3.imp id (fun a3 => ⟨a3.1, a3.2.1, a3.2.2.1, a3.2.2.2.1, a3.2.2.2.2.1, fun k hk => ?_⟩)⟩
    rw [am_row_ne (by omega), am_row_ne (by omega), am_row_ne (by omega), am_row_eq, wrL_out (by omega), am_row_ne (by omega), am_row_ne (by omega)]
    exact a3.2.2.2.2.2 k hk
end T9
