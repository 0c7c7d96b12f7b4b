/-! what on both: the theorem -/
theorem T_what (x y z u : Int32) {σ : am_S} (h : Inv σ) : Both m_MG_what m_MD_what [.int x, .int y, .int z, .int u] σ := by
  obtain ⟨I, J, f, g, rfl, ⟨n, M, K, gs, hR⟩, hrest⟩ := h
  have inv0 : Inv (I, J, am_Rf f g) := ⟨I, J, f, g, rfl, ⟨n, M, K, gs, hR⟩, hrest⟩
  obtain ⟨⟨n1, n2, n3, n4⟩, ⟨m1, m2, m3⟩, hgs, _⟩ := id hR
  have h8 : n < 8 := by omega
  have h7 := pow_le7 h8
  have bad : ¬ ((0 ≤ x ∧ x ≤ 3) ∧ (0 ≤ y ∧ y ≤ 3) ∧ (1 ≤ u ∧ u ≤ 12)) → am_ev am_sh m_MD_what [.ref 236, .int x, .int y, .int z, .int u] (I, J, am_Rf f g) (fun r2 σ2 => r2 = some (.int (-1)) ∧ Inv σ2) := by
    intro hx
    refine s_MD_what ((ev_misSheet x _).rt ⟨fun q => j_MD_what ⟨rfl, inv0⟩, fun q1 => (ev_in32 y 0 3 _).rt ⟨fun q => j_MD_what ⟨rfl, inv0⟩, fun q2 => (ev_in32 u 1 12 _).rt ⟨fun q3 => absurd ⟨of_decide_eq_true (b2i_ne0.mp q1), of_decide_eq_true (b2i_ne0.mp q2), of_decide_eq_true (b2i_ne0.mp q3)⟩ hx, fun _ => ⟨rfl, inv0⟩⟩⟩⟩)
  refine s_MG_what ((ev_isSheet x _).rt ⟨fun h1 => j_MG_what ⟨-1, rfl, bad (fun q => absurd (decide_eq_true q.1) (by rw [b2i_eq0.mp h1]; decide))⟩, fun h1 => (ev_isLane y _).rt ⟨fun h2 => j_MG_what ⟨-1, rfl, bad (fun q => absurd (decide_eq_true q.2.1) (by rw [b2i_eq0.mp h2]; decide))⟩, fun h2 => ⟨fun h3 => j_MG_what ⟨-1, rfl, bad (fun q => absurd q.2.2.1 (Int32.not_le.mpr h3))⟩, fun h3 => ⟨fun h4 => j_MG_what ?_, fun h4 => ⟨-1, rfl, bad (fun q => h4 q.2.2.2)⟩⟩⟩⟩⟩)
  have hu : 1 ≤ u ∧ u ≤ 12 := ⟨Int32.not_lt.mp h3, h4⟩
  obtain ⟨N, hN, rfl⟩ := nI_of (x := u) (fun q => absurd q (Int32.not_lt.mpr (Int32.le_trans (by decide) hu.1)))
  have hN1 : 1 ≤ N := (nI_leI (a := 1) (by omega) (by omega)).mp hu.1
  have hN12 : N ≤ 12 := (nI_leI (b := 12) (by omega) (by omega)).mp hu.2
  obtain ⟨t, ht4, rfl⟩ := s4_of (of_decide_eq_true (b2i_ne0.mp h1))
  obtain ⟨L, hL⟩ := hrest.2.2.2.2.2.1 t ht4
  have hS := Shd_of (f := f) (g := g) ht4
  have why : ∀ {I' : Nat → Nat → Int32} {q : am_Q}, (∀ c, 227 ≤ c → I' c = I c) → am_u am_sh m_MD_what q (am_at am_c_MD_what 43) 43 [some (.ref 236), some (.int (nI t)), some (.int y), some (.int z), some (.int (nI N)), none, none, none, none] [.int (rfs (I (228 + 2 * t) 0) (I (228 + 2 * t) 1) L y z (nI N))] (I', J, am_Rf f g) → am_ev am_sh m_MD_what [.ref 236, .int (nI t), .int y, .int z, .int (nI N)] (I', J, am_Rf f g) q := by
    intro I' q hI' hq
    have hL' : Shi I' t L := by
      have := hL.i
      unfold Shi at this ⊢
      rw [hI' _ (by omega), hI' 251 (by omega), hI' 252 (by omega)]
      exact this
    refine s_MD_what ((ev_misSheet _ _).rt ⟨fun q => absurd q h1, fun _ => (ev_in32 y 0 3 _).rt ⟨fun q => absurd q h2, fun _ => (ev_in32 _ 1 12 _).rt ⟨fun _ => j_MD_what ⟨rfl, (ev_why (L := L) y z ht4 hL' (by omega)).rt ?_⟩, fun q => absurd q (b2i_ne0.mpr (decide_eq_true hu))⟩⟩⟩)
    rw [hI' _ (by omega)]
    exact hq
  refine ⟨227, rfl, rfl, 4, t, rfl, ht4, rfl, 228 + 2 * t, Rf_227 ht4, hS.1, (ev_refusal hS hL.2.1 y z (nI N)).rt ⟨fun h5 => j_MG_what ?_, fun h5 => ⟨_, rfl, why (fun _ _ => rfl) ⟨fun q => absurd q h5, fun _ => ⟨rfl, inv0⟩⟩⟩⟩⟩
  obtain ⟨r1, r2, i, rfl, ri⟩ := rfs_ok hL.1 (by omega) h5
  obtain ⟨l1, l2, l3⟩ := id hL
  rcases l3 with ⟨q1, _⟩ | ⟨c1, c2, c3, c4, c5, c6⟩
  · exact absurd q1 r1
  have hok : ∀ k, k < N → okn (J (228 + 2 * t + 1)) i 1 (nI (2 ^ n - 1)) k = okn (J 253) (24 * t + i) 1 (nI (2 ^ n - 1)) k := fun k hk => by
    unfold okn
    rw [c6 (i + k) (by omega), show 24 * t + (i + k) = 24 * t + i + k by omega]
  have hba : ba (okn (J (228 + 2 * t + 1)) i 1 (nI (2 ^ n - 1))) N = ba (okn (J 253) (24 * t + i) 1 (nI (2 ^ n - 1))) N := by
    unfold ba
    rw [bx_congr (fun k hk => by rw [hok k hk])]
  refine ⟨225, rfl, rfl, 227, rfl, rfl, 4, t, rfl, ht4, rfl, 228 + 2 * t, Rf_227 ht4, 1, rfl, rfl, rfl, (ev_all st1 n1 h8).rt ⟨rfl, (ev_takes hS (by omega) l2 l1 ri hN12).mono ?_⟩⟩
  rintro r σ' ⟨rfl, I1, rfl, hRw, hTk⟩
  have sm : Sm I1 I := ⟨fun c c1 c2 => hRw c (by unfold Scr at c1; omega) (by unfold Scr at c1; omega), by rw [hRw 236 (by omega) (by omega)], by rw [hRw 236 (by omega) (by omega)], by rw [hRw 236 (by omega) (by omega)]⟩
  have inv1 : Inv (I1, J, am_Rf f g) := ⟨I1, J, f, g, rfl, Inv.sm ⟨n, M, K, gs, hR⟩ hrest sm⟩
  have hR1 : Rr I1 1 (I1 237) n M K gs := hR.congr (fun c d1 d2 => hRw c (by omega) (by omega)) (fun i _ => by rw [hRw 237 (by omega) (by omega)])
  have e24 : ∀ (a b : Nat), (24 : Int32) * nI a + nI b = nI (24 * a + b) := fun a b => by
    show nI 24 * nI a + nI b = _
    rw [nI_mul, nI_add]
  have test : ∀ {q : am_Q}, (¬ ba (okn (J 253) (24 * t + i) 1 (nI (2 ^ n - 1))) N = true → q (some (.int (-2))) (I1, J, am_Rf f g)) → (ba (okn (J 253) (24 * t + i) 1 (nI (2 ^ n - 1))) N = true → ∀ w, am_run am_sh m_MD_what q 102 [some (.ref 236), some (.int (nI t)), some (.int y), some (.int (nI i)), some (.int (nI N)), some (.int (rfs (I (228 + 2 * t) 0) (I (228 + 2 * t) 1) L y (nI i) (nI N))), some (.int (nI (24 * t + i))), w, none] [] (I1, J, am_Rf f g)) → am_ev am_sh m_MD_what [.ref 236, .int (nI t), .int y, .int (nI i), .int (nI N)] (I1, J, am_Rf f g) q := by
    intro q hbad hq
    refine why (fun c hc => hRw c (by omega) (by omega)) ⟨fun _ => j_MD_what (j_MD_what ?_), fun q => absurd h5 q⟩
    rw [e24]
    exact lp_what1 (n := n) hR1.1.2.1 h8 (by omega) hN12 hbad hq N 0 (by omega) (fun j hj => by omega)
  refine ⟨fun h8' => j_MG_what ⟨-2, rfl, test (fun _ => ⟨rfl, inv1⟩) (fun q => ?_)⟩, fun h8' => ?_⟩
  · rw [← hba, b2i_eq0.mp h8'] at q
    cases q
  · have hall := b2i_ne0.mp h8'
    have hT := hTk hall
    rw [hba] at hall
    have hwx : ∃ vs : Nat → Nat, ∀ k, k < N → (J 253 (24 * t + i + k)).toInt32 = nI (vs k) ∧ 1 ≤ vs k ∧ vs k < 128 := by
      have : ∀ k, ∃ v, k < N → (J 253 (24 * t + i + k)).toInt32 = nI v ∧ 1 ≤ v ∧ v < 128 := fun k => by
        by_cases hk : k < N
        · obtain ⟨s, s1, s2, s3⟩ := okn_set h8 (ba_iff.mp hall k hk)
          exact ⟨s, fun _ => ⟨s1, s2, by omega⟩⟩
        · exact ⟨0, fun q => absurd q hk⟩
      exact ⟨fun k => (this k).choose, fun k hk => (this k).choose_spec hk⟩
    obtain ⟨vs, hvs⟩ := hwx
    have hv : ∀ k, k < N → (J (228 + 2 * t + 1) (i + k)).toInt32 = nI (vs k) ∧ vs k < 128 := fun k hk => by
      rw [c6 (i + k) (by omega), show 24 * t + (i + k) = 24 * t + i + k by omega]
      exact ⟨(hvs k hk).1, (hvs k hk).2.2⟩
    have hV : Vr J (24 * t + i) N vs := ⟨by omega, hN12, hvs⟩
    refine ⟨225, rfl, rfl, 1, rfl, rfl, rfl, (ev_nature st1 hR1.2.1.1 m3 hR1.1.1 h8 n3 hT hN12 hN1).rt (j_MG_what ⟨_, rfl, test (fun q => absurd hall q) (fun _ w => j_MD_what (rn_what (pl := fun k => plc (I1 2) M (J (228 + 2 * t + 1) (i + k)).toInt32) hV hR1.1.2.1 h8 hR1.2.1.2.1 m3 (fun k hk => ?_) (fun k p hp => ?_) ⟨?_, inv1⟩))⟩)⟩
    · rw [← (hv k hk).1]
      exact hR1.find _
    · have := (fi_some hp).1
      omega
    · rw [any_tw hv, non_tw hv, one_tw hN1 hv, evn_own h8 hN12 hv, jst_jb hN12 m3]
      rfl
