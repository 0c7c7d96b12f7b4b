/-! keep on both -/
section T21
theorem Bc.fr {I' I : Nat → Nat → Int32} {K M : Nat} {x : Int32} (h : Bc I' I 1 K M x) : ∀ c, ¬ (3 ≤ c ∧ c ≤ 14) → I' c = I c := by
  intro c hc
  obtain ⟨I1, I2, K', h1, h2, h3, rfl, h5⟩ := h
  rw [up_cell (by omega)]
  have e : I2 c = I1 c := by
    funext k
    exact h3.2.2 c k (by omega) (by omega) (by omega)
  rw [e]
  rcases h5 with ⟨p, _, _, I0, rfl, hL⟩ | ⟨_, _, _, I0, rfl, hL⟩ | ⟨_, _, _, rfl⟩
  · rw [up_cell (by omega)]; exact hL.2 c (by omega)
  · rw [up_cell (by omega)]; exact hL.2 c (by omega)
  · rfl
theorem T_keep (x y z w : Int32) {σ : am_S} (h : Inv σ) : Both m_MG_keep m_MD_keep [.int x, .int y, .int z, .int w] σ := by
  obtain ⟨I, J, f, g, rfl, ⟨n, M, K, gs, hR⟩, hrest⟩ := h
  have inv0 : Inv (I, J, am_Rf f g) := ⟨I, J, f, g, rfl, ⟨n, M, K, gs, hR⟩, hrest⟩
  obtain ⟨⟨n1, n2, n3, n4⟩, ⟨m1, m2, m3⟩, hgs, _, _, ⟨k1, k2, k3⟩, _⟩ := id hR
  have h7 := pow_le7 (n := n) (by omega)
  have bad : ¬ ((0 ≤ x ∧ x ≤ 99) ∧ (0 ≤ y ∧ y ≤ 3) ∧ (0 ≤ z ∧ z ≤ 3)) → am_ev am_sh m_MD_keep [.ref 236, .int x, .int y, .int z, .int w] (I, J, am_Rf f g) (fun r2 σ2 => r2 = some (.int (-1)) ∧ Inv σ2) := by
    intro hx
    refine s_MD_keep ((ev_in32 x 0 99 _).rt ⟨fun q => j_MD_keep ⟨rfl, inv0⟩, fun q1 => (ev_misSheet y _).rt ⟨fun q => j_MD_keep ⟨rfl, inv0⟩, fun q2 => (ev_in32 z 0 3 _).rt ⟨fun q3 => absurd ⟨of_decide_eq_true (b2i_ne0.mp q1), of_decide_eq_true (b2i_ne0.mp q2), of_decide_eq_true (b2i_ne0.mp q3)⟩ hx, fun _ => ⟨rfl, inv0⟩⟩⟩⟩)
  refine s_MG_keep ⟨fun h1 => j_MG_keep ⟨-1, rfl, bad (fun q => absurd h1 (Int32.not_lt.mpr q.1.1))⟩, fun h1 => ⟨fun h2 => j_MG_keep ⟨-1, rfl, bad (fun q => absurd h2 (Int32.not_lt.mpr q.1.2))⟩, fun h2 => (ev_isSheet y _).rt ⟨fun h3 => j_MG_keep ⟨-1, rfl, bad (fun q => absurd (decide_eq_true q.2.1) (by rw [b2i_eq0.mp h3]; decide))⟩, fun h3 => (ev_isLane z _).rt ⟨fun h4 => j_MG_keep ?_, fun h4 => ⟨-1, rfl, bad (fun q => absurd (decide_eq_true q.2.2) (by rw [b2i_eq0.mp h4]; decide))⟩⟩⟩⟩⟩
  have hx : 0 ≤ x ∧ x ≤ 99 := ⟨Int32.not_lt.mp h1, Int32.not_lt.mp h2⟩
  obtain ⟨t, ht4, rfl⟩ := s4_of (of_decide_eq_true (b2i_ne0.mp h3))
  obtain ⟨L, hL⟩ := hrest.2.2.2.2.2.1 t ht4
  have hS := Shd_of (f := f) (g := g) ht4
  refine ⟨227, rfl, rfl, 4, t, rfl, ht4, rfl, 228 + 2 * t, Rf_227 ht4, 1, rfl, rfl, rfl, hS.1, ?_⟩
  show am_ev am_sh m_Sh_refusal [.ref (228 + 2 * t), .int z, .int w, .int (I 1 1)] _ _
  rw [m1]
  have why : ∀ {I' : Nat → Nat → Int32} {f' : Nat → Nat} {q : am_Q}, (∀ c, 227 ≤ c → I' c = I c) → am_u am_sh m_MD_keep q (am_at am_c_MD_keep 51) 51 [some (.ref 236), some (.int x), some (.int (nI t)), some (.int z), some (.int w), some (.int (nI M)), none, none, none, none, none] [.int (rfs (I (228 + 2 * t) 0) (I (228 + 2 * t) 1) L z w (nI M))] (I', J, am_Rf f' g) → am_ev am_sh m_MD_keep [.ref 236, .int x, .int (nI t), .int z, .int w] (I', J, am_Rf f' g) q := by
    intro I' f' q hI' hq
    have hL' : Shi I' t L := by
      have := hL.i
      unfold Shi at this ⊢
      rw [hI' _ (by omega), hI' 251 (by omega), hI' 252 (by omega)]
      exact this
    have em : I' 237 1 = nI M := by rw [hI' 237 (by omega)]; exact m2
    refine s_MD_keep ((ev_in32 x 0 99 _).rt ⟨fun q => absurd q (b2i_ne0.mpr (decide_eq_true hx)), fun _ => (ev_misSheet _ _).rt ⟨fun q => absurd q h3, fun _ => (ev_in32 z 0 3 _).rt ⟨fun _ => j_MD_keep ⟨237, rfl, rfl, 116, 1, rfl, by omega, rfl, rfl, ?_⟩, fun q => absurd q h4⟩⟩⟩)
    show am_ev am_sh m_MD_why [.ref 236, .int (nI t), .int z, .int w, .int (I' 237 1)] _ (fun r σ' => am_u am_sh m_MD_keep q (am_at am_c_MD_keep 51) 51 [some (.ref 236), some (.int x), some (.int (nI t)), some (.int z), some (.int w), some (.int (I' 237 1)), none, none, none, none, none] (am_push r []) σ')
    rw [em]
    refine (ev_why (L := L) z w ht4 hL' (by omega)).rt ?_
    rw [hI' _ (by omega)]
    exact hq
  refine (ev_refusal hS hL.2.1 z w (nI M)).rt ⟨fun h5 => j_MG_keep ?_, fun h5 => ⟨_, rfl, why (fun _ _ => rfl) ⟨fun q => absurd q h5, fun _ => ⟨rfl, inv0⟩⟩⟩⟩
  obtain ⟨r1, r2, i, rfl, ri⟩ := rfs_ok hL.1 (by omega) h5
  obtain ⟨l1, l2, l3⟩ := id hL
  rcases l3 with ⟨q1, _⟩ | ⟨c1, c2, c3, c4, c5, c6⟩
  · exact absurd q1 r1
  have hok : ∀ k, k < M → okn (J (228 + 2 * t + 1)) i 0 99 k = okn (J 253) (24 * t + i) 0 99 k := fun k hk => by
    unfold okn
    rw [c6 (i + k) (by omega), show 24 * t + (i + k) = 24 * t + i + k by omega]
  have hba : ba (okn (J (228 + 2 * t + 1)) i 0 99) M = ba (okn (J 253) (24 * t + i) 0 99) M := by
    unfold ba
    rw [bx_congr (fun k hk => by rw [hok k hk])]
  -- the reference up to its test
  have well : ∀ {I' : Nat → Nat → Int32} {f' : Nat → Nat} {q : am_Q}, (∀ c, 227 ≤ c → I' c = I c) → (∀ w, am_run am_sh m_MD_keep q 126 [some (.ref 236), some (.int x), some (.int (nI t)), some (.int z), some (.int (nI i)), some (.int (nI M)), some (.int (rfs (I (228 + 2 * t) 0) (I (228 + 2 * t) 1) L z (nI i) (nI M))), some (.int (b2i (decide (0 < M) && ba (okn (J 253) (24 * t + i) 0 99) M))), w, none, none] [] (I', J, am_Rf f' g)) → am_ev am_sh m_MD_keep [.ref 236, .int x, .int (nI t), .int z, .int (nI i)] (I', J, am_Rf f' g) q := by
    intro I' f' q hI' hq
    refine why hI' ⟨fun _ => j_MD_keep ?_, fun q => absurd h5 q⟩
    rcases Nat.eq_zero_or_pos M with e | e
    · exact br_t (by rw [e]; decide) (j_MD_keep (j_MD_keep (lp_keep1 ht4 (by omega) m3 hq M 0 0 (by omega) (by rw [e]; rfl))))
    · exact br_f (nI_nle e (by omega)) (j_MD_keep (j_MD_keep (lp_keep1 ht4 (by omega) m3 hq M 0 1 (by omega) (by rw [decide_eq_true e]; rfl))))
  refine ⟨1, rfl, rfl, rfl, fun h6 => j_MG_keep ⟨-2, rfl, ?_⟩, fun h6 => ?_⟩
  · have hM : M = 0 := (nI_eq (by omega) (by omega)).mp (m1.symm.trans h6)
    refine well (fun _ _ => rfl) (fun w => j_MD_keep ⟨fun q => absurd (by rw [hM]; rfl) q, fun _ => ⟨rfl, inv0⟩⟩)
  · have hM : 0 < M := by
      rcases Nat.eq_zero_or_pos M with q | q
      · exact absurd (by show I 1 1 = 0; rw [m1, q]; rfl) h6
      · exact q
    refine ⟨225, rfl, rfl, 227, rfl, rfl, 4, t, rfl, ht4, rfl, 228 + 2 * t, Rf_227 ht4, 1, rfl, rfl, rfl, rfl, ?_⟩
    show am_ev am_sh m_Ro_takes [.ref 225, .ref (228 + 2 * t), .int (nI i), .int (I 1 1), .int 0, .int 99] _ _
    rw [m1]
    refine (ev_takes hS (by omega) l2 l1 ri m3).mono ?_
    rintro r σ' ⟨rfl, I1, rfl, hRw, hTk⟩
    have sm : Sm I1 I := ⟨fun c c1 c2 => hRw c (by unfold Scr at c1; omega) (by unfold Scr at c1; omega), by rw [hRw 236 (by omega) (by omega)], by rw [hRw 236 (by omega) (by omega)], by rw [hRw 236 (by omega) (by omega)]⟩
    obtain ⟨hR1', hf, hg, ⟨N, hp⟩, hO⟩ := Inv.sm ⟨n, M, K, gs, hR⟩ hrest sm
    have hR1 : Rr I1 1 (I1 237) n M K gs := hR.congr (fun c d1 d2 => hRw c (by omega) (by omega)) (fun i _ => by rw [hRw 237 (by omega) (by omega)])
    refine ⟨fun h8 => j_MG_keep ?_, fun h8 => ⟨-2, rfl, well (fun c hc => hRw c (by omega) (by omega)) (fun w => j_MD_keep ⟨fun q => absurd ?_ q, fun _ => ⟨rfl, I1, J, f, g, rfl, hR1', hf, hg, ⟨N, hp⟩, hO⟩⟩)⟩⟩
    · have hall := b2i_ne0.mp h8
      obtain ⟨tk1, tk2⟩ := hTk hall
      rw [hba] at hall
      have hwt := ba_iff.mp hall
      have hwx : ∃ wt : Nat → Nat, ∀ k, k < M → I1 226 k = nI (wt k) ∧ wt k ≤ 99 ∧ (J 253 (24 * t + i + k)).toInt32 = nI (wt k) := by
        have : ∀ k, ∃ v, k < M → I1 226 k = nI v ∧ v ≤ 99 ∧ (J 253 (24 * t + i + k)).toInt32 = nI v := fun k => by
          by_cases hk : k < M
          · obtain ⟨v, v1, v2⟩ := okn_nat (hwt k hk)
            refine ⟨v, fun _ => ⟨?_, v2, v1⟩⟩
            rw [tk2 k hk]
            show (J (228 + 2 * t + 1) (i + k)).toInt32 = _
            rw [c6 (i + k) (by omega), show 24 * t + (i + k) = 24 * t + i + k by omega]
            exact v1
          · exact ⟨0, fun q => absurd q hk⟩
        exact ⟨fun k => (this k).choose, fun k hk => (this k).choose_spec hk⟩
      obtain ⟨wt, hwt⟩ := hwx
      refine ⟨15, rfl, rfl, 1, rfl, rfl, rfl, (ev_note hf hp.2.1 hp.1).mono ?_⟩
      rintro r σ' ⟨rfl, I2, f', N1, rfl, hN1, hN2⟩
      have hnow := hN1.now hf hp.1 hN2
      have hR2 : Rr I2 1 (I1 237) n M K gs := hR1.congr (fun c d1 d2 => hnow c (by omega)) (fun i _ => rfl)
      refine ⟨1, rfl, rfl, 3, rfl, rfl, 1, rfl, rfl, 225, rfl, rfl, rfl, (ev_become (K := K) st1 (by omega) (by rw [hnow 3 (by omega)]; exact hR1.2.2.2.2.2.1.1) k3 (by rw [hnow 1 (by omega)]; exact hR1.2.1.1) m3).mono ?_⟩
      rintro r σ' ⟨rfl, I3, rfl, hB⟩
      have hBf := hB.fr
      obtain ⟨B1, B2, K', b1, b2, b3, b4, b5⟩ := id hB
      have e30 : I3 3 0 = nI (K' + 1) := by rw [b4]; exact am_up_eq
      refine ⟨1, rfl, rfl, 3, rfl, rfl, rfl, nI (K' + 1), congrArg (fun z => some (Value.int z)) e30, ?_⟩
      have i3 : ∀ c, 227 ≤ c → I3 c = I1 c := fun c hc => by rw [hBf c (by omega), hnow c (by omega)]
      refine well (fun c hc => by rw [i3 c hc, hRw c (by omega) (by omega)]) (fun w => j_MD_keep ⟨fun _ => j_MD_keep ⟨rfl, (ev_notes (N := N) (by rw [i3 236 (by omega)]; exact hp.2.2.1) hp.1).mono ?_⟩, fun q => absurd q (b2i_ne0.mpr (by rw [decide_eq_true hM, hall]; rfl))⟩)
      rintro r σ' ⟨rfl, I4, N2, rfl, hr1, hr2⟩
      have i237 : I4 237 = I1 237 := by rw [hr1.2.2.2.1 237 (by omega) (by omega), i3 237 (by omega)]
      refine rn_keep (I := I4) (C := I2) (n := n) (K := K) (gs := gs) ht4 (by omega) m3 (by rw [i237]; exact hR2) ?_
      intro ρ ρ' K2 a1 a2 a3 a4 a5 a6 a7 a8
      rw [i237] at a6 a8
      have hwB : ∀ i, i < M → I2 226 i = nI (wt i) ∧ wt i ≤ 99 := fun i hi => by rw [hnow 226 (by omega)]; exact ⟨(hwt i hi).1, (hwt i hi).2.1⟩
      have a4' : ∀ i', i' < 12 → ρ' (16 + 25 * K2 + 1 + i') = (if i' < M then nI (gs i') else 0) ∧ ρ' (16 + 25 * K2 + 13 + i') = (if i' < M then nI (wt i') else 0) := fun i' hi' => by
        refine ⟨(a4 i' hi').1, ?_⟩
        rw [(a4 i' hi').2]
        by_cases q : i' < M
        · rw [if_pos q, if_pos q, (hwt i' q).2.2]
        · rw [if_neg q, if_neg q]
      have key : K2 = K' ∧ RR I3 1 ρ' := by
        rcases b5 with ⟨p, s1, s2, I0, s3, s4⟩ | ⟨s1, s2, s3, I0, s4, s5⟩ | ⟨s1, s2, s3, s4⟩ <;> rcases a8 with ⟨p', u1, u2, u3, u4⟩ | ⟨u1, u2, u3, u4⟩ | ⟨u1, u2, u3, u4⟩
        · obtain rfl : p' = p := Option.some.inj (u1.symm.trans s1)
          subst u2
          obtain rfl : K2 = K' := by omega
          have hL1 := hR2.lose (p := p') (C' := I0) (ρ' := ρ) (by omega) s4 a7 u4 a6
          rw [show K2 + 1 - 1 = K2 from rfl, show 1 + 2 = 3 from rfl] at s3
          rw [← s3] at hL1
          have hpn : I1 237 (16 + 25 * p') = x := by
            rw [← (hR2.2.2.2.2.2.2.1 p' (by omega)).1]
            exact of_decide_eq_true (fi_some s1).2.1
          refine ⟨rfl, n, M, K2 + 1, gs, ?_⟩
          rw [b4]
          refine hL1.plan (C1 := B1) (w := wt) b1 (fun q hq e => ?_) b3 (fun i hi => ?_) a2 a3 a4' a5
          · have e0 := u4 q 0 hq (by omega)
            rw [Nat.add_zero, Nat.add_zero, e] at e0
            have := hR2.2.2.2.2.2.2.2.2 p' (if p' ≤ q then q + 1 else q) (by omega) (by split <;> omega) (hpn.trans e0)
            split at this <;> omega
          · rw [s3, up_cell (by omega), s4.2 226 (by omega)]
            exact hwB i hi
        · rw [s1] at u1; cases u1
        · rw [s1] at u1; cases u1
        · rw [s1] at u1; cases u1
        · subst s2
          subst s3
          subst u3
          have hL1 := hR2.lose (p := 0) (C' := I0) (ρ' := ρ) (by omega) s5 a7 u4 a6
          rw [show 1 + 2 = 3 from rfl] at s4
          rw [← s4] at hL1
          refine ⟨rfl, n, M, 3 + 1, gs, ?_⟩
          rw [b4]
          refine hL1.plan (C1 := B1) (w := wt) b1 (fun q hq e => ?_) b3 (fun i hi => ?_) a2 a3 a4' a5
          · have e0 := u4 q 0 hq (by omega)
            rw [Nat.add_zero, Nat.add_zero, e, if_pos (by omega)] at e0
            have e1 := of_decide_eq_false (fi_none.mp s1 (q + 1) (by omega))
            exact e1 ((hR2.2.2.2.2.2.2.1 (q + 1) (by omega)).1.trans e0.symm)
          · rw [s4, up_cell (by omega), s5.2 226 (by omega)]
            exact hwB i hi
        · omega
        · rw [s1] at u1; cases u1
        · omega
        · subst s3
          subst u3
          subst s4
          subst u4
          refine ⟨rfl, n, M, K2 + 1, gs, ?_⟩
          rw [b4]
          refine hR2.plan (C1 := B1) (w := wt) b1 (fun q hq e => ?_) b3 hwB a2 a3 a4' a5
          have e1 := of_decide_eq_false (fi_none.mp s1 q hq)
          exact e1 ((hR2.2.2.2.2.2.2.1 q hq).1.trans e)
      obtain ⟨rfl, hRR⟩ := key
      refine ⟨rfl, _, J, f', g, rfl, noted hf hg hR1' hp hO hN1 hN2 (fun c c1 _ => hBf c (by omega)) hr1 hr2 (fun c c1 => row_cell c1) ?_⟩
      rw [show am_row I4 237 ρ' 237 = ρ' from funext (fun j => am_row_eq j)]
      exact hRR
    · show b2i _ = 0
      rw [← hba, b2i_eq0.mp h8, Bool.and_false]
      rfl
end T21
