/-! drift on both -/
section T18
variable {f g : Nat → Nat} {I : Nat → Nat → Int32} {J : Nat → Nat → Int64}
def dN (d : Nat) : Nat := (d * 1103515245 + 12345) % 2147483648
def sN (n D : Nat) : Nat := D / 65536 % (2 ^ n - 1) + 1
theorem dN_lt (d : Nat) : dN d < 2147483648 := Nat.mod_lt _ (by omega)
theorem dw_nat (d : Nat) : dw (nI d) = nI (dN d) := by
  unfold dw dN
  rw [show (1103515245 : Int32) = nI 1103515245 from rfl, show (12345 : Int32) = nI 12345 from rfl, show (2147483647 : Int32) = nI 2147483647 from rfl, nI_mul, nI_add, nI_and, show (2147483647 : Nat) = 2 ^ 31 - 1 from rfl, Nat.and_two_pow_sub_one_eq_mod]
theorem dset_nat {n D : Nat} (h8 : n < 8) (hD : D < 2147483648) : dset n (nI D) = nI (sN n D) := by
  have h7 := pow_le7 h8
  unfold dset sN
  rw [show (65536 : Int32) = nI 65536 from rfl, nI_div (by omega) (by omega), nI_rem (by omega) (by omega), nI_1]
theorem sN_ok {n D : Nat} (h1 : 1 ≤ n) : 1 ≤ sN n D ∧ sN n D < 2 ^ n := by
  have h2 : 2 ≤ 2 ^ n := Nat.pow_le_pow_right (n := 2) (by omega) h1
  unfold sN
  have := Nat.mod_lt (D / 65536) (show 0 < 2 ^ n - 1 by omega)
  omega
theorem Chn.seq {n : Nat} : ∀ {m : Nat} {C0 C : Nat → Nat → Int32} {f0 f : Nat → Nat}, Chn n m C0 f0 C f → ∃ (D : Nat → Nat → Nat → Int32) (F : Nat → Nat → Nat), D 0 = C0 ∧ F 0 = f0 ∧ D m = C ∧ F m = f ∧ ∀ k, k < m → Stpd (D k) (F k) (D (k + 1)) (F (k + 1)) n
  | 0, C0, C, f0, f, h => ⟨fun _ => C0, fun _ => f0, rfl, rfl, h.1.symm, h.2.symm, fun k hk => by omega⟩
  | m + 1, C0, C, f0, f, h => by
    obtain ⟨D1, h1, hc, hs⟩ := h
    obtain ⟨D, F, a1, a2, a3, a4, a5⟩ := Chn.seq hc
    refine ⟨fun k => if k ≤ m then D k else C, fun k => if k ≤ m then F k else f, ?_, ?_, ?_, ?_, fun k hk => ?_⟩
    · show (if 0 ≤ m then D 0 else C) = _
      rw [if_pos (by omega)]; exact a1
    · show (if 0 ≤ m then F 0 else f) = _
      rw [if_pos (by omega)]; exact a2
    · show (if m + 1 ≤ m then D (m + 1) else C) = _
      rw [if_neg (by omega)]
    · show (if m + 1 ≤ m then F (m + 1) else f) = _
      rw [if_neg (by omega)]
    · show Stpd (if k ≤ m then D k else C) (if k ≤ m then F k else f) (if k + 1 ≤ m then D (k + 1) else C) (if k + 1 ≤ m then F (k + 1) else f) n
      by_cases e : k = m
      · subst e
        rw [if_pos (by omega), if_pos (by omega), if_neg (by omega), if_neg (by omega), a3, a4]
        exact hs
      · rw [if_pos (by omega), if_pos (by omega), if_pos (by omega), if_pos (by omega)]
        exact a5 k (by omega)
/-- the reference's turn beside the class's -/
theorem lp_mdrift {m n : Nat} {I0 : Nat → Nat → Int32} {D : Nat → Nat → Nat → Int32} {F : Nat → Nat → Nat} {q : am_Q} (hm : m ≤ 40) (h8 : n < 8) (h1 : 1 ≤ n) (hS : ∀ k, k < m → Stpd (D k) (F k) (D (k + 1)) (F (k + 1)) n) (hq : ∀ (I : Nat → Nat → Int32) (N : Nat), Hf (F m) → RR (D m) 1 (I 237) → PastC (D m) I (F m) N → (∀ c, c ≠ 236 → c ≠ 237 → c ≠ 248 → I c = I0 c) → (∀ k, k ≠ 19 → I 236 k = I0 236 k) → q (some (.int (I 237 1))) (I, J, am_Rf f g)) : ∀ j k (I : Nat → Nat → Int32) (N : Nat) (w3 w4 w5 w6 : Option Value), j + k = m → Hf (F k) → RR (D k) 1 (I 237) → I 237 0 = nI n → PastC (D k) I (F k) N → (∀ c, c ≠ 236 → c ≠ 237 → c ≠ 248 → I c = I0 c) → (∀ k, k ≠ 19 → I 236 k = I0 236 k) → am_u am_sh m_MD_drift q (am_at am_c_MD_drift 16) 16 [some (.ref 236), some (.int (nI m)), some (.int (nI k)), w3, w4, w5, w6] [] (I, J, am_Rf f g) := by
  have h7 := pow_le7 h8
  have h2n : 2 ≤ 2 ^ n := Nat.pow_le_pow_right (n := 2) (by omega) h1
  intro j
  induction j with
  | zero =>
    intro k I N w3 w4 w5 w6 hk hf hR hn hp hfr hfr2
    obtain rfl : k = m := by omega
    exact br_t (nI_le (by omega) (by omega)) (j_MD_drift ⟨237, rfl, rfl, 116, 1, rfl, by omega, rfl, hq I N hf hR hp hfr hfr2⟩)
  | succ j ih =>
    intro k I N w3 w4 w5 w6 hk hf hR hn hp hfr hfr2
    obtain ⟨N', N1, M, C1, b1, b2, b3, b4, hN1, hN2, hD⟩ := hS k (by omega)
    obtain rfl : N' = N := (nI_eq (by omega) (by have := hp.1; omega)).mp (b1.symm.trans hp.2.1)
    refine br_f (nI_ge (by omega) (by omega)) ⟨rfl, (ev_notes (N := N') hp.2.2.1 hp.1).mono ?_⟩
    rintro r σ' ⟨rfl, I1, N2, rfl, hr1, hr2⟩
    obtain ⟨hf', hp2, n', M', K, gs, hR2⟩ := note_rel hf hR hp hN1 hN2 hr1 hr2
    have i237 : I1 237 = I 237 := hr1.2.2.2.1 237 (by omega) (by omega)
    obtain rfl : n' = n := by
      have a := hR2.1.2.1
      rw [i237, hn] at a
      exact ((nI_eq (by omega) (by have := hR2.1.2.2.2; omega)).mp a).symm
    have hnow := hN1.now hf hp.1 hN2
    obtain rfl : M' = M := (nI_eq (by have := hR2.2.1.2.2; omega) (by omega)).mp (hR2.2.1.1.symm.trans (by rw [hnow 1 (by omega)]; exact b3))
    obtain ⟨hd1, hd2⟩ := hR2.2.2.2.2.1
    obtain ⟨d, hd, hde⟩ := nI_of (x := I1 237 2) (Int32.not_lt.mpr hd2)
    have hX : d * 1103515245 + 12345 < 2 ^ 63 := by omega
    refine ⟨237, rfl, rfl, 116, 2, rfl, by omega, rfl, by decide, ?_⟩
    have e1 : (I1 237 2).toInt64 * 1103515245 + 12345 - ((I1 237 2).toInt64 * 1103515245 + 12345) / 2147483648 * 2147483648 = lN (dN d) := by
      rw [hde, nI_l hd, show (1103515245 : Int64) = lN 1103515245 from rfl, show (12345 : Int64) = lN 12345 from rfl, show (2147483648 : Int64) = lN 2147483648 from rfl, lN_mul, lN_add, pk_lRem hX (by omega) (by omega)]
      rfl
    rw [e1]
    have hDl := dN_lt d
    refine ⟨237, rfl, rfl, 116, 2, rfl, by omega, rfl, by decide, ?_⟩
    rw [lN_i, show (65536 : Int64) = lN 65536 from rfl, pk_lDiv (by omega) (by omega) (by omega)]
    have hdw : dw (C1 1 3) = nI (dN d) := by rw [hd1, hde, dw_nat]
    have hds : dset n' (dw (C1 1 3)) = nI (sN n' (dN d)) := by rw [hdw, dset_nat h8 hDl]
    -- the draw is the same
    have hR3 : Rr (am_up C1 1 3 (dw (C1 1 3))) 1 (am_up I1 237 2 (nI (dN d)) 237) n' M' K gs := by
      refine hR2.draw (fun c k c1 c2 c3 => am_up_ne (by omega)) (fun i hi hn => am_up_ne (by omega)) ⟨?_, ?_⟩
      · rw [am_up_eq, am_up_eq, hdw]
      · rw [am_up_eq]; exact nI_pos' (by omega)
    refine ⟨rfl, (ev_mall (n := n') (by rw [am_up_ne (by omega), i237]; exact hn) h8).rt ⟨nI_ne0 (by omega) (by omega), rfl, ?_⟩⟩
    rw [lN_i, nI_rem (by omega) (by omega), nI_1]
    show am_ev am_sh m_MD_find [.ref 236, .int (nI (sN n' (dN d)))] _ _
    refine (ev_find (M := M') (by rw [am_up_ne (by omega)]; exact hR2.2.1.2.1) b4).rt ?_
    rw [hR3.find]
    have eC2 : am_up C1 1 3 (dw (C1 1 3)) (1 + 1) = C1 2 := up_cell (by omega)
    rw [eC2]
    obtain ⟨CD, hCD, hD⟩ := hD
    rw [hds] at hD
    rw [← hCD] at hR3
    have hCDr : ∀ c, 15 ≤ c → CD c = C1 c := fun c hc => by rw [hCD, up_cell (by omega)]
    -- what is left for the next turn
    have nxt : ∀ (I2 : Nat → Nat → Int32) (w3 w4 w5 w6 : Option Value), RR (D (k + 1)) 1 (I2 237) → I2 237 0 = nI n' → (∀ c, 15 ≤ c → D (k + 1) c = C1 c) → (∀ c, c ≠ 237 → I2 c = I1 c) → am_u am_sh m_MD_drift q (am_at am_c_MD_drift 107) 107 [some (.ref 236), some (.int (nI m)), some (.int (nI k)), w3, w4, w5, w6] [] (I2, J, am_Rf f g) := by
      intro I2 w3 w4 w5 w6 r1 r2 r3 r4
      refine j_MD_drift ?_
      rw [show nI k + 1 = nI (k + 1) from nI_1 k]
      refine ih (k + 1) I2 (N2 + 1) w3 w4 w5 w6 (by omega) hf' r1 r2 (PastC.congr hf' hp2 (fun c c1 c2 => r3 c c1) (by rw [r4 236 (by omega)]) (r4 248 (by omega))) (fun c c1 c2 c3 => ?_) (fun k' hk' => ?_)
      · rw [r4 c c2, hr1.2.2.2.1 c c1 c3]; exact hfr c c1 c2 c3
      · rw [r4 236 (by omega), hr1.2.2.2.2 k' hk']; exact hfr2 k' hk'
    have hn2 : am_up I1 237 2 (nI (dN d)) 237 0 = nI n' := by rw [am_up_ne (by omega), i237]; exact hn
    have hM2 : am_up I1 237 2 (nI (dN d)) 237 1 = nI M' := by rw [am_up_ne (by omega)]; exact hR2.2.1.2.1
    cases hfi : fi (fun k => decide (C1 2 k = nI (sN n' (dN d)))) M' with
    | some p =>
      have hpM := (fi_some hfi).1
      obtain ⟨M, rfl⟩ : ∃ M'', M' = M'' + 1 := ⟨M' - 1, by omega⟩
      refine br_f (nI_pos (n := p) (by omega)) ⟨rfl, (ev_goes (M := M) hM2 (by omega) (by omega)).rv (j_MD_drift ?_)⟩
      rcases hD with ⟨p', h1', h2'⟩ | ⟨h1', _⟩ | ⟨h1', _⟩
      · obtain rfl : p' = p := by rw [hfi] at h1'; exact (Option.some.inj h1').symm
        refine nxt _ _ _ _ _ ⟨n', M, K, _, hR3.rem (p := p') (by omega) (fun k hk => ?_) ?_ (fun c k c1 c2 c3 c4 => ?_) (fun k hk => ?_) ?_ (fun i i1 i2 => ?_)⟩ ?_ (fun c c1 => ?_) (fun c c1 => ?_)
        · rw [h2', am_up_ne (by omega), am_row_eq]
          unfold rmv
          by_cases e : p' ≤ k
          · rw [if_pos (by omega), if_pos e]
          · rw [if_neg (by omega), if_neg e]
        · rw [h2', am_up_eq]
          rfl
        · rw [h2', am_up_ne (by omega), am_row_ne (by omega)]
        · rw [am_row_eq]
          unfold rmr upd
          by_cases e : p' ≤ k
          · rw [if_pos (by omega), if_pos e, if_neg (by omega)]
            rfl
          · rw [if_neg (by omega), if_neg e, if_neg (by omega)]
        · rw [am_row_eq]
          unfold rmr
          rw [if_neg (by omega)]
          exact if_pos rfl
        · rw [am_row_eq]
          unfold rmr upd
          rw [if_neg (by omega), if_neg (by omega)]
        · rw [am_row_eq]
          unfold rmr upd
          rw [if_neg (by omega), if_neg (by omega)]
          exact hn2
        · rw [h2', up_cell (by omega), row_cell (by omega), hCDr c c1]
        · rw [row_cell c1, up_cell c1]
      · rw [hfi] at h1'; cases h1'
      · rw [hfi] at h1'; cases h1'
    | none =>
      refine br_t (by decide) (j_MD_drift ⟨237, rfl, rfl, 116, 1, rfl, by omega, rfl, ?_⟩)
      rcases hD with ⟨p', h1', h2'⟩ | ⟨h1', h2', h3'⟩ | ⟨h1', h2', h3'⟩
      · rw [hfi] at h1'; cases h1'
      · refine br_f (by rw [hM2]; exact nI_ge (b := 12) h2' (by omega)) ⟨rfl, (ev_comes hM2 h2' _).rv ?_⟩
        have hsn := sN_ok (n := n') (D := dN d) h1
        have hCfi : fi (fun k => decide (CD (1 + 1) k = nI (sN n' (dN d)))) M' = none := by rw [show CD (1 + 1) = C1 2 by rw [hCD]; exact up_cell (by omega)]; exact hfi
        refine nxt _ _ _ _ _ ⟨n', M' + 1, K, _, hR3.app (s := sN n' (dN d)) h2' hsn.1 hsn.2 (hR3.none hCfi) ?_ ?_ (fun c k c1 c2 c3 c4 => ?_) ?_ am_up_eq (fun i i1 i2 => ?_)⟩ ?_ (fun c c1 => ?_) (fun c c1 => ?_)
        · rw [h3', am_up_ne (by omega), am_up_eq]
        · rw [h3', am_up_eq]
        · rw [h3', am_up_ne (by omega), am_up_ne (by omega)]
        · rw [am_up_ne (by omega), am_up_eq]
          rfl
        · rw [am_up_ne (by omega), am_up_ne (by omega)]
        · rw [am_up_ne (by omega), am_up_ne (by omega)]
          exact hn2
        · rw [h3', up_cell (by omega), up_cell (by omega), hCDr c c1]
        · rw [up_cell c1, up_cell c1, up_cell c1]
      · refine br_t (by rw [hM2, h2']; decide) (j_MD_drift ?_)
        exact nxt _ _ _ _ _ ⟨n', M', K, _, by rw [h3']; exact hR3⟩ hn2 (fun c c1 => by rw [h3', hCDr c c1]) (fun c c1 => up_cell c1)
theorem T_drift (x : Int32) {σ : am_S} (h : Inv σ) : Both m_MG_drift m_MD_drift [.int x] σ := by
  obtain ⟨I, J, f, g, rfl, ⟨n, M, K, gs, hR⟩, hf, hg, ⟨N, hp⟩, hO⟩ := h
  have inv0 : Inv (I, J, am_Rf f g) := ⟨I, J, f, g, rfl, ⟨n, M, K, gs, hR⟩, hf, hg, ⟨N, hp⟩, hO⟩
  obtain ⟨⟨n1, n2, n3, n4⟩, ⟨m1, m2, m3⟩, _⟩ := id hR
  have h8 : n < 8 := by omega
  have bad : ¬ (1 ≤ x ∧ x ≤ 40) → am_ev am_sh m_MD_drift [.ref 236, .int x] (I, J, am_Rf f g) (fun r2 σ2 => r2 = some (.int (-1)) ∧ Inv σ2) := by
    intro hx
    exact s_MD_drift ((ev_in32 x 1 40 _).rt ⟨fun h2 => absurd (of_decide_eq_true (b2i_ne0.mp h2)) hx, fun _ => ⟨rfl, inv0⟩⟩)
  refine s_MG_drift ⟨fun h1 => j_MG_drift ⟨-1, rfl, bad (fun q => absurd q.1 (Int32.not_le.mpr h1))⟩, fun h1 => ⟨fun h2 => j_MG_drift (j_MG_drift ?_), fun h2 => ⟨-1, rfl, bad (fun q => absurd q.2 h2)⟩⟩⟩
  have h1 := Int32.not_lt.mp h1
  have hin : ¬ b2i (decide (1 ≤ x ∧ x ≤ 40)) = 0 := b2i_ne0.mpr (decide_eq_true ⟨h1, h2⟩)
  obtain ⟨m, hm, rfl⟩ := nI_of (x := x) (fun q => absurd q (Int32.not_lt.mpr (Int32.le_trans (by decide) h1)))
  have hm40 : m ≤ 40 := (nI_leI (b := 40) (by omega) (by omega)).mp h2
  refine lp_drift (n := n) hm40 h8 n3 ?_ m 0 I f N M (by omega) hf ⟨rfl, rfl⟩ hp.2.1 hp.1 n1 m1 m3 (fun _ _ => rfl)
  intro C f' M' hf' hch hM' hfr
  obtain ⟨D, F, a1, a2, a3, a4, a5⟩ := hch.seq
  refine ⟨nI M', rfl, s_MD_drift ((ev_in32 _ 1 40 _).rt ⟨fun _ => j_MD_drift (j_MD_drift ?_), fun h2 => absurd h2 hin⟩)⟩
  have i237 : C 237 = I 237 := hfr 237 (by omega)
  have i236 : C 236 = I 236 := hfr 236 (by omega)
  have i248 : C 248 = I 248 := hfr 248 (by omega)
  refine lp_mdrift (n := n) (I0 := C) (D := D) (F := F) hm40 h8 n3 a5 ?_ m 0 C N _ _ _ _ (by omega) ?_ ?_ ?_ ?_ (fun _ _ _ _ => rfl) (fun _ _ => rfl)
  · intro I' N' b1 b2 b3 b4 b5
    rw [a3] at b2 b3
    rw [a4] at b1 b3
    obtain ⟨n', M2, K', gs', hR'⟩ := id b2
    refine ⟨?_, I', J, f', g, rfl, b2.congr (fun c c1 c2 => b4 c (by omega) (by omega) (by omega)) (fun _ _ => rfl), Rst.mk b1 hg (PastC.congr b1 b3 (fun c c1 c2 => b4 c (by omega) (by omega) (by omega)) rfl rfl) (Oth.so hg hO ⟨fun c c1 c2 c3 c4 c5 => ?_, ?_, ?_⟩)⟩
    · rw [hR'.2.1.2.1, ← hM', hR'.2.1.1]
    · rw [b4 c c2 c3 c4, hfr c (by omega)]
    · rw [b5 11 (by omega), i236]
    · rw [b5 22 (by omega), i236]
  · rw [a2]; exact hf
  · rw [a1, i237]; exact ⟨n, M, K, gs, hR⟩
  · rw [i237]; exact n2
  · rw [a1, a2]
    exact PastC.congr hf hp (fun _ _ _ => rfl) (by rw [i236]) i248
end T18
