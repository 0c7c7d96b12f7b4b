/-! add, out, size on both -/
section T4
theorem Rr.app {C C' : Nat → Nat → Int32} {a n M K s : Nat} {ρ ρ' : Nat → Int32} {gs : Nat → Nat} (h : Rr C a ρ n M K gs) (h12 : M < 12) (h1 : 1 ≤ s) (h2 : s < 2 ^ n) (hs : ∀ k, k < M → gs k ≠ s) (hC1 : C' (a + 1) M = nI s) (hC2 : C' a 1 = nI (M + 1)) (hC : ∀ c k, a ≤ c → c ≤ a + 13 → ¬ (c = a + 1 ∧ k = M) → ¬ (c = a ∧ k = 1) → C' c k = C c k) (hρ1 : ρ' (4 + M) = nI s) (hρ2 : ρ' 1 = nI (M + 1)) (hρ : ∀ i, i ≠ 4 + M → i ≠ 1 → ρ' i = ρ i) : Rr C' a ρ' n (M + 1) K (fun k => if k = M then s else gs k) := by
  have hh := h
  obtain ⟨q1, q2, q3, q4, _⟩ := h
  refine hh.grp ⟨?_, ?_, q1.2.2⟩ ⟨hC2, hρ2, by omega⟩ (fun k hk => ?_) (fun i j hi hj e => ?_) (fun c k c1 c2 c3 c4 => hC c k c1 c2 (by omega) (by omega)) (fun i i1 i2 i3 i4 => hρ i (by omega) i3)
  · rw [hC a 0 (by omega) (by omega) (by omega) (by omega)]; exact q1.1
  · rw [hρ 0 (by omega) (by omega)]; exact q1.2.1
  · by_cases e : k = M
    · subst e
      simp only [if_pos]
      exact ⟨hC1, hρ1, h1, h2⟩
    · simp only [if_neg e]
      rw [hC (a + 1) k (by omega) (by omega) (by omega) (by omega), hρ (4 + k) (by omega) (by omega)]
      exact q3 k (by omega)
  · by_cases ei : i = M <;> by_cases ej : j = M
    · omega
    · simp only [if_pos ei, if_neg ej] at e
      exact absurd e.symm (hs j (by omega))
    · simp only [if_neg ei, if_pos ej] at e
      exact absurd e (hs i (by omega))
    · simp only [if_neg ei, if_neg ej] at e
      exact q4 i j (by omega) (by omega) e
theorem Rr.rem {C C' : Nat → Nat → Int32} {a n M K p : Nat} {ρ ρ' : Nat → Int32} {gs : Nat → Nat} (h : Rr C a ρ n (M + 1) K gs) (hp : p ≤ M) (hC1 : ∀ k, k < M → C' (a + 1) k = C (a + 1) (if p ≤ k then k + 1 else k)) (hC2 : C' a 1 = nI M) (hC : ∀ c k, a ≤ c → c ≤ a + 13 → c ≠ a + 1 → ¬ (c = a ∧ k = 1) → C' c k = C c k) (hρ1 : ∀ k, k < M → ρ' (4 + k) = ρ (4 + (if p ≤ k then k + 1 else k))) (hρ2 : ρ' 1 = nI M) (hρ : ∀ i, ¬ (4 ≤ i ∧ i < 16) → i ≠ 1 → ρ' i = ρ i) : Rr C' a ρ' n M K (fun k => gs (if p ≤ k then k + 1 else k)) := by
  have hh := h
  obtain ⟨q1, q2, q3, q4, _⟩ := h
  refine hh.grp ⟨?_, ?_, q1.2.2⟩ ⟨hC2, hρ2, by omega⟩ (fun k hk => ?_) (fun i j hi hj e => ?_) (fun c k c1 c2 c3 c4 => hC c k c1 c2 c3 (by omega)) (fun i i1 i2 i3 i4 => hρ i i4 i3)
  · rw [hC a 0 (by omega) (by omega) (by omega) (by omega)]; exact q1.1
  · rw [hρ 0 (by omega) (by omega)]; exact q1.2.1
  · rw [hC1 k hk, hρ1 k hk]
    exact q3 _ (by split <;> omega)
  · have := q4 _ _ (show (if p ≤ i then i + 1 else i) < M + 1 by split <;> omega) (show (if p ≤ j then j + 1 else j) < M + 1 by split <;> omega) e
    split at this <;> split at this <;> omega
theorem Rr.none {C : Nat → Nat → Int32} {a n M K s : Nat} {ρ : Nat → Int32} {gs : Nat → Nat} (h : Rr C a ρ n M K gs) (hf : fi (fun k => decide (C (a + 1) k = nI s)) M = none) : ∀ k, k < M → gs k ≠ s := by
  intro k hk e
  have := of_decide_eq_false (fi_none.mp hf k hk)
  exact this (by rw [(h.2.2.1 k hk).1, e])
theorem isSet_no {n : Nat} {x : Int32} (hc : b2i (decide (0 < x ∧ x ≤ nI (2 ^ n - 1))) = 0) : b2i (decide (1 ≤ x ∧ x ≤ nI (2 ^ n - 1))) = 0 := by
  rw [b2i_eq0, decide_eq_false_iff_not] at hc ⊢
  rw [one_le]
  exact hc
theorem isSet_yes {n : Nat} {x : Int32} (hc : ¬ b2i (decide (0 < x ∧ x ≤ nI (2 ^ n - 1))) = 0) : ¬ b2i (decide (1 ≤ x ∧ x ≤ nI (2 ^ n - 1))) = 0 := by
  rw [b2i_ne0, decide_eq_true_iff] at hc ⊢
  rw [one_le]
  exact hc
/-- both have noted a step, and then changed now alone -/
theorem noted {I I1 I2 I3 I4 : Nat → Nat → Int32} {J : Nat → Nat → Int64} {f f' g : Nat → Nat} {N N1 N2 : Nat} (hf : Hf f) (hg : Hg g) (hR : RR I 1 (I 237)) (hp : Past I f N) (hO : Oth I J g) (hN1 : Nt I1 I f' N1) (hN2 : (N < 6 ∧ f' = f ∧ N1 = N) ∨ (N = 6 ∧ f' = rot f ∧ N1 = 5)) (h12 : ∀ c, ¬ (1 ≤ c ∧ c ≤ 14) → c ≤ 200 ∨ 227 ≤ c ∨ c = 203 ∨ c = 204 ∨ c = 211 → I2 c = I1 c) (hr1 : NtR I3 I2 N N2) (hr2 : (N < 6 ∧ N2 = N) ∨ (N = 6 ∧ N2 = 5)) (h34 : ∀ c, c ≠ 237 → I4 c = I3 c) (hRR : RR I2 1 (I4 237)) : RR I4 1 (I4 237) ∧ Rst I4 J f' g := by
  have hlo := (show Hf f' by rcases hN2 with ⟨_, rfl, _⟩ | ⟨_, rfl, _⟩; exact hf; exact rot_Hf hf).lo (j := N1) (by have := hp.1; omega)
  have i237 : I2 237 = I 237 := (h12 237 (by omega) (by omega)).trans (hN1.2.2 237 (by omega) (by omega))
  have i236 : I2 236 = I 236 := (h12 236 (by omega) (by omega)).trans (hN1.2.2 236 (by omega) (by omega))
  have i248 : I2 248 = I 248 := (h12 248 (by omega) (by omega)).trans (hN1.2.2 248 (by omega) (by omega))
  have i3 : ∀ c, c ≠ 237 → c ≠ 236 → c ≠ 248 → I4 c = I2 c := fun c c1 c2 c3 => (h34 c c1).trans (hr1.2.2.2.1 c c2 c3)
  have hp' : PastC I I2 f N := PastC.congr hf hp (fun _ _ _ => rfl) (by rw [i236]) i248
  obtain ⟨hf', hp2, hR2⟩ := note_rel hf (show RR I 1 (I2 237) by rw [i237]; exact hR) hp' hN1 hN2 hr1 hr2
  refine ⟨hRR.congr (fun c c1 c2 => i3 c (by omega) (by omega) (by omega)) (fun _ _ => rfl), Rst.mk hf' hg (PastC.congr hf' hp2 (fun c c1 c2 => (i3 c (by omega) (by omega) (by omega)).trans (h12 c (by omega) (by omega))) (by rw [h34 236 (by omega)]) (h34 248 (by omega))) (Oth.so hg hO ⟨fun c d1 d2 d3 d4 d5 => ?_, ?_, ?_⟩)⟩
  · rw [i3 c d3 d2 d4, h12 c (by omega) (by unfold Scr at d1; omega), hN1.2.2 c (by omega) (by omega)]
  · rw [h34 236 (by omega), hr1.2.2.2.2 11 (by omega), i236]
  · rw [h34 236 (by omega), hr1.2.2.2.2 22 (by omega), i236]
theorem Nt.now {I I1 : Nat → Nat → Int32} {f f' : Nat → Nat} {N N1 : Nat} (hf : Hf f) (h6 : N ≤ 6) (hN1 : Nt I1 I f' N1) (hN2 : (N < 6 ∧ f' = f ∧ N1 = N) ∨ (N = 6 ∧ f' = rot f ∧ N1 = 5)) : ∀ c, (c ≤ 14 ∨ 101 ≤ c) → I1 c = I c := by
  intro c hc
  have hlo := (show Hf f' by rcases hN2 with ⟨_, rfl, _⟩ | ⟨_, rfl, _⟩; exact hf; exact rot_Hf hf).lo (j := N1) (by omega)
  exact hN1.2.2 c (by omega) (by omega)
theorem T_add (x : Int32) {σ : am_S} (h : Inv σ) : Both m_MG_add m_MD_add [.int x] σ := by
  obtain ⟨I, J, f, g, rfl, ⟨n, M, K, gs, hR⟩, hf, hg, ⟨N, hp⟩, hO⟩ := h
  have inv0 : Inv (I, J, am_Rf f g) := ⟨I, J, f, g, rfl, ⟨n, M, K, gs, hR⟩, hf, hg, ⟨N, hp⟩, hO⟩
  obtain ⟨⟨n1, n2, n3, n4⟩, ⟨m1, m2, m3⟩, _⟩ := id hR
  have h8 : n < 8 := by omega
  refine s_MG_add ⟨1, rfl, rfl, rfl, (ev_isSet st1 n1 h8 x).rt ⟨fun hc => j_MG_add ?_, fun hc => ?_⟩⟩
  · refine ⟨1, rfl, rfl, rfl, (ev_placeOf st1 m1 m3 x).rt ⟨fun hd => j_MG_add ?_, fun hd => ?_⟩⟩
    · have hno := (oi_neg (fi_lt m3)).mp hd
      have hf4 := hR.find x
      rw [hno] at hf4
      refine ⟨1, rfl, rfl, rfl, fun he => j_MG_add ?_, fun he => ?_⟩
      · have hM : M < 12 := (nI_ltI (by omega) (by omega)).mp (show nI M < nI 12 from m1 ▸ he)
        refine ⟨15, rfl, rfl, 1, rfl, rfl, rfl, (ev_note hf hp.2.1 hp.1).mono ?_⟩
        rintro r σ' ⟨rfl, I1, f', N1, rfl, hN1, hN2⟩
        have hnow := hN1.now hf hp.1 hN2
        refine ⟨1, rfl, rfl, rfl, (ev_append st1 (by rw [hnow 1 (by omega)]; exact m1) hM x).rv ⟨1, rfl, rfl, rfl, nI (M + 1), congrArg (fun z => some (Value.int z)) am_up_eq, ?_⟩⟩
        suffices key : ∀ I2, am_up (am_up I1 2 M x) 1 1 (nI (M + 1)) = I2 → am_ev am_sh m_MD_add [.ref 236, .int x] (I2, J, am_Rf f' g) (fun r2 σ2 => r2 = some (.int (nI (M + 1))) ∧ Inv σ2) from key _ rfl
        intro I2 hI2e
        have hI2 : ∀ c, ¬ (1 ≤ c ∧ c ≤ 14) → I2 c = I1 c := fun c hc => by rw [← hI2e, up_cell (by omega), up_cell (by omega)]
        have i237 : I2 237 = I 237 := (hI2 237 (by omega)).trans (hnow 237 (by omega))
        have i236 : I2 236 = I 236 := (hI2 236 (by omega)).trans (hnow 236 (by omega))
        have hfd : fo (lst (fun k => I2 237 (4 + k)) x) (-4) M = -4 := by rw [i237]; exact hf4
        refine s_MD_add ⟨rfl, (ev_mall (by rw [i237]; exact n2) h8).rt ((ev_in32 x 1 _ _).rt ⟨fun _ => j_MD_add ?_, fun h2 => absurd h2 (isSet_yes hc)⟩)⟩
        refine ⟨rfl, (ev_find (by rw [i237]; exact m2) m3).rt ⟨fun _ => j_MD_add ?_, fun h2 => absurd (by rw [hfd]; decide) h2⟩⟩
        refine ⟨237, rfl, rfl, 116, 1, rfl, by omega, rfl, fun _ => j_MD_add ?_, fun h2 => ?_⟩
        · refine ⟨rfl, (ev_notes (N := N) (by rw [i236]; exact hp.2.2.1) hp.1).mono ?_⟩
          rintro r σ' ⟨rfl, I3, N2, rfl, hr1, hr2⟩
          have j237 : I3 237 = I 237 := (hr1.2.2.2.1 237 (by omega) (by omega)).trans i237
          refine ⟨rfl, (ev_comes (M := M) (by rw [j237]; exact m2) hM x).rv ⟨237, rfl, rfl, 116, 1, rfl, by omega, rfl, congrArg (fun z => some (Value.int z)) am_up_eq, ?_⟩⟩
          obtain ⟨s, rfl, s1, s2⟩ := set_of h8 (of_decide_eq_true (b2i_ne0.mp hc))
          refine ⟨_, J, f', g, rfl, noted hf hg ⟨n, M, K, gs, hR⟩ hp hO hN1 hN2 (fun c c1 _ => hI2 c c1) hr1 hr2 (fun c c1 => by rw [up_cell c1, up_cell c1]) ⟨n, M + 1, K, _, hR.app (s := s) hM s1 s2 (hR.none hno) ?_ ?_ (fun c k c1 c2 c3 c4 => ?_) ?_ am_up_eq (fun i i1 i2 => ?_)⟩⟩
          · rw [← hI2e, am_up_ne (by omega), am_up_eq]
          · rw [← hI2e, am_up_eq]
          · rw [← hI2e, am_up_ne (by omega), am_up_ne (by omega), hnow c (by omega)]
          · rw [am_up_ne (by omega), am_up_eq]
          · rw [am_up_ne (by omega), am_up_ne (by omega), j237]
        · have : nI M = nI 12 := by rw [← m2, ← i237]; exact h2
          have := (nI_eq (by omega) (by omega)).mp this
          omega
      · have hM : M = 12 := by
          rcases Nat.lt_or_ge M 12 with q | q
          · exact absurd (by show I 1 1 < nI 12; rw [m1]; exact nI_lt q (by omega)) he
          · omega
        refine ⟨-3, rfl, s_MD_add ⟨rfl, (ev_mall n2 h8).rt ((ev_in32 x 1 _ _).rt ⟨fun _ => j_MD_add ?_, fun h2 => absurd h2 (isSet_yes hc)⟩)⟩⟩
        refine ⟨rfl, (ev_find m2 m3).rt ⟨fun _ => j_MD_add ?_, fun h2 => absurd (by rw [hf4]; decide) h2⟩⟩
        refine ⟨237, rfl, rfl, 116, 1, rfl, by omega, rfl, fun h2 => absurd (by show I 237 1 = 12; rw [m2, hM]; rfl) h2, fun h2 => ⟨rfl, inv0⟩⟩
    · have hsome : ¬ fi (fun k => decide (I 2 k = x)) M = none := fun e => hd ((oi_neg (fi_lt m3)).mpr e)
      refine ⟨-2, rfl, s_MD_add ⟨rfl, (ev_mall n2 h8).rt ((ev_in32 x 1 _ _).rt ⟨fun _ => j_MD_add ?_, fun h2 => absurd h2 (isSet_yes hc)⟩)⟩⟩
      refine ⟨rfl, (ev_find m2 m3).rt ⟨fun h2 => ?_, fun h2 => ⟨rfl, inv0⟩⟩⟩
      rw [hR.find x] at h2
      exact absurd ((oi4_neg (fi_lt m3)).mp h2) hsome
  · exact ⟨-1, rfl, s_MD_add ⟨rfl, (ev_mall n2 h8).rt ((ev_in32 x 1 _ _).rt ⟨fun h2 => absurd (isSet_no hc) h2, fun _ => ⟨rfl, inv0⟩⟩)⟩⟩
theorem T_out (x : Int32) {σ : am_S} (h : Inv σ) : Both m_MG_out m_MD_out [.int x] σ := by
  obtain ⟨I, J, f, g, rfl, ⟨n, M, K, gs, hR⟩, hf, hg, ⟨N, hp⟩, hO⟩ := h
  have inv0 : Inv (I, J, am_Rf f g) := ⟨I, J, f, g, rfl, ⟨n, M, K, gs, hR⟩, hf, hg, ⟨N, hp⟩, hO⟩
  obtain ⟨⟨n1, n2, n3, n4⟩, ⟨m1, m2, m3⟩, _⟩ := id hR
  have h8 : n < 8 := by omega
  refine s_MG_out ⟨1, rfl, rfl, rfl, (ev_isSet st1 n1 h8 x).rt ⟨fun hc => j_MG_out ?_, fun hc => ?_⟩⟩
  · have hf4 := hR.find x
    refine ⟨1, rfl, rfl, rfl, (ev_placeOf st1 m1 m3 x).rt ?_⟩
    cases hfi : fi (fun k => decide (I 2 k = x)) M with
    | none =>
      rw [hfi] at hf4
      refine ⟨fun hd => absurd hd (by decide), fun hd => ⟨-4, rfl, s_MD_out ⟨rfl, (ev_mall n2 h8).rt ((ev_in32 x 1 _ _).rt ⟨fun _ => j_MD_out ?_, fun h2 => absurd h2 (isSet_yes hc)⟩)⟩⟩⟩
      refine ⟨rfl, (ev_find m2 m3).rt ?_⟩
      rw [hf4]
      exact ⟨fun h2 => absurd h2 (by decide), fun h2 => ⟨rfl, inv0⟩⟩
    | some p =>
      rw [hfi] at hf4
      have hpM := (fi_some hfi).1
      obtain ⟨M, rfl⟩ : ∃ M', M = M' + 1 := ⟨M - 1, by omega⟩
      refine ⟨fun hd => j_MG_out ?_, fun hd => absurd (nI_pos' (n := p) (by omega)) hd⟩
      refine ⟨15, rfl, rfl, 1, rfl, rfl, rfl, (ev_note hf hp.2.1 hp.1).mono ?_⟩
      rintro r σ' ⟨rfl, I1, f', N1, rfl, hN1, hN2⟩
      have hnow := hN1.now hf hp.1 hN2
      refine ⟨1, rfl, rfl, rfl, (ev_removeAt st1 (by rw [hnow 1 (by omega)]; exact m1) m3 hpM).rv ⟨1, rfl, rfl, rfl, nI M, congrArg (fun z => some (Value.int z)) am_up_eq, ?_⟩⟩
      suffices key : ∀ I2, am_up (am_row I1 2 (rmv (I1 2) p (M + 1 - 1))) 1 1 (nI (M + 1 - 1)) = I2 → am_ev am_sh m_MD_out [.ref 236, .int x] (I2, J, am_Rf f' g) (fun r2 σ2 => r2 = some (.int (nI M)) ∧ Inv σ2) from key _ rfl
      intro I2 hI2e
      have hI2 : ∀ c, ¬ (1 ≤ c ∧ c ≤ 14) → I2 c = I1 c := fun c hc => by rw [← hI2e, up_cell (by omega), row_cell (by omega)]
      have i237 : I2 237 = I 237 := (hI2 237 (by omega)).trans (hnow 237 (by omega))
      have i236 : I2 236 = I 236 := (hI2 236 (by omega)).trans (hnow 236 (by omega))
      have hfd : fo (lst (fun k => I2 237 (4 + k)) x) (-4) (M + 1) = nI p := by rw [i237]; exact hf4
      refine s_MD_out ⟨rfl, (ev_mall (by rw [i237]; exact n2) h8).rt ((ev_in32 x 1 _ _).rt ⟨fun _ => j_MD_out ?_, fun h2 => absurd h2 (isSet_yes hc)⟩)⟩
      refine ⟨rfl, (ev_find (by rw [i237]; exact m2) m3).rt ?_⟩
      rw [hfd]
      refine ⟨fun _ => j_MD_out ?_, fun h2 => absurd (nI_pos' (n := p) (by omega)) h2⟩
      refine ⟨rfl, (ev_notes (N := N) (by rw [i236]; exact hp.2.2.1) hp.1).mono ?_⟩
      rintro r σ' ⟨rfl, I3, N2, rfl, hr1, hr2⟩
      have j237 : I3 237 = I 237 := (hr1.2.2.2.1 237 (by omega) (by omega)).trans i237
      refine ⟨rfl, (ev_goes (M := M) (by rw [j237]; exact m2) (by omega) (by omega)).rv ⟨237, rfl, rfl, 116, 1, rfl, by omega, rfl, congrArg (fun z => some (Value.int z)) ?_, ?_⟩⟩
      · rw [am_row_eq]
        unfold rmr
        rw [if_neg (by omega)]
        exact if_pos rfl
      · refine ⟨_, J, f', g, rfl, noted hf hg ⟨n, M + 1, K, gs, hR⟩ hp hO hN1 hN2 (fun c c1 _ => hI2 c c1) hr1 hr2 (fun c c1 => by rw [row_cell c1]) ⟨n, M, K, _, hR.rem (p := p) (by omega) (fun k hk => ?_) ?_ (fun c k c1 c2 c3 c4 => ?_) (fun k hk => ?_) ?_ (fun i i1 i2 => ?_)⟩⟩
        · rw [← hI2e, am_up_ne (by omega), am_row_eq]
          unfold rmv
          rw [hnow 2 (by omega)]
          by_cases e : p ≤ k
          · rw [if_pos (by omega), if_pos e]
          · rw [if_neg (by omega), if_neg e]
        · rw [← hI2e, am_up_eq]
          rfl
        · rw [← hI2e, am_up_ne (by omega), am_row_ne (by omega), hnow c (by omega)]
        · rw [am_row_eq, j237]
          unfold rmr upd
          by_cases e : p ≤ k
          · rw [if_pos (by omega), if_pos e, if_neg (by omega)]
            rfl
          · rw [if_neg (by omega), if_neg e, if_neg (by omega)]
        · rw [am_row_eq]
          unfold rmr
          rw [if_neg (by omega)]
          exact if_pos rfl
        · rw [am_row_eq, j237]
          unfold rmr upd
          rw [if_neg (by omega), if_neg (by omega)]
  · exact ⟨-1, rfl, s_MD_out ⟨rfl, (ev_mall n2 h8).rt ((ev_in32 x 1 _ _).rt ⟨fun h2 => absurd (isSet_no hc) h2, fun _ => ⟨rfl, inv0⟩⟩)⟩⟩
end T4
