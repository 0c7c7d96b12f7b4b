/-! steps noted on both sides; undo -/
section T2
variable {f g : Nat → Nat} {I : Nat → Nat → Int32} {J : Nat → Nat → Int64}
/-- C: the class's cells, I: the reference's -/
def PastC (C I : Nat → Nat → Int32) (f : Nat → Nat) (N : Nat) : Prop := N ≤ 6 ∧ C 15 0 = nI N ∧ I 236 19 = nI N ∧ ∀ j, j < N → RR C (f j) (fun i => I 248 (116 * j + i))
def Oth (I : Nat → Nat → Int32) (J : Nat → Nat → Int64) (g : Nat → Nat) : Prop := Img I g ∧ (∃ n, Tap I n) ∧ (∀ t, t < 4 → ∃ L, Shr I J t L) ∧ By3 I
theorem Rst.mk {N : Nat} (hf : Hf f) (hg : Hg g) (hp : PastC I I f N) (ho : Oth I J g) : Rst I J f g := ⟨hf, hg, ⟨N, hp⟩, ho⟩
def So (I' I : Nat → Nat → Int32) : Prop := (∀ c, ¬ Scr c → c ≠ 236 → c ≠ 237 → c ≠ 248 → ¬ (1 ≤ c ∧ c ≤ 100) → I' c = I c) ∧ I' 236 11 = I 236 11 ∧ I' 236 22 = I 236 22
theorem So.rf : So I I := ⟨fun _ _ _ _ _ _ => rfl, rfl, rfl⟩
theorem So.tr {I1 I2 I3 : Nat → Nat → Int32} (h : So I3 I2) (k : So I2 I1) : So I3 I1 := ⟨fun c h1 h2 h3 h4 h5 => (h.1 c h1 h2 h3 h4 h5).trans (k.1 c h1 h2 h3 h4 h5), h.2.1.trans k.2.1, h.2.2.trans k.2.2⟩
theorem Oth.so {I' : Nat → Nat → Int32} (hg : Hg g) (h : Oth I J g) (hs : So I' I) : Oth I' J g := by
  obtain ⟨h5, ⟨n, t1, t2, t3, t4⟩, h7, h8⟩ := h
  obtain ⟨s1, s2, s4⟩ := hs
  have e : ∀ c, ¬ Scr c → c ≠ 236 → c ≠ 237 → c ≠ 248 → ¬ (1 ≤ c ∧ c ≤ 100) → I' c = I c := s1
  refine ⟨?_, ⟨n, t1, by rw [e 203 (by unfold Scr; omega) (by omega) (by omega) (by omega) (by omega)]; exact t2, by rw [s2]; exact t3, fun k hk => ?_⟩, fun t ht => ?_, fun s hs => ?_⟩
  · rcases h5 with ⟨i1, i2⟩ | ⟨i1, N', i2, i3, i4, i5, i6⟩
    · exact Or.inl ⟨by rw [e 0 (by unfold Scr; omega) (by omega) (by omega) (by omega) (by omega)]; exact i1, by rw [s4]; exact i2⟩
    · refine Or.inr ⟨by rw [e 0 (by unfold Scr; omega) (by omega) (by omega) (by omega) (by omega)]; exact i1, N', i2, by rw [e 115 (by unfold Scr; omega) (by omega) (by omega) (by omega) (by omega)]; exact i3, by rw [s4]; exact i4, i5.congr (fun c c1 c2 => e c (by unfold Scr; omega) (by omega) (by omega) (by omega) (by omega)) (fun i hi => by rw [e 249 (by unfold Scr; omega) (by omega) (by omega) (by omega) (by omega)]), fun j hj => ?_⟩
      have := hg.lo (j := j) (by omega)
      exact (i6 j hj).congr (fun c c1 c2 => e c (by unfold Scr; omega) (by omega) (by omega) (by omega) (by omega)) (fun i hi => by rw [e 250 (by unfold Scr; omega) (by omega) (by omega) (by omega) (by omega)])
  · rw [e 204 (by unfold Scr; omega) (by omega) (by omega) (by omega) (by omega), e 245 (by unfold Scr; omega) (by omega) (by omega) (by omega) (by omega)]
    exact t4 k hk
  · obtain ⟨L, l1, l2, l3⟩ := h7 t ht
    refine ⟨L, l1, ?_, ?_⟩
    · rw [e (228 + 2 * t) (by unfold Scr; omega) (by omega) (by omega) (by omega) (by omega)]; exact l2
    · rw [e (228 + 2 * t) (by unfold Scr; omega) (by omega) (by omega) (by omega) (by omega), e 251 (by unfold Scr; omega) (by omega) (by omega) (by omega) (by omega), e 252 (by unfold Scr; omega) (by omega) (by omega) (by omega) (by omega)]; exact l3
  · rw [e 211 (by unfold Scr; omega) (by omega) (by omega) (by omega) (by omega)]; exact h8 s hs
theorem PastC.congr {C C' I I' : Nat → Nat → Int32} {N : Nat} (hf : Hf f) (h : PastC C I f N) (hC : ∀ c, 15 ≤ c → c ≤ 100 → C' c = C c) (h1 : I' 236 19 = I 236 19) (h2 : I' 248 = I 248) : PastC C' I' f N := by
  obtain ⟨a1, a2, a3, a4⟩ := h
  refine ⟨a1, by rw [hC 15 (by omega) (by omega)]; exact a2, by rw [h1]; exact a3, fun j hj => ?_⟩
  have := hf.lo (j := j) (by omega)
  exact (a4 j hj).congr (fun c c1 c2 => hC c (by omega) (by omega)) (fun i hi => by rw [h2])
theorem Hf.sep (h : Hf f) {i j : Nat} (hi : i < 6) (hj : j < 6) (hn : i ≠ j) : f i + 13 < f j ∨ f j + 13 < f i := by
  obtain ⟨a, a1, a2⟩ := h.1 i hi
  obtain ⟨b, b1, b2⟩ := h.1 j hj
  have : f i ≠ f j := fun e => hn (h.2 i j hi hj e)
  omega
/-- a step is noted by both -/
theorem note_rel {C C' I I' : Nat → Nat → Int32} {f' : Nat → Nat} {N N1 N2 : Nat} (hf : Hf f) (hR : RR C 1 (I 237)) (hp : PastC C I f N) (hc : Nt C' C f' N1) (hcc : (N < 6 ∧ f' = f ∧ N1 = N) ∨ (N = 6 ∧ f' = rot f ∧ N1 = 5)) (hr : NtR I' I N N2) (hrr : (N < 6 ∧ N2 = N) ∨ (N = 6 ∧ N2 = 5)) : Hf f' ∧ PastC C' I' f' (N2 + 1) ∧ RR C' 1 (I' 237) := by
  have e12 : N1 = N2 := by omega
  subst e12
  have h6 := hp.1
  have hf' : Hf f' := by
    rcases hcc with ⟨_, rfl, _⟩ | ⟨_, rfl, _⟩
    · exact hf
    · exact rot_Hf hf
  have hN5 : N1 < 6 := by omega
  have hlo := hf'.lo hN5
  obtain ⟨c1, c2, c3⟩ := hc
  obtain ⟨r1, r2, r3, r4, r5⟩ := hr
  have hnow : ∀ c, 1 ≤ c → c ≤ 14 → C' c = C c := fun c d1 d2 => c3 c (by omega) (by omega)
  refine ⟨hf', ⟨by omega, c2, r1, fun j hj => ?_⟩, hR.congr (fun c d1 d2 => hnow c (by omega) (by omega)) (fun i hi => by rw [r4 237 (by omega) (by omega)])⟩
  by_cases hjN : j = N1
  · subst hjN
    have h := hR.cp c1
    exact h.congr (fun _ _ _ => rfl) (fun i hi => r2 i hi)
  · have hj6 : j < N1 := by omega
    have hlj := hf'.lo (j := j) (by omega)
    have hsep := hf'.sep (i := j) (j := N1) (by omega) hN5 hjN
    have src : RR C (f' j) (fun i => I 248 (116 * (j + (N - N1)) + i)) := by
      rcases hcc with ⟨hlt, e1, e2⟩ | ⟨h66, e1, e2⟩
      · subst e1
        rw [e2, show j + (N - N) = j by omega]
        exact hp.2.2.2 j (by omega)
      · subst e1
        have : rot f j = f (j + 1) := by
          unfold rot shf
          rw [if_neg (by omega), if_pos (by omega)]
        rw [this, show j + (N - N1) = j + 1 by omega]
        exact hp.2.2.2 (j + 1) (by omega)
    refine src.congr (fun c d1 d2 => c3 c (by omega) (by omega)) (fun i hi => ?_)
    show I' 248 (116 * j + i) = I 248 (116 * (j + (N - N1)) + i)
    rw [r3 (116 * j + i) (by omega), show 116 * j + i + 116 * (N - N1) = 116 * (j + (N - N1)) + i by omega]
theorem lp_undo {N : Nat} {q : am_Q} (hN : I 236 19 = nI N) (h6 : N < 6) (hq : q (some (.int (nI N))) (am_row I 237 (wrA (I 237) (fun i => I 248 (116 * N + i)) 0 116), J, am_Rf f g)) : ∀ n k, n + k = 116 → am_u am_sh m_MD_undo q (am_at am_c_MD_undo 22) 22 [some (.ref 236), some (.int (nI k))] [] (am_row I 237 (wrA (I 237) (fun i => I 248 (116 * N + i)) 0 k), J, am_Rf f g) := by
  have e : ∀ k, am_row I 237 (wrA (I 237) (fun i => I 248 (116 * N + i)) 0 k) 236 19 = nI N := fun k => by rw [am_row_ne (by omega), hN]
  intro n
  induction n with
  | zero =>
    intro k hk
    obtain rfl : k = 116 := by omega
    refine br_t (nI_le (a := 116) (by omega) (by omega)) (j_MD_undo ⟨rfl, ?_⟩)
    show q (some (.int (am_row I 237 _ 236 19))) _
    rw [e]
    exact hq
  | succ n ih =>
    intro k hk
    refine br_f (nI_ge (b := 116) (by omega) (by omega)) ⟨237, rfl, rfl, 248, rfl, rfl, rfl, 696, 116 * N + k, rfl, by omega, ?_, 116, k, rfl, by omega, rfl, j_MD_undo ?_⟩
    · show nI 116 * (am_row I 237 _ 236 19) + nI k = _
      rw [e, nI_mul, nI_add]
    · have := wrA_up (G := I 237) (v := fun i => I 248 (116 * N + i)) (p := 0) (k := k)
      rw [Nat.zero_add] at this
      rw [show nI k + 1 = nI (k + 1) from nI_1 k, am_up_row, am_row_ne (by omega), this]
      exact ih (k + 1) (by omega)
theorem T_undo {σ : am_S} (h : Inv σ) : Both m_MG_undo m_MD_undo [] σ := by
  obtain ⟨I, J, f, g, rfl, hR, hf, hg, ⟨N, p1, p2, p3, p4⟩, hO⟩ := h
  refine s_MG_undo ⟨15, rfl, rfl, rfl, fun h1 => j_MG_undo ?_, fun h1 => ?_⟩
  · have hN0 : N ≠ 0 := fun e => h1 (by show I 15 0 = 0; rw [p2, e]; rfl)
    obtain ⟨N', rfl⟩ : ∃ N', N = N' + 1 := ⟨N - 1, by omega⟩
    refine ⟨15, rfl, rfl, 1, rfl, rfl, rfl, (ev_takeBack hf p2 (by omega)).mono ?_⟩
    rintro r σ' ⟨rfl, I1, rfl, c1, c2, c3⟩
    refine ⟨15, rfl, rfl, rfl, _, rfl, s_MD_undo ⟨rfl, fun h2 => j_MD_undo ⟨rfl, rfl, ?_⟩, fun h2 => ?_⟩⟩
    · have e19 : I1 236 19 = nI (N' + 1) := by rw [c3 236 (by omega) (by omega)]; exact p3
      rw [e19, nI_pred, c2]
      have hl := lp_undo (I := am_up I1 236 19 (nI N')) (f := f) (g := g) (J := J) (N := N') (q := fun r2 σ2 => r2 = some (.int (nI N')) ∧ Inv σ2) am_up_eq (by omega) ?_ 116 0 rfl
      · rw [wrA_0, am_row_id] at hl
        exact j_MD_undo hl
      · refine ⟨rfl, _, J, f, g, rfl, ?_, Rst.mk (N := N') hf hg ⟨by omega, ?_, ?_, fun j hj => ?_⟩ (Oth.so hg hO ⟨fun c d1 d2 d3 d4 d5 => ?_, ?_, ?_⟩)⟩
        · have hR1 := (p4 N' (by omega)).cp c1
          refine hR1.congr (fun c d1 d2 => by rw [row_cell (by omega), up_cell (by omega)]) (fun i hi => ?_)
          rw [am_row_eq]
          unfold wrA
          rw [if_pos (by omega)]
          show am_up I1 236 19 (nI N') 248 (116 * N' + (i - 0)) = _
          rw [am_up_ne (by omega), c3 248 (by omega) (by omega)]
          rfl
        · rw [row_cell (by omega), up_cell (by omega)]; exact c2
        · rw [row_cell (by omega), am_up_eq]
        · have := hf.lo (j := j) (by omega)
          refine (p4 j (by omega)).congr (fun c d1 d2 => by rw [row_cell (by omega), up_cell (by omega), c3 c (by omega) (by omega)]) (fun i hi => ?_)
          rw [row_cell (by omega), up_cell (by omega), c3 248 (by omega) (by omega)]
        · rw [row_cell (by omega), up_cell (by omega), c3 c (by omega) (by omega)]
        · rw [row_cell (by omega), am_up_ne (by omega), c3 236 (by omega) (by omega)]
        · rw [row_cell (by omega), am_up_ne (by omega), c3 236 (by omega) (by omega)]
    · exact absurd (by show I1 236 19 = 0; exact h2) (by rw [c3 236 (by omega) (by omega), p3]; exact nI_ne0 (by omega) (by omega))
  · refine ⟨-4, rfl, s_MD_undo ⟨rfl, fun h2 => absurd ?_ h2, fun h2 => ⟨rfl, I, J, f, g, rfl, hR, hf, hg, ⟨N, p1, p2, p3, p4⟩, hO⟩⟩⟩
    show I 236 19 = 0
    rw [p3, ← p2]
    exact h1
end T2
