/-! image and restore on both -/
section T6
variable {f g : Nat → Nat} {I : Nat → Nat → Int32} {J : Nat → Nat → Int64}
theorem wrA0_up {G v : Nat → Int32} {k : Nat} : upd (wrA G v 0 k) k (v k) = wrA G v 0 (k + 1) := by
  have := wrA_up (G := G) (v := v) (p := 0) (k := k)
  rw [Nat.zero_add] at this
  exact this
theorem wrA0_lt {G v : Nat → Int32} {k j : Nat} (h : j < k) : wrA G v 0 k j = v j := by
  unfold wrA
  rw [if_pos (by omega)]
  rfl
theorem lp_image1 {q : am_Q} (hq : am_run am_sh m_MD_image q 26 [some (.ref 236), some (.int (nI 116))] [] (am_row I 249 (wrA (I 249) (I 237) 0 116), J, am_Rf f g)) : ∀ n k, n + k = 116 → am_u am_sh m_MD_image q (am_at am_c_MD_image 2) 2 [some (.ref 236), some (.int (nI k))] [] (am_row I 249 (wrA (I 249) (I 237) 0 k), J, am_Rf f g) := by
  intro n
  induction n with
  | zero =>
    intro k hk
    obtain rfl : k = 116 := by omega
    exact br_t (nI_le (a := 116) (by omega) (by omega)) hq
  | succ n ih =>
    intro k hk
    refine br_f (nI_ge (b := 116) (by omega) (by omega)) ⟨249, rfl, rfl, 237, rfl, rfl, 116, k, rfl, by omega, rfl, 116, k, rfl, by omega, rfl, j_MD_image ?_⟩
    rw [show nI k + 1 = nI (k + 1) from nI_1 k, am_up_row, am_row_ne (by omega), wrA0_up]
    exact ih (k + 1) (by omega)
theorem lp_image2 {q : am_Q} (hq : am_run am_sh m_MD_image q 53 [some (.ref 236), some (.int (nI 696))] [] (am_row I 250 (wrA (I 250) (I 248) 0 696), J, am_Rf f g)) : ∀ n k, n + k = 696 → am_u am_sh m_MD_image q (am_at am_c_MD_image 28) 28 [some (.ref 236), some (.int (nI k))] [] (am_row I 250 (wrA (I 250) (I 248) 0 k), J, am_Rf f g) := by
  intro n
  induction n with
  | zero =>
    intro k hk
    obtain rfl : k = 696 := by omega
    exact br_t (nI_le (a := 696) (by omega) (by omega)) hq
  | succ n ih =>
    intro k hk
    refine br_f (nI_ge (b := 696) (by omega) (by omega)) ⟨250, rfl, rfl, 248, rfl, rfl, 696, k, rfl, by omega, rfl, 696, k, rfl, by omega, rfl, j_MD_image ?_⟩
    rw [show nI k + 1 = nI (k + 1) from nI_1 k, am_up_row, am_row_ne (by omega), wrA0_up]
    exact ih (k + 1) (by omega)
theorem ev_image : am_ev am_sh m_MD_image [.ref 236] (I, J, am_Rf f g) (fun r σ' => r = some (.int 1) ∧ ∃ I', σ' = (I', J, am_Rf f g) ∧ (∀ i, i < 116 → I' 249 i = I 237 i) ∧ (∀ i, i < 696 → I' 250 i = I 248 i) ∧ I' 236 22 = I 236 19 ∧ (∀ c, c ≠ 236 → c ≠ 249 → c ≠ 250 → I' c = I c) ∧ ∀ k, k ≠ 22 → I' 236 k = I 236 k) := by
  refine s_MD_image (j_MD_image ?_)
  have h := lp_image1 (I := I) (f := f) (g := g) (J := J) (q := fun r σ' => r = some (.int 1) ∧ ∃ I', σ' = (I', J, am_Rf f g) ∧ (∀ i, i < 116 → I' 249 i = I 237 i) ∧ (∀ i, i < 696 → I' 250 i = I 248 i) ∧ I' 236 22 = I 236 19 ∧ (∀ c, c ≠ 236 → c ≠ 249 → c ≠ 250 → I' c = I c) ∧ ∀ k, k ≠ 22 → I' 236 k = I 236 k) ?_ 116 0 rfl
  · rw [wrA_0, am_row_id] at h
    exact h
  · refine j_MD_image (j_MD_image ?_)
    have h := lp_image2 (I := am_row I 249 (wrA (I 249) (I 237) 0 116)) (f := f) (g := g) (J := J) (q := fun r σ' => r = some (.int 1) ∧ ∃ I', σ' = (I', J, am_Rf f g) ∧ (∀ i, i < 116 → I' 249 i = I 237 i) ∧ (∀ i, i < 696 → I' 250 i = I 248 i) ∧ I' 236 22 = I 236 19 ∧ (∀ c, c ≠ 236 → c ≠ 249 → c ≠ 250 → I' c = I c) ∧ ∀ k, k ≠ 22 → I' 236 k = I 236 k) ?_ 696 0 rfl
    · rw [wrA_0, am_row_id] at h
      exact h
    · refine j_MD_image ⟨rfl, rfl, rfl, _, rfl, fun i hi => ?_, fun i hi => ?_, ?_, fun c c1 c2 c3 => ?_, fun k hk => ?_⟩
      · rw [up_cell (by omega), row_cell (by omega), am_row_eq, wrA0_lt hi]
      · rw [up_cell (by omega), am_row_eq, wrA0_lt hi, row_cell (by omega)]
      · rw [am_up_eq, row_cell (by omega), row_cell (by omega)]
      · rw [up_cell (by omega), row_cell (by omega), row_cell (by omega)]
      · rw [am_up_ne (by omega), row_cell (by omega), row_cell (by omega)]
theorem lp_restore1 {q : am_Q} (hq : am_run am_sh m_MD_restore q 36 [some (.ref 236), some (.int (nI 116))] [] (am_row I 237 (wrA (I 237) (I 249) 0 116), J, am_Rf f g)) : ∀ n k, n + k = 116 → am_u am_sh m_MD_restore q (am_at am_c_MD_restore 12) 12 [some (.ref 236), some (.int (nI k))] [] (am_row I 237 (wrA (I 237) (I 249) 0 k), J, am_Rf f g) := by
  intro n
  induction n with
  | zero =>
    intro k hk
    obtain rfl : k = 116 := by omega
    exact br_t (nI_le (a := 116) (by omega) (by omega)) hq
  | succ n ih =>
    intro k hk
    refine br_f (nI_ge (b := 116) (by omega) (by omega)) ⟨237, rfl, rfl, 249, rfl, rfl, 116, k, rfl, by omega, rfl, 116, k, rfl, by omega, rfl, j_MD_restore ?_⟩
    rw [show nI k + 1 = nI (k + 1) from nI_1 k, am_up_row, am_row_ne (by omega), wrA0_up]
    exact ih (k + 1) (by omega)
theorem lp_restore2 {q : am_Q} (hq : am_run am_sh m_MD_restore q 63 [some (.ref 236), some (.int (nI 696))] [] (am_row I 248 (wrA (I 248) (I 250) 0 696), J, am_Rf f g)) : ∀ n k, n + k = 696 → am_u am_sh m_MD_restore q (am_at am_c_MD_restore 38) 38 [some (.ref 236), some (.int (nI k))] [] (am_row I 248 (wrA (I 248) (I 250) 0 k), J, am_Rf f g) := by
  intro n
  induction n with
  | zero =>
    intro k hk
    obtain rfl : k = 696 := by omega
    exact br_t (nI_le (a := 696) (by omega) (by omega)) hq
  | succ n ih =>
    intro k hk
    refine br_f (nI_ge (b := 696) (by omega) (by omega)) ⟨248, rfl, rfl, 250, rfl, rfl, 696, k, rfl, by omega, rfl, 696, k, rfl, by omega, rfl, j_MD_restore ?_⟩
    rw [show nI k + 1 = nI (k + 1) from nI_1 k, am_up_row, am_row_ne (by omega), wrA0_up]
    exact ih (k + 1) (by omega)
theorem ev_restore (h0 : 0 ≤ I 236 22) : am_ev am_sh m_MD_restore [.ref 236] (I, J, am_Rf f g) (fun r σ' => r = some (.int 1) ∧ ∃ I', σ' = (I', J, am_Rf f g) ∧ (∀ i, i < 116 → I' 237 i = I 249 i) ∧ (∀ i, i < 696 → I' 248 i = I 250 i) ∧ I' 236 19 = I 236 22 ∧ (∀ c, c ≠ 236 → c ≠ 237 → c ≠ 248 → I' c = I c) ∧ ∀ k, k ≠ 19 → I' 236 k = I 236 k) := by
  refine s_MD_restore ⟨rfl, fun h1 => j_MD_restore (j_MD_restore ?_), fun h1 => absurd h0 h1⟩
  have h := lp_restore1 (I := I) (f := f) (g := g) (J := J) (q := fun r σ' => r = some (.int 1) ∧ ∃ I', σ' = (I', J, am_Rf f g) ∧ (∀ i, i < 116 → I' 237 i = I 249 i) ∧ (∀ i, i < 696 → I' 248 i = I 250 i) ∧ I' 236 19 = I 236 22 ∧ (∀ c, c ≠ 236 → c ≠ 237 → c ≠ 248 → I' c = I c) ∧ ∀ k, k ≠ 19 → I' 236 k = I 236 k) ?_ 116 0 rfl
  · rw [wrA_0, am_row_id] at h
    exact h
  · refine j_MD_restore (j_MD_restore ?_)
    have h := lp_restore2 (I := am_row I 237 (wrA (I 237) (I 249) 0 116)) (f := f) (g := g) (J := J) (q := fun r σ' => r = some (.int 1) ∧ ∃ I', σ' = (I', J, am_Rf f g) ∧ (∀ i, i < 116 → I' 237 i = I 249 i) ∧ (∀ i, i < 696 → I' 248 i = I 250 i) ∧ I' 236 19 = I 236 22 ∧ (∀ c, c ≠ 236 → c ≠ 237 → c ≠ 248 → I' c = I c) ∧ ∀ k, k ≠ 19 → I' 236 k = I 236 k) ?_ 696 0 rfl
    · rw [wrA_0, am_row_id] at h
      exact h
    · refine j_MD_restore ⟨rfl, rfl, rfl, _, rfl, fun i hi => ?_, fun i hi => ?_, ?_, fun c c1 c2 c3 => ?_, fun k hk => ?_⟩
      · rw [up_cell (by omega), row_cell (by omega), am_row_eq, wrA0_lt hi]
      · rw [up_cell (by omega), am_row_eq, wrA0_lt hi, row_cell (by omega)]
      · rw [am_up_eq, row_cell (by omega), row_cell (by omega)]
      · rw [up_cell (by omega), row_cell (by omega), row_cell (by omega)]
      · rw [am_up_ne (by omega), row_cell (by omega), row_cell (by omega)]
theorem Tap.congr {I' : Nat → Nat → Int32} {n : Nat} (h : Tap I n) (h1 : I' 203 = I 203) (h2 : I' 204 = I 204) (h3 : I' 245 = I 245) (h4 : I' 236 11 = I 236 11) : Tap I' n := by
  obtain ⟨a, b, c, d⟩ := h
  refine ⟨a, by rw [h1]; exact b, by rw [h4]; exact c, fun k hk => ?_⟩
  rw [h2, h3]
  exact d k hk
theorem Shr.congr {I' : Nat → Nat → Int32} {t L : Nat} (h : Shr I J t L) (h1 : I' (228 + 2 * t) = I (228 + 2 * t)) (h2 : I' 251 = I 251) (h3 : I' 252 = I 252) : Shr I' J t L := by
  obtain ⟨a, b, c⟩ := h
  refine ⟨a, by rw [h1]; exact b, ?_⟩
  rw [h1, h2, h3]
  exact c
theorem T_image {σ : am_S} (h : Inv σ) : Both m_MG_image m_MD_image [] σ := by
  obtain ⟨I, J, f, g, rfl, hR, hf, hg, ⟨N, p1, p2, p3, p4⟩, hI, ⟨n, ht⟩, hsh, hby⟩ := h
  refine s_MG_image ⟨101, rfl, rfl, 1, rfl, rfl, rfl, (ev_becomes (St_of (Or.inr (Or.inl rfl))) st1 (Or.inr (by omega))).mono ?_⟩
  rintro r σ' ⟨rfl, I1, rfl, c1, c2⟩
  refine ⟨115, rfl, rfl, 15, rfl, rfl, rfl, (ev_toImage hf hg p1 (by rw [c2 15 (by omega)]; exact p2)).mono ?_⟩
  rintro r σ' ⟨rfl, I2, rfl, d1, d2, d3⟩
  refine ⟨rfl, Or.inr rfl, 1, rfl, ev_image.mono ?_⟩
  rintro r σ' ⟨rfl, I3, rfl, e1, e2, e3, e4, e5⟩
  have hglo : ∀ j, j < N → 117 ≤ g j ∧ g j ≤ 187 := fun j hj => hg.lo (by omega)
  have h2 : ∀ c, c ≠ 115 → (c ≤ 100 ∨ 201 ≤ c) → I2 c = I c := fun c q1 q2 => by
    rw [d3 c q1 (fun j hj => by have := hglo j hj; omega), c2 c (by omega)]
  have h3 : ∀ c, c ≠ 0 → c ≠ 236 → c ≠ 249 → c ≠ 250 → (c ≤ 100 ∨ 201 ≤ c) → I3 c = I c := fun c q1 q2 q3 q4 q5 => by
    rw [e4 c q2 q3 q4, up_cell q1, h2 c (by omega) q5]
  have h4 : ∀ c, 101 ≤ c → c ≤ 200 → I3 c = I2 c := fun c q1 q2 => by
    rw [e4 c (by omega) (by omega) (by omega), up_cell (by omega)]
  refine ⟨rfl, I3, J, f, g, rfl, ?_, hf, hg, ⟨N, p1, ?_, ?_, fun j hj => ?_⟩, Or.inr ⟨?_, N, p1, ?_, ?_, ?_, fun j hj => ?_⟩, ⟨n, ht.congr (h3 203 (by omega) (by omega) (by omega) (by omega) (by omega)) (h3 204 (by omega) (by omega) (by omega) (by omega) (by omega)) (h3 245 (by omega) (by omega) (by omega) (by omega) (by omega)) ?_⟩, fun t ht => ?_, fun s hs => ?_⟩
  · exact hR.congr (fun c q1 q2 => h3 c (by omega) (by omega) (by omega) (by omega) (by omega)) (fun i _ => by rw [h3 237 (by omega) (by omega) (by omega) (by omega) (by omega)])
  · rw [h3 15 (by omega) (by omega) (by omega) (by omega) (by omega)]; exact p2
  · rw [e5 19 (by omega), up_cell (by omega), h2 236 (by omega) (by omega)]; exact p3
  · have := hf.lo (j := j) (by omega)
    exact (p4 j hj).congr (fun c q1 q2 => h3 c (by omega) (by omega) (by omega) (by omega) (by omega)) (fun i _ => by rw [h3 248 (by omega) (by omega) (by omega) (by omega) (by omega)])
  · rw [e4 0 (by omega) (by omega) (by omega), am_up_eq]
  · rw [h4 115 (by omega) (by omega)]; exact d1
  · rw [e3, up_cell (by omega), h2 236 (by omega) (by omega)]; exact p3
  · have hc := (hR.cp c1).congr (I' := I3) (ρ' := I3 249) (fun c q1 q2 => by
      rw [h4 c (by omega) (by omega), d3 c (by omega) (fun j hj => by have := hglo j hj; omega)]) (fun i hi => by
      rw [e1 i hi, up_cell (by omega), h2 237 (by omega) (by omega)])
    exact hc
  · have hgj := hglo j hj
    have hfj := hf.lo (j := j) (by omega)
    have hc := ((p4 j hj).cp ((d2 j hj).of (I3 := I) (fun c q1 q2 => c2 c (by omega)))).congr (I' := I3) (ρ' := fun i => I3 250 (116 * j + i)) (fun c q1 q2 => h4 c (by omega) (by omega)) (fun i hi => by
      show I3 250 (116 * j + i) = I 248 (116 * j + i)
      rw [e2 _ (by omega), up_cell (by omega), h2 248 (by omega) (by omega)])
    exact hc
  · rw [e5 11 (by omega), up_cell (by omega), h2 236 (by omega) (by omega)]
  · obtain ⟨L, hL⟩ := hsh t ht
    exact ⟨L, hL.congr (h3 _ (by omega) (by omega) (by omega) (by omega) (by omega)) (h3 251 (by omega) (by omega) (by omega) (by omega) (by omega)) (h3 252 (by omega) (by omega) (by omega) (by omega) (by omega))⟩
  · rw [h3 211 (by omega) (by omega) (by omega) (by omega) (by omega)]; exact hby s hs
theorem T_restore {σ : am_S} (h : Inv σ) : Both m_MG_restore m_MD_restore [] σ := by
  obtain ⟨I, J, f, g, rfl, hR, hf, hg, ⟨N, hp⟩, hI, ⟨n, ht⟩, hsh, hby⟩ := h
  have inv0 : Inv (I, J, am_Rf f g) := ⟨I, J, f, g, rfl, hR, hf, hg, ⟨N, hp⟩, hI, ⟨n, ht⟩, hsh, hby⟩
  rcases hI with ⟨i1, i2⟩ | ⟨i1, N', i2, i3, i4, i5, i6⟩
  · refine s_MG_restore ⟨rfl, fun h1 => absurd i1 h1, fun h1 => ⟨-4, rfl, s_MD_restore ⟨rfl, fun h2 => ?_, fun h2 => ⟨rfl, inv0⟩⟩⟩⟩
    have h2 : 0 ≤ I 236 22 := h2
    rw [i2] at h2
    exact absurd h2 (by decide)
  · refine s_MG_restore ⟨rfl, fun h1 => j_MG_restore ?_, fun h1 => ?_⟩
    · refine ⟨1, rfl, rfl, 101, rfl, rfl, rfl, (ev_becomes st1 (St_of (Or.inr (Or.inl rfl))) (Or.inl (by omega))).mono ?_⟩
      rintro r σ' ⟨rfl, I1, rfl, c1, c2⟩
      refine ⟨15, rfl, rfl, 115, rfl, rfl, rfl, (ev_fromImage hf hg i2 (by rw [c2 115 (by omega)]; exact i3)).mono ?_⟩
      rintro r σ' ⟨rfl, I2, rfl, d1, d2, d3⟩
      have hflo : ∀ j, j < N' → 17 ≤ f j ∧ f j ≤ 87 := fun j hj => hf.lo (by omega)
      have h2 : ∀ c, (c = 0 ∨ 101 ≤ c) → I2 c = I c := fun c q2 => by
        rw [d3 c (by omega) (fun j hj => by have := hflo j hj; omega), c2 c (by omega)]
      refine ⟨1, rfl, (ev_restore (by rw [h2 236 (by omega), i4]; exact nI_pos' (by omega))).mono ?_⟩
      rintro r σ' ⟨rfl, I3, rfl, e1, e2, e3, e4, e5⟩
      have h3 : ∀ c, c ≠ 236 → c ≠ 237 → c ≠ 248 → (c = 0 ∨ 101 ≤ c) → I3 c = I c := fun c q1 q2 q3 q4 => by
        rw [e4 c q1 q2 q3, h2 c q4]
      have h4 : ∀ c, c ≤ 100 → I3 c = I2 c := fun c q1 => e4 c (by omega) (by omega) (by omega)
      refine ⟨rfl, I3, J, f, g, rfl, ?_, hf, hg, ⟨N', i2, ?_, ?_, fun j hj => ?_⟩, Or.inr ⟨?_, N', i2, ?_, ?_, ?_, fun j hj => ?_⟩, ⟨n, ht.congr (h3 203 (by omega) (by omega) (by omega) (by omega)) (h3 204 (by omega) (by omega) (by omega) (by omega)) (h3 245 (by omega) (by omega) (by omega) (by omega)) ?_⟩, fun t ht => ?_, fun s hs => ?_⟩
      · exact (i5.cp c1).congr (fun c q1 q2 => by
          rw [h4 c (by omega), d3 c (by omega) (fun j hj => by have := hflo j hj; omega)]) (fun i hi => by
          rw [e1 i hi, h2 249 (by omega)])
      · rw [h4 15 (by omega)]; exact d1
      · rw [e3, h2 236 (by omega)]; exact i4
      · have hfj := hflo j hj
        have hgj := hg.lo (j := j) (by omega)
        exact ((i6 j hj).cp ((d2 j hj).of (I3 := I) (fun c q1 q2 => c2 c (by omega)))).congr (fun c q1 q2 => h4 c (by omega)) (fun i hi => by
          show I3 248 (116 * j + i) = I 250 (116 * j + i)
          rw [e2 _ (by omega), h2 250 (by omega)])
      · rw [h3 0 (by omega) (by omega) (by omega) (by omega)]; exact i1
      · rw [h3 115 (by omega) (by omega) (by omega) (by omega)]; exact i3
      · rw [e5 22 (by omega), h2 236 (by omega)]; exact i4
      · exact i5.congr (fun c q1 q2 => h3 c (by omega) (by omega) (by omega) (by omega)) (fun i _ => by rw [h3 249 (by omega) (by omega) (by omega) (by omega)])
      · have hgj := hg.lo (j := j) (by omega)
        exact (i6 j hj).congr (fun c q1 q2 => h3 c (by omega) (by omega) (by omega) (by omega)) (fun i _ => by rw [h3 250 (by omega) (by omega) (by omega) (by omega)])
      · rw [e5 11 (by omega), h2 236 (by omega)]
      · obtain ⟨L, hL⟩ := hsh t ht
        exact ⟨L, hL.congr (h3 _ (by omega) (by omega) (by omega) (by omega)) (h3 251 (by omega) (by omega) (by omega) (by omega)) (h3 252 (by omega) (by omega) (by omega) (by omega))⟩
      · rw [h3 211 (by omega) (by omega) (by omega) (by omega)]; exact hby s hs
    · have h1 : I 0 4 = 0 := h1
      rw [i1] at h1
      exact absurd h1 (by decide)
end T6
