/-! what holds between two calls: the class's cells and the reference's tell the same -/
def Rr (I : Nat → Nat → Int32) (a : Nat) (ρ : Nat → Int32) (n M K : Nat) (gs : Nat → Nat) : Prop :=
  (I a 0 = nI n ∧ ρ 0 = nI n ∧ 1 ≤ n ∧ n ≤ 7) ∧ (I a 1 = nI M ∧ ρ 1 = nI M ∧ M ≤ 12) ∧ (∀ k, k < M → I (a + 1) k = nI (gs k) ∧ ρ (4 + k) = nI (gs k) ∧ 1 ≤ gs k ∧ gs k < 2 ^ n) ∧ (∀ i j, i < M → j < M → gs i = gs j → i = j) ∧ (I a 3 = ρ 2 ∧ 0 ≤ ρ 2) ∧ (I (a + 2) 0 = nI K ∧ ρ 3 = nI K ∧ K ≤ 4) ∧
  (∀ p, p < K → I (a + 3) p = ρ (16 + 25 * p) ∧ ∀ i, i < 12 → I (a + 5 + p) i = ρ (16 + 25 * p + 1 + i) ∧ I (a + 10 + p) i = ρ (16 + 25 * p + 13 + i)) ∧ (∀ p i, p < K → i < 12 → ∃ s w, ρ (16 + 25 * p + 1 + i) = nI s ∧ s < 128 ∧ ρ (16 + 25 * p + 13 + i) = nI w ∧ w ≤ 99) ∧ ∀ p q, p < K → q < K → ρ (16 + 25 * p) = ρ (16 + 25 * q) → p = q
def RR (I : Nat → Nat → Int32) (a : Nat) (ρ : Nat → Int32) : Prop := ∃ n M K gs, Rr I a ρ n M K gs
theorem Rr.congr {I I' : Nat → Nat → Int32} {a : Nat} {ρ ρ' : Nat → Int32} {n M K : Nat} {gs : Nat → Nat} (h : Rr I a ρ n M K gs) (hI : ∀ c, a ≤ c → c ≤ a + 13 → I' c = I c) (hρ : ∀ i, i < 116 → ρ' i = ρ i) : Rr I' a ρ' n M K gs := by
  obtain ⟨h1, h2, h3, h4, h5, h6, h7, h8, h9⟩ := h
  refine ⟨?_, ?_, fun k hk => ?_, h4, ?_, ?_, fun p hp => ?_, fun p i hp hi => ?_, fun p q hp hq => ?_⟩
  · rw [hI a (by omega) (by omega), hρ 0 (by omega)]; exact h1
  · rw [hI a (by omega) (by omega), hρ 1 (by omega)]; exact h2
  · rw [hI (a + 1) (by omega) (by omega), hρ (4 + k) (by omega)]; exact h3 k hk
  · rw [hI a (by omega) (by omega), hρ 2 (by omega)]; exact h5
  · rw [hI (a + 2) (by omega) (by omega), hρ 3 (by omega)]; exact h6
  · obtain ⟨g1, g2⟩ := h7 p hp
    refine ⟨by rw [hI (a + 3) (by omega) (by omega), hρ (16 + 25 * p) (by omega)]; exact g1, fun i hi => ?_⟩
    rw [hI (a + 5 + p) (by omega) (by omega), hI (a + 10 + p) (by omega) (by omega), hρ (16 + 25 * p + 1 + i) (by omega), hρ (16 + 25 * p + 13 + i) (by omega)]
    exact g2 i hi
  · rw [hρ (16 + 25 * p + 1 + i) (by omega), hρ (16 + 25 * p + 13 + i) (by omega)]; exact h8 p i hp hi
  · rw [hρ (16 + 25 * p) (by omega), hρ (16 + 25 * q) (by omega)]; exact h9 p q hp hq
theorem RR.congr {I I' : Nat → Nat → Int32} {a : Nat} {ρ ρ' : Nat → Int32} (h : RR I a ρ) (hI : ∀ c, a ≤ c → c ≤ a + 13 → I' c = I c) (hρ : ∀ i, i < 116 → ρ' i = ρ i) : RR I' a ρ' := by
  obtain ⟨n, M, K, gs, h⟩ := h
  exact ⟨n, M, K, gs, h.congr hI hρ⟩
theorem Rr.cp {I I' : Nat → Nat → Int32} {a b : Nat} {ρ : Nat → Int32} {n M K : Nat} {gs : Nat → Nat} (h : Rr I b ρ n M K gs) (hc : Cp I' a I b) : Rr I' a ρ n M K gs := by
  obtain ⟨h1, h2, h3, h4, h5, h6, h7, h8, h9⟩ := h
  obtain ⟨⟨c1, c2, c3⟩, c4, c5, c6⟩ := hc
  refine ⟨by rw [c1]; exact h1, by rw [c2]; exact h2, fun k hk => by rw [c4 k (by omega)]; exact h3 k hk, h4, by rw [c3]; exact h5, by rw [c5]; exact h6, fun p hp => ?_, h8, h9⟩
  obtain ⟨g1, g2⟩ := h7 p hp
  obtain ⟨d1, d2⟩ := c6 p (by omega)
  refine ⟨by rw [d1]; exact g1, fun i hi => ?_⟩
  rw [(d2 i hi).1, (d2 i hi).2]
  exact g2 i hi
theorem RR.cp {I I' : Nat → Nat → Int32} {a b : Nat} {ρ : Nat → Int32} (h : RR I b ρ) (hc : Cp I' a I b) : RR I' a ρ := by
  obtain ⟨n, M, K, gs, h⟩ := h
  exact ⟨n, M, K, gs, h.cp hc⟩
def Past (I : Nat → Nat → Int32) (f : Nat → Nat) (N : Nat) : Prop := N ≤ 6 ∧ I 15 0 = nI N ∧ I 236 19 = nI N ∧ ∀ j, j < N → RR I (f j) (fun i => I 248 (116 * j + i))
def Img (I : Nat → Nat → Int32) (g : Nat → Nat) : Prop := (I 0 4 = 0 ∧ I 236 22 = -1) ∨ (I 0 4 = 1 ∧ ∃ N, N ≤ 6 ∧ I 115 0 = nI N ∧ I 236 22 = nI N ∧ RR I 101 (I 249) ∧ ∀ j, j < N → RR I (g j) (fun i => I 250 (116 * j + i)))
def Tap (I : Nat → Nat → Int32) (n : Nat) : Prop := n ≤ 90 ∧ I 203 0 = nI n ∧ I 236 11 = nI n ∧ ∀ k, k < n → I 204 k = I 245 k ∧ 32 ≤ I 245 k ∧ I 245 k ≤ 126
def Shr (I : Nat → Nat → Int32) (J : Nat → Nat → Int64) (t L : Nat) : Prop := L ≤ 24 ∧ I (228 + 2 * t) 2 = nI L ∧ ((I (228 + 2 * t) 0 = 0 ∧ I 251 t = -1) ∨ (I (228 + 2 * t) 0 = 1 ∧ I 252 t = nI L ∧ I (228 + 2 * t) 1 = I 251 t ∧ 0 ≤ I 251 t ∧ I 251 t ≤ 3 ∧ ∀ k, k < 24 → J (228 + 2 * t + 1) k = J 253 (24 * t + k)))
def th3 (s : Nat) : Nat := s % 2 + 3 * (s / 2 % 2) + 9 * (s / 4 % 2) + 27 * (s / 8 % 2) + 81 * (s / 16 % 2) + 243 * (s / 32 % 2) + 729 * (s / 64 % 2)
def By3 (I : Nat → Nat → Int32) : Prop := ∀ s, s < 128 → I 211 s = nI (th3 s)
/-- all that is kept, but for the rows of now -/
def Rst (I : Nat → Nat → Int32) (J : Nat → Nat → Int64) (f g : Nat → Nat) : Prop := Hf f ∧ Hg g ∧ (∃ N, Past I f N) ∧ Img I g ∧ (∃ n, Tap I n) ∧ (∀ t, t < 4 → ∃ L, Shr I J t L) ∧ By3 I
def Inv (σ : am_S) : Prop := ∃ I J f g, σ = (I, J, am_Rf f g) ∧ RR I 1 (I 237) ∧ Rst I J f g
/-- cells that hold nothing between two calls -/
def Scr (c : Nat) : Prop := c = 201 ∨ c = 202 ∨ (205 ≤ c ∧ c ≤ 210) ∨ (212 ≤ c ∧ c ≤ 226) ∨ (238 ≤ c ∧ c ≤ 244) ∨ c = 246 ∨ c = 247
/-- only such cells, and the reference's own numbers, have changed -/
def Sm (I' I : Nat → Nat → Int32) : Prop := (∀ c, ¬ Scr c → c ≠ 236 → I' c = I c) ∧ I' 236 11 = I 236 11 ∧ I' 236 19 = I 236 19 ∧ I' 236 22 = I 236 22
theorem Hf.lo {f : Nat → Nat} (h : Hf f) {j : Nat} (hj : j < 6) : 17 ≤ f j ∧ f j ≤ 87 := by
  obtain ⟨i, h1, h2⟩ := h.1 j hj
  omega
theorem Hg.lo {g : Nat → Nat} (h : Hg g) {j : Nat} (hj : j < 6) : 117 ≤ g j ∧ g j ≤ 187 := by
  obtain ⟨i, h1, h2⟩ := h.1 j hj
  omega
/-- the same, and now's cells may have changed -/
def Sn (I' I : Nat → Nat → Int32) : Prop := (∀ c, ¬ Scr c → c ≠ 236 → c ≠ 237 → ¬ (1 ≤ c ∧ c ≤ 14) → I' c = I c) ∧ I' 236 11 = I 236 11 ∧ I' 236 19 = I 236 19 ∧ I' 236 22 = I 236 22
theorem Sm.sn {I I' : Nat → Nat → Int32} (h : Sm I' I) : Sn I' I := ⟨fun c h1 h2 _ _ => h.1 c h1 h2, h.2⟩
theorem Rst.sn {I I' : Nat → Nat → Int32} {J : Nat → Nat → Int64} {f g : Nat → Nat} (h : Rst I J f g) (hs : Sn I' I) : Rst I' J f g := by
  obtain ⟨hf, hg, ⟨N, h1, h2, h3, h4⟩, h5, ⟨n, t1, t2, t3, t4⟩, h7, h8⟩ := h
  obtain ⟨s1, s2, s3, s4⟩ := hs
  have e : ∀ c, c ≤ 200 → ¬ (1 ≤ c ∧ c ≤ 14) → I' c = I c := fun c hc hd => s1 c (by unfold Scr; omega) (by omega) (by omega) hd
  refine ⟨hf, hg, ⟨N, h1, by rw [e 15 (by omega) (by omega)]; exact h2, by rw [s3]; exact h3, fun j hj => ?_⟩, ?_, ⟨n, t1, by rw [s1 203 (by unfold Scr; omega) (by omega) (by omega) (by omega)]; exact t2, by rw [s2]; exact t3, fun k hk => ?_⟩, fun t ht => ?_, fun s hs => ?_⟩
  · have := hf.lo (j := j) (by omega)
    exact (h4 j hj).congr (fun c c1 c2 => e c (by omega) (by omega)) (fun i hi => by rw [s1 248 (by unfold Scr; omega) (by omega) (by omega) (by omega)])
  · rcases h5 with ⟨i1, i2⟩ | ⟨i1, N', i2, i3, i4, i5, i6⟩
    · exact Or.inl ⟨by rw [e 0 (by omega) (by omega)]; exact i1, by rw [s4]; exact i2⟩
    · refine Or.inr ⟨by rw [e 0 (by omega) (by omega)]; exact i1, N', i2, by rw [e 115 (by omega) (by omega)]; exact i3, by rw [s4]; exact i4, i5.congr (fun c c1 c2 => e c (by omega) (by omega)) (fun i hi => by rw [s1 249 (by unfold Scr; omega) (by omega) (by omega) (by omega)]), fun j hj => ?_⟩
      have := hg.lo (j := j) (by omega)
      exact (i6 j hj).congr (fun c c1 c2 => e c (by omega) (by omega)) (fun i hi => by rw [s1 250 (by unfold Scr; omega) (by omega) (by omega) (by omega)])
  · rw [s1 204 (by unfold Scr; omega) (by omega) (by omega) (by omega), s1 245 (by unfold Scr; omega) (by omega) (by omega) (by omega)]
    exact t4 k hk
  · obtain ⟨L, l1, l2, l3⟩ := h7 t ht
    refine ⟨L, l1, ?_, ?_⟩
    · rw [s1 (228 + 2 * t) (by unfold Scr; omega) (by omega) (by omega) (by omega)]; exact l2
    · rw [s1 (228 + 2 * t) (by unfold Scr; omega) (by omega) (by omega) (by omega), s1 251 (by unfold Scr; omega) (by omega) (by omega) (by omega), s1 252 (by unfold Scr; omega) (by omega) (by omega) (by omega)]; exact l3
  · rw [s1 211 (by unfold Scr; omega) (by omega) (by omega) (by omega)]; exact h8 s hs
theorem Rst.sm {I I' : Nat → Nat → Int32} {J : Nat → Nat → Int64} {f g : Nat → Nat} (h : Rst I J f g) (hs : Sm I' I) : Rst I' J f g := h.sn hs.sn
theorem Inv.sm {I I' : Nat → Nat → Int32} {J : Nat → Nat → Int64} {f g : Nat → Nat} (h : RR I 1 (I 237)) (hr : Rst I J f g) (hs : Sm I' I) : RR I' 1 (I' 237) ∧ Rst I' J f g :=
  ⟨h.congr (fun c c1 c2 => hs.1 c (by unfold Scr; omega) (by omega)) (fun i _ => by rw [hs.1 237 (by unfold Scr; omega) (by omega)]), hr.sm hs⟩
theorem Sm.rf {I : Nat → Nat → Int32} : Sm I I := ⟨fun _ _ _ => rfl, rfl, rfl, rfl⟩
/-- a call on both: the same answer, and all is kept -/
def Both (mg md : Nat) (as : List Value) (σ : am_S) : Prop := am_ev am_sh mg (.ref 0 :: as) σ (fun r σ1 => ∃ x, r = some (.int x) ∧ am_ev am_sh md (.ref 236 :: as) σ1 (fun r2 σ2 => r2 = some (.int x) ∧ Inv σ2))
section T1
variable {I : Nat → Nat → Int32} {J : Nat → Nat → Int64} {f g : Nat → Nat}
theorem Rr.gm {a n M K : Nat} {gs : Nat → Nat} (h : Rr I a (I 237) n M K gs) : Gm I M gs := by
  have h7 := pow_le7 (n := n) (by have := h.1.2.2.2; omega)
  exact ⟨h.2.1.2.1, h.2.1.2.2, fun k hk => ⟨(h.2.2.1 k hk).2.1, by have := (h.2.2.1 k hk).2.2.2; omega⟩⟩
theorem st1 : St f g 1 := St_of (Or.inl rfl)
end T1
