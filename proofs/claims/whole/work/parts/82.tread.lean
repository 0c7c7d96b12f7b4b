/-! read on both -/
theorem Cp.congr {A A' B B' : Nat → Nat → Int32} {a b : Nat} (h : Cp A a B b) (hA : ∀ c, a ≤ c → c ≤ a + 13 → A' c = A c) (hB : ∀ c, b ≤ c → c ≤ b + 13 → B' c = B c) : Cp A' a B' b := by
  obtain ⟨h1, h2, h3, h4⟩ := h
  refine ⟨?_, fun k hk => ?_, ?_, fun t ht => ⟨?_, fun k hk => ?_⟩⟩
  · rw [hA a (by omega) (by omega), hB b (by omega) (by omega)]; exact h1
  · rw [hA (a + 1) (by omega) (by omega), hB (b + 1) (by omega) (by omega)]; exact h2 k hk
  · rw [hA (a + 2) (by omega) (by omega), hB (b + 2) (by omega) (by omega)]; exact h3
  · rw [hA (a + 3) (by omega) (by omega), hB (b + 3) (by omega) (by omega)]; exact (h4 t ht).1
  · rw [hA (a + 5 + t) (by omega) (by omega), hB (b + 5 + t) (by omega) (by omega), hA (a + 10 + t) (by omega) (by omega), hB (b + 10 + t) (by omega) (by omega)]; exact (h4 t ht).2 k hk
/-- the tape is empty, all else is kept -/
theorem Rst.tape {I I' : Nat → Nat → Int32} {J : Nat → Nat → Int64} {f g : Nat → Nat} (h : Rst I J f g) (e : ∀ c, ¬ Scr c → c ≠ 236 → c ≠ 203 → c ≠ 237 → ¬ (1 ≤ c ∧ c ≤ 14) → I' c = I c) (e19 : I' 236 19 = I 236 19) (e22 : I' 236 22 = I 236 22) (t : Tap I' 0) : Rst I' J f g := by
  obtain ⟨hf, hg, ⟨N, h1, h2, h3, h4⟩, h5, _, h7, h8⟩ := h
  have el : ∀ c, c ≤ 200 → ¬ (1 ≤ c ∧ c ≤ 14) → I' c = I c := fun c hc hd => e c (by unfold Scr; omega) (by omega) (by omega) (by omega) hd
  have eh : ∀ c, 248 ≤ c ∨ c = 211 ∨ (227 ≤ c ∧ c ≤ 235) → I' c = I c := fun c hc => e c (by unfold Scr; omega) (by omega) (by omega) (by omega) (by omega)
  refine ⟨hf, hg, ⟨N, h1, by rw [el 15 (by omega) (by omega)]; exact h2, by rw [e19]; exact h3, fun j hj => ?_⟩, ?_, ⟨0, t⟩, fun t ht => ?_, fun s hs => ?_⟩
  · have := hf.lo (j := j) (by omega)
    exact (h4 j hj).congr (fun c c1 c2 => el c (by omega) (by omega)) (fun i hi => by rw [eh 248 (by omega)])
  · rcases h5 with ⟨i1, i2⟩ | ⟨i1, N', i2, i3, i4, i5, i6⟩
    · exact Or.inl ⟨by rw [el 0 (by omega) (by omega)]; exact i1, by rw [e22]; exact i2⟩
    · refine Or.inr ⟨by rw [el 0 (by omega) (by omega)]; exact i1, N', i2, by rw [el 115 (by omega) (by omega)]; exact i3, by rw [e22]; exact i4, i5.congr (fun c c1 c2 => el c (by omega) (by omega)) (fun i hi => by rw [eh 249 (by omega)]), fun j hj => ?_⟩
      have := hg.lo (j := j) (by omega)
      exact (i6 j hj).congr (fun c c1 c2 => el c (by omega) (by omega)) (fun i hi => by rw [eh 250 (by omega)])
  · obtain ⟨L, l1, l2, l3⟩ := h7 t ht
    refine ⟨L, l1, ?_, ?_⟩
    · rw [eh (228 + 2 * t) (by omega)]; exact l2
    · rw [eh (228 + 2 * t) (by omega), eh 251 (by omega), eh 252 (by omega)]; exact l3
  · rw [eh 211 (by omega)]; exact h8 s hs
section TR
variable {f g : Nat → Nat} {I : Nat → Nat → Int32} {J : Nat → Nat → Int64}
theorem ev_becomesTold : am_ev am_sh m_St_becomesTold [.ref 1, .ref 201] (I, J, am_Rf f g) (fun r σ' => r = none ∧ ∃ I', σ' = (I', J, am_Rf f g) ∧ I' 1 0 = I 201 0 ∧ I' 1 1 = I 201 1 ∧ (∀ k, k < 12 → I' 2 k = I 202 k) ∧ (∀ c k, c ≠ 2 → ¬ (c = 1 ∧ (k = 0 ∨ k = 1)) → I' c k = I c k)) := by
  refine s_St_becomesTold ⟨rfl, rfl, rfl, rfl, 202, rfl, rfl, 2, rfl, rfl, 12, 12, 0, 0, 12, rfl, rfl, by omega, by omega, rfl, rfl, rfl, rfl, _, rfl, ?_, ?_, fun k hk => ?_, fun c k c1 c2 => ?_⟩
  · rw [am_row_ne (by omega), am_up_ne (by omega), am_up_eq]
  · rw [am_row_ne (by omega), am_up_eq, am_up_ne (by omega)]
  · rw [am_row_eq, cpy0, if_pos hk, am_up_ne (by omega), am_up_ne (by omega)]
  · rw [am_row_ne c1, am_up_ne (by omega), am_up_ne (by omega)]
theorem lp_mread {l : List Nat} {x1 x2 : Int32} {q : am_Q} (hG : GL I (l, false)) (hq : ∀ I' : Nat → Nat → Int32, (∀ k v, l[k]? = some v → I' 237 (4 + k) = nI v) → (∀ c, c ≠ 237 → I' c = I c) → (∀ i, ¬ (4 ≤ i ∧ i < 16) → I' 237 i = I 237 i) → q (some (.int (nI l.length))) (I', J, am_Rf f g)) : ∀ m k (I' : Nat → Nat → Int32), m + k = l.length → (∀ j v, j < k → l[j]? = some v → I' 237 (4 + j) = nI v) → (∀ c, c ≠ 237 → I' c = I c) → (∀ i, ¬ (4 ≤ i ∧ i < 16) → I' 237 i = I 237 i) → am_u am_sh m_MD_read q (am_at am_c_MD_read 64) 64 [some (.ref 236), some (.int x1), some (.int x2), some (.int (nI k))] [] (I', J, am_Rf f g) := by
  obtain ⟨g1, g2, g3, g4⟩ := id hG
  have g1 : I 236 14 = nI l.length := g1
  have g2 : l.length ≤ 12 := g2
  intro m
  induction m with
  | zero =>
    intro k I' hk h1 h2 h3
    have e14 : I' 236 14 = nI l.length := by rw [h2 236 (by omega)]; exact g1
    refine ⟨rfl, br_t (by rw [e14]; exact nI_le (by omega) (by omega)) (j_MD_read ⟨rfl, ?_⟩)⟩
    rw [e14]
    exact hq I' (fun j v hj => h1 j v (by have := (List.getElem?_eq_some_iff.mp hj).1; omega) hj) h2 h3
  | succ m ih =>
    intro k I' hk h1 h2 h3
    have e14 : I' 236 14 = nI l.length := by rw [h2 236 (by omega)]; exact g1
    obtain ⟨v, v1, v2, v3⟩ := hG.get (show k < (l, false).1.length by show k < l.length; omega)
    refine ⟨rfl, br_f (by rw [e14]; exact nI_ge (by omega) (by omega)) ⟨237, rfl, rfl, 246, rfl, rfl, 12, k, rfl, by omega, rfl, 116, 4 + k, rfl, by omega, i4 k, j_MD_read ?_⟩⟩
    rw [nI_1]
    refine ih (k + 1) _ (by omega) (fun j w hj hw => ?_) (fun c hc => by rw [up_cell hc, h2 c hc]) (fun i hi => by rw [am_up_ne (by omega)]; exact h3 i hi)
    by_cases e : j = k
    · subst e
      rw [am_up_eq, h2 246 (by omega), v2]
      have : v = w := Option.some.inj (v1.symm.trans hw)
      rw [this]
    · rw [am_up_ne (by omega)]
      exact h1 j w (by omega) hw
theorem lu_end {u : Nat → Nat} {n p : Nat} (hu : ∀ k, k < n → 32 ≤ u k) (hp : p ≤ n) (h : lu u n p = 0) : p = n := by
  rcases Nat.lt_or_ge p n with q | q
  · rw [lu_lt q] at h
    have := hu p q
    omega
  · omega
theorem T_read {σ : am_S} (h : Inv σ) : Both m_MG_read m_MD_read [] σ := by
  obtain ⟨I, J, f, g, rfl, ⟨n, M, K, gs, hR⟩, hrest⟩ := h
  obtain ⟨hf, hg, ⟨N, hp⟩, hI0, ⟨nt, t1, t2, t3, t4⟩, hsh, hby⟩ := id hrest
  -- letters as numbers
  obtain ⟨u, hu⟩ : ∃ u : Nat → Nat, ∀ k, k < nt → I 204 k = nI (u k) ∧ I 245 k = nI (u k) ∧ 32 ≤ u k ∧ u k ≤ 126 := by
    refine ⟨fun k => (I 245 k).toInt.toNat, fun k hk => ?_⟩
    obtain ⟨a1, a2, a3⟩ := t4 k hk
    obtain ⟨s, hs, e⟩ := nI_of (x := I 245 k) (fun q => absurd q (Int32.not_lt.mpr (Int32.le_trans (by decide) a2)))
    dsimp only
    rw [a1, e, nI_toInt hs]
    rw [e] at a2 a3
    exact ⟨rfl, rfl, (nI_leI (a := 32) (by omega) hs).mp a2, (nI_leI (b := 126) hs (by omega)).mp a3⟩
  have ct : CT I u nt := ⟨t1, t2, fun k hk => ⟨(hu k hk).1, (hu k hk).2.2⟩⟩
  obtain ⟨x1, x2⟩ := txt_ok (u := u) (n := nt)
  refine s_MG_read ⟨201, rfl, rfl, rfl, (ev_faultOfTape ct).mono ?_⟩
  rintro x σ' ⟨Ib, rfl, fb, hres⟩
  -- the reference from any state with the same tape
  have ref : ∀ {Ic : Nat → Nat → Int32} {f' : Nat → Nat} {q : am_Q}, Ic 236 = I 236 → Ic 245 = I 245 → (∀ Ie : Nat → Nat → Int32, FrR Ie Ic → (∀ s l, (txt u nt).2 = some (s, l) → Ie 236 13 = nI s ∧ GL Ie (l, false)) → am_u am_sh m_MD_read q (am_at am_c_MD_read 29) 29 [some (.ref 236), some (.int (b2i (txt u nt).2.isSome)), some (.int (nI (txt u nt).1)), none] [] (am_up Ie 236 11 0, J, am_Rf f' g)) → am_ev am_sh m_MD_read [.ref 236] (Ic, J, am_Rf f' g) q := by
    intro Ic f' q e1 e2 hq
    have rt : RT Ic u nt := by
      refine ⟨t1, by rw [e1]; exact t3, fun k hk => ?_⟩
      rw [e2]
      exact (hu k hk).2
    refine s_MD_read ⟨rfl, (ev_isText rt).mono ?_⟩
    rintro x σ' ⟨Id, p', rfl, rfl, d1, d2, d3, d4, d5⟩
    have lb := rt.le (nx u nt p')
    refine ⟨rfl, (ev_here (rt.fr d1) d2 d3).mono ?_⟩
    rintro x σ' ⟨rfl, Ie, rfl, k1, k2⟩
    have fin := hq Ie (k2.fr.tr d1) (fun s l e => ⟨by rw [k2 236 13 (by omega)]; exact (d5 s l e).1, (d5 s l e).2.at k2⟩)
    refine ⟨fun e => j_MD_read ⟨rfl, rfl, ?_⟩, fun e => ⟨rfl, j_MD_read ⟨rfl, ?_⟩⟩⟩
    · rw [k1, d4]
      exact fin
    · have e : nI (lu u nt (nx u nt p')) = nI 0 := e
      rw [nI_eq (by omega) (by omega)] at e
      have := lu_end (fun k hk => (hu k hk).2.2.1) (nx_le d3) e
      have e5 : nI nt = nI (txt u nt).1 := by rw [← d4, this]
      rw [(rt.fr (k2.fr.tr d1)).2.1, e5]
      exact fin
  rcases hres with ⟨y1, rfl⟩ | ⟨s, l, y1, rfl, y3, y4⟩
  · -- a fault
    have nn : ¬ nI (txt u nt).1 = -1 := fun e => by
      have h1 : ¬ nI (txt u nt).1 < 0 := nI_pos (by omega)
      rw [e] at h1
      exact h1 (by decide)
    refine ⟨201, rfl, rfl, 203, rfl, rfl, rfl, fun e => absurd e nn, fun _ => ⟨_, rfl, ref (by rw [up_cell (by omega), fb 236 (by omega) (by omega) (by omega)]) (by rw [up_cell (by omega), fb 245 (by omega) (by omega) (by omega)]) (fun Ie fe _ => ?_)⟩⟩
    rw [y1]
    refine ⟨fun e => absurd rfl e, fun _ => ⟨rfl, _, J, f, g, rfl, ?_⟩⟩
    have ec : ∀ c, ¬ Scr c → c ≠ 236 → c ≠ 203 → am_up Ie 236 11 0 c = I c := fun c c1 c2 c3 => by
      rw [up_cell c2, fe.1 c c2 (by unfold Scr at c1; omega) (by unfold Scr at c1; omega), up_cell c3, fb c (by unfold Scr at c1; omega) (by unfold Scr at c1; omega) (by unfold Scr at c1; omega)]
    have e236 : ∀ k, ¬ (11 ≤ k ∧ k ≤ 16) → am_up Ie 236 11 0 236 k = I 236 k := fun k hk => by
      rw [am_up_ne (by omega), fe.2 k (by omega), up_cell (by omega), fb 236 (by omega) (by omega) (by omega)]
    refine ⟨⟨n, M, K, gs, hR.congr (fun c c1 c2 => ec c (by unfold Scr; omega) (by omega) (by omega)) (fun i _ => by rw [ec 237 (by unfold Scr; omega) (by omega) (by omega)])⟩, hrest.tape (fun c c1 c2 c3 _ _ => ec c c1 c2 c3) (e236 19 (by omega)) (e236 22 (by omega)) ⟨by omega, ?_, by rw [am_up_eq]; rfl, fun k hk => by omega⟩⟩
    rw [up_cell (by omega), fe.1 203 (by omega) (by omega) (by omega), am_up_eq]
    rfl
  · -- groups
    obtain ⟨z1, z7, lok⟩ := x2 s l y1
    have l12 : l.length ≤ 12 := lok.1
    have eb : ∀ c, c ≠ 201 → c ≠ 202 → c ≠ 205 → c ≠ 203 → am_up Ib 203 0 0 c = I c := fun c a b d e => by rw [up_cell e, fb c a b d]
    refine ⟨201, rfl, rfl, 203, rfl, rfl, rfl, fun _ => j_MG_read ?_, fun e => absurd rfl e⟩
    refine ⟨15, rfl, rfl, 1, rfl, rfl, rfl, (ev_note hf (by rw [eb 15 (by omega) (by omega) (by omega) (by omega)]; exact hp.2.1) hp.1).mono ?_⟩
    rintro r σ' ⟨rfl, I1, f', N1, rfl, hN1, hN2⟩
    have hnow := hN1.now hf hp.1 hN2
    refine ⟨1, rfl, rfl, 201, rfl, rfl, rfl, ev_becomesTold.mono ?_⟩
    rintro r σ' ⟨rfl, I2, rfl, b1, b2, b3, b4⟩
    have r201 : I1 201 = Ib 201 := by rw [hnow 201 (by omega), up_cell (by omega)]
    have r202 : I1 202 = Ib 202 := by rw [hnow 202 (by omega), up_cell (by omega)]
    have hM : I2 1 1 = nI l.length := by rw [b2, r201]; exact y4.1
    have row2 : ∀ c, c ≠ 1 → c ≠ 2 → I2 c = I1 c := fun c c1 c2 => funext (fun k => b4 c k c2 (fun q => c1 q.1))
    have far : ∀ c, 206 ≤ c → I2 c = I c := fun c hc => by rw [row2 c (by omega) (by omega), hnow c (by omega), eb c (by omega) (by omega) (by omega) (by omega)]
    refine ⟨1, rfl, rfl, rfl, nI l.length, congrArg (fun z => some (Value.int z)) hM, ref (far 236 (by omega)) (far 245 (by omega)) (fun Ie fe hgot => ?_)⟩
    obtain ⟨s13, gl⟩ := hgot s l y1
    rw [y1]
    have e19 : am_up Ie 236 11 0 236 19 = nI N := by rw [am_up_ne (by omega), fe.2 19 (by omega), far 236 (by omega)]; exact hp.2.2.1
    refine ⟨fun _ => j_MD_read ⟨rfl, (ev_notes (N := N) e19 hp.1).mono ?_⟩, fun e => absurd (show b2i true = 0 from e) (by decide)⟩
    rintro r σ' ⟨rfl, I3, N2, rfl, hr1, hr2⟩
    have i3 : ∀ c, c ≠ 236 → c ≠ 248 → I3 c = Ie c := fun c c1 c2 => by rw [hr1.2.2.2.1 c c1 c2, up_cell c1]
    have i3k : ∀ k, k ≠ 19 → k ≠ 11 → I3 236 k = Ie 236 k := fun k k1 k2 => by rw [hr1.2.2.2.2 k k1, am_up_ne (by omega)]
    have gl3 : GL I3 (l, false) := by
      unfold GL
      rw [i3k 14 (by omega) (by omega), i3k 16 (by omega) (by omega), i3 246 (by omega) (by omega)]
      exact gl
    have j237 : I3 237 = I 237 := by rw [i3 237 (by omega) (by omega), fe.1 237 (by omega) (by omega) (by omega), far 237 (by omega)]
    refine ⟨237, rfl, rfl, rfl, 116, 0, rfl, by omega, rfl, 237, rfl, rfl, rfl, 116, 1, rfl, by omega, rfl, j_MD_read ?_⟩
    have gl4 : GL (am_up (am_up I3 237 0 (I3 236 13)) 237 1 (am_up I3 237 0 (I3 236 13) 236 14)) (l, false) := by
      unfold GL
      rw [up_cell (by omega), up_cell (by omega), up_cell (by omega), up_cell (by omega)]
      exact gl3
    refine lp_mread gl4 (fun I4 q1 q2 q3 => ⟨rfl, I4, J, f', g, rfl, ?_⟩) l.length 0 _ (by omega) (fun j v hj => by omega) (fun c _ => rfl) (fun i _ => rfl)
    have q2' : ∀ c, c ≠ 237 → I4 c = I3 c := fun c hc => by rw [q2 c hc, up_cell hc, up_cell hc]
    have q3' : ∀ i, i ≠ 0 → i ≠ 1 → ¬ (4 ≤ i ∧ i < 16) → I4 237 i = I 237 i := fun i a b c => by rw [q3 i c, am_up_ne (by omega), am_up_ne (by omega), j237]
    -- the state that both begin from, with the reference's own cells as they are behind the text
    have mx : ∀ A : Nat → Nat → Int32, ∃ A' : Nat → Nat → Int32, (∀ c, c ≠ 236 → c ≠ 246 → c ≠ 247 → A' c = A c) ∧ A' 236 = am_up Ie 236 11 0 236 ∧ A' 246 = am_up Ie 236 11 0 246 ∧ A' 247 = am_up Ie 236 11 0 247 := fun A => ⟨fun c => if c = 236 ∨ c = 246 ∨ c = 247 then am_up Ie 236 11 0 c else A c, fun c a b d => if_neg (by omega), if_pos (by omega), if_pos (by omega), if_pos (by omega)⟩
    obtain ⟨Is, m1, m2, m3, m4⟩ := mx (am_up Ib 203 0 0)
    obtain ⟨I1s, o1, o2, o3, o4⟩ := mx I1
    have hlo := (show Hf f' by rcases hN2 with ⟨_, rfl, _⟩ | ⟨_, rfl, _⟩; exact hf; exact rot_Hf hf).lo (j := N1) (by have := hp.1; omega)
    have rs : Rst Is J f g := by
      refine hrest.tape (fun c c1 c2 c3 _ _ => ?_) ?_ ?_ ⟨by omega, ?_, ?_, fun k hk => by omega⟩
      · rw [m1 c c2 (by unfold Scr at c1; omega) (by unfold Scr at c1; omega), eb c (by unfold Scr at c1; omega) (by unfold Scr at c1; omega) (by unfold Scr at c1; omega) c3]
      · rw [m2, am_up_ne (by omega), fe.2 19 (by omega), far 236 (by omega)]
      · rw [m2, am_up_ne (by omega), fe.2 22 (by omega), far 236 (by omega)]
      · rw [m1 203 (by omega) (by omega) (by omega), am_up_eq]; rfl
      · rw [m2, am_up_eq]; rfl
    have rr : Rr Is 1 (Is 237) n M K gs := hR.congr (fun c c1 c2 => by rw [m1 c (by omega) (by omega) (by omega), eb c (by omega) (by omega) (by omega) (by omega)]) (fun i _ => by rw [m1 237 (by omega) (by omega) (by omega), eb 237 (by omega) (by omega) (by omega) (by omega)])
    have nt2 : Nt I1s Is f' N1 := by
      refine ⟨hN1.1.congr (fun c c1 c2 => o1 c (by omega) (by omega) (by omega)) (fun c c1 c2 => m1 c (by omega) (by omega) (by omega)), by rw [o1 15 (by omega) (by omega) (by omega)]; exact hN1.2.1, fun c c1 c2 => ?_⟩
      by_cases w : c = 236 ∨ c = 246 ∨ c = 247
      · rcases w with rfl | rfl | rfl
        · rw [o2, m2]
        · rw [o3, m3]
        · rw [o4, m4]
      · rw [o1 c (by omega) (by omega) (by omega), m1 c (by omega) (by omega) (by omega)]
        exact hN1.2.2 c c1 c2
    obtain ⟨_, _, ⟨N', hp'⟩, hO'⟩ := id rs
    have hpN : Past Is f N := ⟨hp.1, by rw [m1 15 (by omega) (by omega) (by omega), eb 15 (by omega) (by omega) (by omega) (by omega)]; exact hp.2.1, by rw [m2]; exact e19, fun j hj => by
      have := hf.lo (j := j) (by have := hp.1; omega)
      exact (hp.2.2.2 j hj).congr (fun c c1 c2 => by rw [m1 c (by omega) (by omega) (by omega), eb c (by omega) (by omega) (by omega) (by omega)]) (fun i _ => by rw [m1 248 (by omega) (by omega) (by omega), eb 248 (by omega) (by omega) (by omega) (by omega)])⟩
    refine noted (I2 := am_up Ie 236 11 0) hf hg ⟨n, M, K, gs, rr⟩ hpN hO' nt2 hN2 (fun c c1 c2 => ?_) hr1 hr2 q2' ⟨s, l.length, K, fun k => l.getD k 0, rr.grp ⟨?_, ?_, z1, z7⟩ ⟨?_, ?_, l12⟩ (fun k hk => ?_) (fun i j hi hj e => ?_) (fun c k c1 c2 c3 c4 => ?_) (fun i i1 i2 i3' i4' => ?_)⟩
    · by_cases w : c = 236 ∨ c = 246 ∨ c = 247
      · rcases w with rfl | rfl | rfl
        · rw [o2]
        · rw [o3]
        · rw [o4]
      · rw [up_cell (by omega), fe.1 c (by omega) (by omega) (by omega), row2 c (by omega) (by omega), o1 c (by omega) (by omega) (by omega)]
    · rw [up_cell (by omega), fe.1 1 (by omega) (by omega) (by omega), b1, r201]
      exact y3
    · rw [q3 0 (by omega), am_up_ne (by omega), am_up_eq, i3k 13 (by omega) (by omega)]
      exact s13
    · rw [up_cell (by omega), fe.1 1 (by omega) (by omega) (by omega)]
      exact hM
    · rw [q3 1 (by omega), am_up_eq, up_cell (by omega)]
      exact gl3.1
    · have hg1 : l[k]? = some (l.getD k 0) := by
        rw [List.getElem?_eq_getElem hk]
        simp [List.getD, List.getElem?_eq_getElem hk]
      have hm := lok.2.1 (l.getD k 0) (List.mem_of_getElem? hg1)
      refine ⟨?_, q1 k _ hg1, hm.1, hm.2⟩
      show am_up Ie 236 11 0 2 k = _
      rw [up_cell (by omega), fe.1 2 (by omega) (by omega) (by omega), b3 k (by omega), r202]
      exact (y4.2.2 k _ hg1).1
    · have g1 : l.getD i 0 = l[i] := by simp [List.getD, List.getElem?_eq_getElem hi]
      have g2 : l.getD j 0 = l[j] := by simp [List.getD, List.getElem?_eq_getElem hj]
      have e : l[i] = l[j] := by rw [← g1, ← g2]; exact e
      have pw := List.pairwise_iff_getElem.mp lok.2.2
      rcases Nat.lt_trichotomy i j with q | q | q
      · exact absurd e (pw i j hi hj q)
      · exact q
      · exact absurd e.symm (pw j i hj hi q)
    · rw [up_cell (by omega), fe.1 c (by omega) (by omega) (by omega), b4 c k c3 c4, hnow c (by omega), m1 c (by omega) (by omega) (by omega)]
    · rw [q3' i i2 i3' i4', m1 237 (by omega) (by omega) (by omega), eb 237 (by omega) (by omega) (by omega) (by omega)]
end TR
