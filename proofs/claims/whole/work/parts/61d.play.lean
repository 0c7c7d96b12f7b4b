/-! the class's Probing: all states are played back -/
def thn (n j x : Nat) : Nat := fo (fun e s => if x / 3 ^ e % 3 = j then s ||| 2 ^ e else s) 0 n
theorem thn_tab : ∀ n, n < 8 → ∀ u, u < 2 ^ n → ∀ d, d < 2 ^ n → Nat.beq (u &&& d) 0 = true → thn n 1 (pl u d) = u ∧ thn n 2 (pl u d) = d := by decide +kernel
theorem pl_inj {n u d u' d' : Nat} (h8 : n < 8) (hu : u < 2 ^ n) (hd : d < 2 ^ n) (hx : u &&& d = 0) (hu' : u' < 2 ^ n) (hd' : d' < 2 ^ n) (hx' : u' &&& d' = 0) (h : pl u d = pl u' d') : u = u' ∧ d = d' := by
  have a := thn_tab n h8 u hu d hd (beq0 hx)
  have b := thn_tab n h8 u' hu' d' hd' (beq0 hx')
  rw [h] at a
  exact ⟨a.1.symm.trans b.1, a.2.symm.trans b.2⟩
theorem i2b_tab : ∀ v, v < 128 → vp_nar .byte ((nI v).toInt8.toInt32) = nI v := by decide +kernel
section PLAY
variable {f g : Nat → Nat} {I : Nat → Nat → Int32} {J : Nat → Nat → Int64} {n w l : Nat} {hs : Nat → Bool}
def Kn (I : Nat → Nat → Int32) (hs : Nat → Bool) (n w l : Nat) (P : Nat → Nat → Prop) : Prop := ∀ u d, Vd n w l u d → P u d → I 212 (pl u d) = nI (pV hs n u d)
theorem Lk.congr {I I' : Nat → Nat → Int32} {o T : Nat} {hs : Nat → Bool} (h : Lk I o T hs) (h1 : I' o = I o) (h2 : I' (o + 1) = I (o + 1)) : Lk I' o T hs := by
  unfold Lk
  rw [h1, h2]
  exact h
theorem lp_playLost {a : Nat} {q : am_Q} (hB : By3 I) (hL : Lk I 209 (2 ^ n) hs) (h8 : n < 8) (hw : w < 2 ^ n) (hl : l < 2 ^ n) (hx : w &&& l = 0) (hwI : I 208 3 = nI w) (hlI : I 208 4 = nI l) (ha : sb a (op0 n w l) = true) (hq : ∀ I', (∀ c, c ≠ 212 → I' c = I c) → Kn I' hs n w l (fun _ d => a ≤ d ^^^ l) → q none (I', J, am_Rf f g)) : ∀ k (I' : Nat → Nat → Int32) v4 v5, k ≤ 128 → (∀ c, c ≠ 212 → I' c = I c) → Kn I' hs n w l (fun u d => a < d ^^^ l ∨ (d ^^^ l = a ∧ k ≤ u ^^^ w)) → am_u am_sh m_Pr_playLost q (am_at am_c_Pr_playLost 2) 2 [some (.ref 208), some (.int (nI a)), some (.int (nI (op0 n w l &&& (127 ^^^ a)))), some (.int (nI k - 1)), v4, v5] [] (I', J, am_Rf f g) := by
  have h7 := pow_le7 h8
  have hop : op0 n w l < 2 ^ n := xor_lt (Nat.or_lt_two_pow hw hl)
  have hol : op0 n w l &&& (127 ^^^ a) < 128 := Nat.lt_of_le_of_lt Nat.and_le_left (by omega)
  intro k
  induction k with
  | zero =>
    intro I' v4 v5 hk hF hK
    refine br_t (by decide) (j_Pr_playLost (hq I' hF (fun u d hV hd => hK u d hV ?_)))
    rcases Nat.lt_or_ge a (d ^^^ l) with h | h
    · exact Or.inl h
    · exact Or.inr ⟨by omega, Nat.zero_le _⟩
  | succ k ih =>
    intro I' v4 v5 hk hF hK
    rw [nI_pred]
    have hsb := sb_tab k (by omega) _ hol
    refine br_f (nI_pos (by omega)) ⟨fun h1 => j_Pr_playLost (j_Pr_playLost ?_), fun h1 => ?_⟩
    · show am_u _ _ _ _ _ [_, _, _, some (.int (nI k + (-1))), _, _] _ _
      rw [← Int32.sub_eq_add_neg]
      refine ih I' _ _ (by omega) hF (fun u d hV hd => hK u d hV ?_)
      rcases hd with hd | ⟨hd1, hd2⟩
      · exact Or.inl hd
      · refine Or.inr ⟨hd1, ?_⟩
        rcases Nat.lt_or_ge k (u ^^^ w) with h | h
        · exact h
        · have e : u ^^^ w = k := by omega
          have := hV.found h8 hw
          rw [e, hd1] at this
          exact absurd (hsb.mpr this) h1
    · have hk' := hsb.mp h1
      obtain ⟨hV, e1, e2⟩ := Vd.mk h8 hw hl hx ha hk'
      have g1 : I' 208 3 = nI w := by rw [hF 208 (by omega)]; exact hwI
      have g2 : I' 208 4 = nI l := by rw [hF 208 (by omega)]; exact hlI
      have hB' : By3 I' := fun s hs => by rw [hF 211 (by omega)]; exact hB s hs
      have hL' : Lk I' 209 (2 ^ n) hs := hL.congr (hF 209 (by omega)) (hF 210 (by omega))
      have hA : Ahd I' hs n (w ||| k) (l ||| a) := fun e hO => by
        obtain ⟨u1, u2⟩ := hV.up hO
        obtain ⟨d1, d2⟩ := hV.dn hO
        refine ⟨hK _ _ u1 (Or.inr ⟨e2, by omega⟩), hK _ _ d1 (Or.inl (by omega))⟩
      refine ⟨rfl, rfl, 212, rfl, rfl, rfl, ?_⟩
      show am_ev am_sh m_Pr_placeOf [.ref 208, .int (I' 208 3 ||| nI k), .int (I' 208 4 ||| nI a)] _ _
      rw [g1, g2, nI_or, nI_or]
      refine (ev_prPlace hB' (by have := hV.1; omega) (by have := hV.2.1; omega)).rt ⟨rfl, (ev_probesFrom hB' hL' h8 hV.1 hV.2.1 hV.2.2.1 hA).rt ⟨2187, pl (w ||| k) (l ||| a), rfl, pl_lt7 _ (by have := hV.1; omega) _ (by have := hV.2.1; omega) (beq0 hV.2.2.1), rfl, j_Pr_playLost ?_⟩⟩
      show am_u _ _ _ _ _ [_, _, _, some (.int (nI k + (-1))), _, _] _ (am_up I' 212 (pl (w ||| k) (l ||| a)) (vp_nar .byte ((nI (pV hs n (w ||| k) (l ||| a))).toInt8.toInt32)), _, _)
      have hp7 := pV_le7 (hs := hs) h8 hV.1 hV.2.1 hV.2.2.1
      rw [← Int32.sub_eq_add_neg, i2b_tab _ (by omega)]
      refine ih _ _ _ (by omega) (fun c hc => by rw [up_cell hc, hF c hc]) (fun u d hV' hd => ?_)
      by_cases e : pl u d = pl (w ||| k) (l ||| a)
      · obtain ⟨q1, q2⟩ := pl_inj h8 hV'.1 hV'.2.1 hV'.2.2.1 hV.1 hV.2.1 hV.2.2.1 e
        rw [q1, q2, am_up_eq]
      · rw [am_up_ne (fun z => e z.2)]
        refine hK u d hV' ?_
        rcases hd with hd | ⟨hd1, hd2⟩
        · exact Or.inl hd
        · refine Or.inr ⟨hd1, ?_⟩
          rcases Nat.lt_or_ge k (u ^^^ w) with h | h
          · exact h
          · have e3 : u ^^^ w = k := by omega
            have u1 := hV'.u_eq
            have d1 := hV'.d_eq
            rw [e3] at u1
            rw [hd1] at d1
            exact absurd (by rw [← u1, ← d1]) e
theorem ev_playLost {a : Nat} (hB : By3 I) (hL : Lk I 209 (2 ^ n) hs) (h8 : n < 8) (hw : w < 2 ^ n) (hl : l < 2 ^ n) (hx : w &&& l = 0) (hwI : I 208 3 = nI w) (hlI : I 208 4 = nI l) (ha : sb a (op0 n w l) = true) (hK : Kn I hs n w l (fun _ d => a < d ^^^ l)) : am_ev am_sh m_Pr_playLost [.ref 208, .int (nI a), .int (nI (op0 n w l &&& (127 ^^^ a)))] (I, J, am_Rf f g) (fun r σ' => r = none ∧ ∃ I', σ' = (I', J, am_Rf f g) ∧ (∀ c, c ≠ 212 → I' c = I c) ∧ Kn I' hs n w l (fun _ d => a ≤ d ^^^ l)) := by
  have h7 := pow_le7 h8
  have hop : op0 n w l < 2 ^ n := xor_lt (Nat.or_lt_two_pow hw hl)
  have hol : op0 n w l &&& (127 ^^^ a) < 128 := Nat.lt_of_le_of_lt Nat.and_le_left (by omega)
  have h := lp_playLost (f := f) (g := g) (J := J) (q := fun r σ' => r = none ∧ ∃ I', σ' = (I', J, am_Rf f g) ∧ (∀ c, c ≠ 212 → I' c = I c) ∧ Kn I' hs n w l (fun _ d => a ≤ d ^^^ l)) hB hL h8 hw hl hx hwI hlI ha (fun I' h1 h2 => ⟨rfl, I', rfl, h1, h2⟩) ((op0 n w l &&& (127 ^^^ a)) + 1) I none none (by omega) (fun _ _ => rfl) (fun u d hV hd => hK u d hV ?_)
  · rw [nI_pred] at h
    exact s_Pr_playLost (j_Pr_playLost h)
  · rcases hd with hd | ⟨hd1, hd2⟩
    · exact hd
    · have := hV.found h8 hw
      rw [hd1] at this
      have := sb_le this
      omega
theorem lp_play {q : am_Q} (hB : By3 I) (hL : Lk I 209 (2 ^ n) hs) (h8 : n < 8) (hw : w < 2 ^ n) (hl : l < 2 ^ n) (hx : w &&& l = 0) (hwI : I 208 3 = nI w) (hlI : I 208 4 = nI l) (hq : ∀ I', (∀ c, c ≠ 212 → I' c = I c) → Kn I' hs n w l (fun _ _ => True) → q none (I', J, am_Rf f g)) : ∀ k (I' : Nat → Nat → Int32), k ≤ 128 → (∀ c, c ≠ 212 → I' c = I c) → Kn I' hs n w l (fun _ d => k ≤ d ^^^ l) → am_u am_sh m_Pr_play q (am_at am_c_Pr_play 36) 36 [some (.ref 208), some (.ref 1), some (.int (nI w)), some (.int (nI l)), some (.int (nI (op0 n w l))), some (.int (nI k - 1))] [] (I', J, am_Rf f g) := by
  have h7 := pow_le7 h8
  have hop : op0 n w l < 2 ^ n := xor_lt (Nat.or_lt_two_pow hw hl)
  intro k
  induction k with
  | zero =>
    intro I' hk hF hK
    exact br_t (by decide) (j_Pr_play (hq I' hF (fun u d hV _ => hK u d hV (Nat.zero_le _))))
  | succ k ih =>
    intro I' hk hF hK
    rw [nI_pred]
    have hsb := sb_tab k (by omega) (op0 n w l) (by omega)
    refine br_f (nI_pos (by omega)) ⟨fun h1 => j_Pr_play (j_Pr_play ?_), fun h1 => ⟨rfl, ?_⟩⟩
    · show am_u _ _ _ _ _ [_, _, _, _, _, some (.int (nI k + (-1)))] _ _
      rw [← Int32.sub_eq_add_neg]
      refine ih I' (by omega) hF (fun u d hV hd => hK u d hV ?_)
      rcases Nat.lt_or_ge k (d ^^^ l) with h | h
      · exact h
      · have e : d ^^^ l = k := by have : k ≤ d ^^^ l := hd; omega
        have := hV.lost hl
        rw [e] at this
        exact absurd (hsb.mpr this) h1
    · have hk' := hsb.mp h1
      show am_ev am_sh m_Pr_playLost [.ref 208, .int (nI k), .int (nI (op0 n w l) &&& (nI k ^^^ (-1)))] _ _
      rw [an_tab _ (by omega) k (by omega)]
      have g1 : I' 208 3 = nI w := by rw [hF 208 (by omega)]; exact hwI
      have g2 : I' 208 4 = nI l := by rw [hF 208 (by omega)]; exact hlI
      have hB' : By3 I' := fun s hs => by rw [hF 211 (by omega)]; exact hB s hs
      have hL' : Lk I' 209 (2 ^ n) hs := hL.congr (hF 209 (by omega)) (hF 210 (by omega))
      refine (ev_playLost hB' hL' h8 hw hl hx g1 g2 hk' (fun u d hV hd => hK u d hV hd)).mono ?_
      rintro r σ' ⟨rfl, I2, rfl, hF2, hK2⟩
      refine j_Pr_play ?_
      show am_u _ _ _ _ _ [_, _, _, _, _, some (.int (nI k + (-1)))] _ _
      rw [← Int32.sub_eq_add_neg]
      exact ih I2 (by omega) (fun c hc => by rw [hF2 c hc, hF c hc]) hK2
theorem ev_play {M : Nat} (hh : ∀ s, s < 2 ^ n → hol (I 2) M s = hs s) (hB : By3 I) (hM : I 1 1 = nI M) (h12 : M ≤ 12) (hn : I 1 0 = nI n) (h8 : n < 8) (hw : w < 2 ^ n) (hl : l < 2 ^ n) (hx : w &&& l = 0) : am_ev am_sh m_Pr_play [.ref 208, .ref 1, .int (nI w), .int (nI l)] (I, J, am_Rf f g) (fun r σ' => r = none ∧ ∃ I', σ' = (I', J, am_Rf f g) ∧ I' 208 3 = nI w ∧ I' 208 4 = nI l ∧ Lk I' 209 (2 ^ n) (hs) ∧ (∀ c, c ≠ 208 → c ≠ 209 → c ≠ 210 → c ≠ 212 → I' c = I c) ∧ Kn I' hs n w l (fun _ _ => True)) := by
  have h7 := pow_le7 h8
  have hop : op0 n w l < 2 ^ n := xor_lt (Nat.or_lt_two_pow hw hl)
  refine s_Pr_play ⟨209, rfl, rfl, rfl, (ev_look st1 Hd_209 (by omega) (by omega) hM h12 hn h8).mono ?_⟩
  rintro r σ' ⟨rfl, I1, rfl, hL, hF⟩
  have hL0 : Lk I1 209 (2 ^ n) hs := ⟨hL.1, fun s h => by rw [hL.2 s h]; exact congrArg b2i (hh s h)⟩
  refine ⟨rfl, rfl, rfl, rfl, rfl, ?_⟩
  have e3 : am_up (am_up I1 208 3 (nI w)) 208 4 (nI l) 208 3 = nI w := by rw [am_up_ne (by omega), am_up_eq]
  have e4 : am_up (am_up I1 208 3 (nI w)) 208 4 (nI l) 208 4 = nI l := am_up_eq
  show am_ev am_sh m_Pr_openOf [.ref 208, .int (am_up (am_up I1 208 3 (nI w)) 208 4 (nI l) 208 3), .int (am_up (am_up I1 208 3 (nI w)) 208 4 (nI l) 208 4)] _ _
  have hc : ∀ c, c ≠ 208 → am_up (am_up I1 208 3 (nI w)) 208 4 (nI l) c = I1 c := fun c hc => by rw [up_cell hc, up_cell hc]
  have hL2 : Lk (am_up (am_up I1 208 3 (nI w)) 208 4 (nI l)) 209 (2 ^ n) (hs) := Lk.congr hL0 (hc 209 (by omega)) (hc 210 (by omega))
  have hB2 : By3 (am_up (am_up I1 208 3 (nI w)) 208 4 (nI l)) := fun s hs => by rw [hc 211 (by omega), hF 211 (by omega) (by omega)]; exact hB s hs
  rw [e3, e4]
  refine (ev_openOf hL2 h8 hw hl).rt (j_Pr_play ?_)
  have h := lp_play (f := f) (g := g) (J := J) (q := fun r σ' => r = none ∧ ∃ I', σ' = (I', J, am_Rf f g) ∧ I' 208 3 = nI w ∧ I' 208 4 = nI l ∧ Lk I' 209 (2 ^ n) (hs) ∧ (∀ c, c ≠ 208 → c ≠ 209 → c ≠ 210 → c ≠ 212 → I' c = I c) ∧ Kn I' hs n w l (fun _ _ => True)) hB2 hL2 h8 hw hl hx e3 e4 (fun I' h1 h2 => ⟨rfl, I', rfl, ?_, ?_, ?_, ?_, h2⟩) (op0 n w l + 1) _ (by omega) (fun _ _ => rfl) (fun u d hV hd => ?_)
  · rw [nI_pred] at h
    exact h
  · rw [h1 208 (by omega)]; exact e3
  · rw [h1 208 (by omega)]; exact e4
  · exact hL2.congr (h1 209 (by omega)) (h1 210 (by omega))
  · intro c c1 c2 c3 c4
    rw [h1 c c4, hc c c1, hF c c2 c3]
  · have := sb_le (hV.lost hl)
    have : op0 n w l + 1 ≤ d ^^^ l := hd
    omega
theorem sb_rf (w : Nat) : sb w w = true := sb_iff.mpr (fun _ h => h)
theorem Vd.rf (hw : w < 2 ^ n) (hl : l < 2 ^ n) (hx : w &&& l = 0) : Vd n w l w l := ⟨hw, hl, hx, sb_rf w, sb_rf l⟩
theorem ev_worst (hB : By3 I) (h8 : n < 8) (hw : w < 2 ^ n) (hl : l < 2 ^ n) (hx : w &&& l = 0) (hwI : I 208 3 = nI w) (hlI : I 208 4 = nI l) (hK : Kn I hs n w l (fun _ _ => True)) : am_ev am_sh m_Pr_worst [.ref 208] (I, J, am_Rf f g) (Rt (.int (nI (pV hs n w l))) (I, J, am_Rf f g)) := by
  have h7 := pow_le7 h8
  refine s_Pr_worst ⟨212, rfl, rfl, rfl, rfl, rfl, ?_⟩
  show am_ev am_sh m_Pr_placeOf [.ref 208, .int (I 208 3), .int (I 208 4)] _ _
  rw [hwI, hlI]
  refine (ev_prPlace hB (by omega) (by omega)).rt ⟨2187, pl w l, rfl, pl_lt7 _ (by omega) _ (by omega) (beq0 hx), rfl, ?_, rfl⟩
  rw [hK w l (Vd.rf hw hl hx) trivial]
/-- a best one -/
def bsP (hs : Nat → Bool) (n w l e : Nat) : Bool := opn n w l e && Nat.beq (py (pV hs n) w l e) (pV hs n w l)
def bst (hs : Nat → Bool) (n w l : Nat) : Int32 := if ov hs n w l = true then -4 else oi4 (fi (bsP hs n w l) 7)
theorem lp_best {q : am_Q} (hB : By3 I) (h8 : n < 8) (hw : w < 2 ^ n) (hl : l < 2 ^ n) (hx : w &&& l = 0) (hwI : I 208 3 = nI w) (hlI : I 208 4 = nI l) (hK : Kn I hs n w l (fun _ _ => True)) (hq : q (some (.int (oi4 (fi (bsP hs n w l) 7)))) (I, J, am_Rf f g)) : ∀ m e, m + e = 7 → (∀ j, j < e → bsP hs n w l j = false) → am_u am_sh m_Pr_best q (am_at am_c_Pr_best 33) 33 [some (.ref 208), some (.int (nI (op0 n w l))), some (.int (nI e))] [] (I, J, am_Rf f g) := by
  have h7 := pow_le7 h8
  have hop : op0 n w l < 2 ^ n := xor_lt (Nat.or_lt_two_pow hw hl)
  have hA : Ahd I hs n w l := fun e hO => ⟨hK _ _ ((Vd.rf hw hl hx).up hO).1 trivial, hK _ _ ((Vd.rf hw hl hx).dn hO).1 trivial⟩
  intro m
  induction m with
  | zero =>
    intro e he h0
    obtain rfl : e = 7 := by omega
    rw [fi_none.mpr h0] at hq
    exact br_t (nI_le (a := 7) (by omega) (by omega)) (j_Pr_best hq)
  | succ m ih =>
    intro e he h0
    have hbit := has_tb (s := op0 n w l) (e := e) (by omega) (by omega)
    have e0 : tb (op0 n w l) e = opn n w l e := op_bit hw hl
    rw [e0] at hbit
    have no : bsP hs n w l e = false → am_run am_sh m_Pr_best q 72 [some (.ref 208), some (.int (nI (op0 n w l))), some (.int (nI e))] [] (I, J, am_Rf f g) := fun hb => by
      refine j_Pr_best (j_Pr_best ?_)
      rw [show nI e + 1 = nI (e + 1) from nI_1 e]
      refine ih (e + 1) (by omega) (fun j hj => ?_)
      by_cases q2 : j = e
      · rw [q2]; exact hb
      · exact h0 j (by omega)
    refine br_f (nI_ge (b := 7) (by omega) (by omega)) ⟨fun h1 => no ?_, fun h1 => ⟨rfl, rfl, rfl, ?_⟩⟩
    · have hO : opn n w l e = false := by rw [← hbit]; exact decide_eq_false h1
      unfold bsP
      rw [hO]
      rfl
    · have hO : opn n w l e = true := by rw [← hbit]; exact decide_eq_true h1
      show am_ev am_sh m_Pr_probesBy [.ref 208, .int (I 208 3), .int (I 208 4), .int ((1 : Int32) <<< (nI e &&& 31))] _ _
      rw [hwI, hlI, shl_tab e (by omega)]
      have p8 := py_le8 (hs := hs) h8 hw hl hx hO
      have v7 := pV_le7 (hs := hs) h8 hw hl hx
      refine (ev_byV hB h8 hw hl hx hO hA).rt ⟨rfl, (ev_worst hB h8 hw hl hx hwI hlI hK).rt ⟨fun h2 => no ?_, fun h2 => ?_⟩⟩
      · unfold bsP
        rw [hO, nbq (fun z => h2 (by rw [z]))]
        rfl
      · have : bsP hs n w l e = true := by
          unfold bsP
          rw [hO, (nI_eq (by omega) (by omega)).mp h2, beq_rf]
          rfl
        rw [fi_hit h0 this (by omega)] at hq
        exact hq
theorem ev_best (hB : By3 I) (hL : Lk I 209 (2 ^ n) hs) (h8 : n < 8) (hw : w < 2 ^ n) (hl : l < 2 ^ n) (hx : w &&& l = 0) (hwI : I 208 3 = nI w) (hlI : I 208 4 = nI l) (hK : Kn I hs n w l (fun _ _ => True)) : am_ev am_sh m_Pr_best [.ref 208] (I, J, am_Rf f g) (Rt (.int (bst hs n w l)) (I, J, am_Rf f g)) := by
  refine s_Pr_best ⟨rfl, rfl, rfl, ?_⟩
  show am_ev am_sh m_Pr_openOf [.ref 208, .int (I 208 3), .int (I 208 4)] _ _
  rw [hwI, hlI]
  refine (ev_openOf hL h8 hw hl).rt ⟨rfl, rfl, rfl, ?_⟩
  show am_ev am_sh m_Pr_isOver [.ref 208, .int (I 208 3), .int (I 208 4)] _ _
  rw [hwI, hlI]
  refine (ev_isOver hL h8 hw hl).rt ⟨fun h1 => j_Pr_best (j_Pr_best (lp_best hB h8 hw hl hx hwI hlI hK ⟨?_, rfl⟩ 7 0 rfl (fun _ h => by omega))), fun h1 => ⟨?_, rfl⟩⟩
  · unfold bst
    rw [if_pos (b2i_ne0.mp h1)]
  · unfold bst
    rw [if_neg (by rw [b2i_eq0.mp h1]; decide)]
end PLAY
