/-! the reference: whether a pair is even -/
def EFr (I' I : Nat → Nat → Int32) : Prop := (∀ b, b ≠ 236 → ¬ (238 ≤ b ∧ b ≤ 242) → I' b = I b) ∧ ∀ k, k ≠ 1 → k ≠ 2 → I' 236 k = I 236 k
theorem EFr.rf (I : Nat → Nat → Int32) : EFr I I := ⟨fun _ _ _ => rfl, fun _ _ _ => rfl⟩
theorem EFr.tr {I'' I' I : Nat → Nat → Int32} (h1 : EFr I'' I') (h2 : EFr I' I) : EFr I'' I := ⟨fun b a c => by rw [h1.1 b a c, h2.1 b a c], fun k a c => by rw [h1.2 k a c, h2.2 k a c]⟩
theorem EFr.of {I' I : Nat → Nat → Int32} (h : ∀ b, ¬ (238 ≤ b ∧ b ≤ 242) → I' b = I b) : EFr I' I := ⟨fun b _ c => h b c, fun k _ _ => by rw [h 236 (by omega)]⟩
/-- an even pair was found, its fraction stands -/
def EvT (I' : Nat → Nat → Int32) (M : Nat) (gs : Nat → Nat) : Prop := ∃ (ov ot : Int) (E W : Nat → Int), (0 < ov ∧ 0 < ot) ∧ (∀ e, e < 7 → 0 ≤ E e) ∧ (∀ k, k < M → ov ≤ zs (fun e => zb (gs k) e * E e) 7) ∧ (∀ k, k < 12 → 0 ≤ W k) ∧ (∀ k, k < 12 → ¬ W k = 0 → k < M) ∧ (∀ e, e < 7 → zs (fun k => zb (gs k) e * W k) M ≤ ot) ∧ ov * zs W 12 = ot * zs E 7 ∧ ∃ a b : Nat, (a : Int) = ov ∧ (b : Int) = zs E 7 ∧ a < 2 ^ 31 ∧ b < 2 ^ 31 ∧ I' 236 1 = nI (a / Nat.gcd a b) ∧ I' 236 2 = nI (b / Nat.gcd a b)
abbrev EvQ (f g : Nat → Nat) (I : Nat → Nat → Int32) (J : Nat → Nat → Int64) (M : Nat) (gs : Nat → Nat) (G S : Nat) : am_Q := fun x σ' => ∃ y I', x = some (.int (b2i y)) ∧ σ' = (I', J, am_Rf f g) ∧ EFr I' I ∧ (y = true → EvT I' M gs) ∧ (y = false → ¬ ∀ mi me, Enm (tb G) 12 mi → Enm (tb S) 12 me → Pair M gs (cn (tb S) 12) mi me)
section EV
variable {f g : Nat → Nat} {I : Nat → Nat → Int32} {J : Nat → Nat → Int64} {M : Nat} {gs : Nat → Nat} {q : am_Q}
theorem lp_ev5 {x1 x2 x3 : Int32} {ov ot : Int} {E W : Nat → Int} (hG : Gm I M gs) (hE : ∀ e, e < 7 → I 241 e = zI (E e)) (hW : ∀ k, k < M → I 242 k = zI (W k)) (hl : ∀ e, e < 7 → (zs (fun k => zb (gs k) e * W k) M).natAbs ≤ 100000) (hot : ot.natAbs ≤ 5040) (hq0 : (∃ e, e < 7 ∧ ot < zs (fun k => zb (gs k) e * W k) M) → q (some (.int 0)) (I, J, am_Rf f g)) (hq1 : (∀ e, e < 7 → zs (fun k => zb (gs k) e * W k) M ≤ ot) → ∀ w7, am_run am_sh m_MD_evens q 187 [some (.ref 236), some (.int x1), some (.int x2), some (.int x3), some (.int (zI ov)), some (.int (zI ot)), some (.int (zI (zs E 7))), w7] [] (I, J, am_Rf f g)) : ∀ m e, m + e = 7 → (∀ e', e' < e → zs (fun k => zb (gs k) e' * W k) M ≤ ot) → am_u am_sh m_MD_evens q (am_at am_c_MD_evens 149) 149 [some (.ref 236), some (.int x1), some (.int x2), some (.int x3), some (.int (zI ov)), some (.int (zI ot)), some (.int (zI (zs E e))), some (.int (nI e))] [] (I, J, am_Rf f g) := by
  intro m
  induction m with
  | zero =>
    intro e he h0
    obtain rfl : e = 7 := by omega
    exact br_t (by decide) (hq1 h0 _)
  | succ m ih =>
    intro e he h0
    have lb := hl e (by omega)
    have cmp : zI (zs (fun k => zb (gs k) e * W k) M) ≤ zI ot ↔ zs (fun k => zb (gs k) e * W k) M ≤ ot := zI_le (by omega) (by omega) (by omega) (by omega)
    refine br_f (nI_ge (b := 7) (by omega) (by omega)) ⟨241, rfl, rfl, 7, e, rfl, by omega, rfl, rfl, (ev_loadOf hG (by omega) hW).rt ⟨fun h1 => j_MD_evens (j_MD_evens ?_), fun h1 => ⟨Or.inl rfl, hq0 ⟨e, by omega, ?_⟩⟩⟩⟩
    · rw [nI_1, hE e (by omega), zI_add, ← zs_s]
      refine ih (e + 1) (by omega) (fun e' he' => ?_)
      by_cases w : e' = e
      · rw [w]; exact cmp.mp h1
      · exact h0 e' (by omega)
    · have := mt cmp.mpr h1
      omega
/-- members are set down -/
theorem lp_ev1 {G S z : Nat} {w5 w6 w7 : Option Value} (hG : G < 4096) (hS : S < 4096) (hGz : cn (tb G) 12 = z) (hSz : cn (tb S) 12 = z) (hz : z ≤ 7) (K : ∀ (I' : Nat → Nat → Int32) (mi me : Nat → Nat) w4, (∀ k, k < z → I' 239 k = nI (mi k) ∧ I' 240 k = nI (me k)) → Enm (tb G) 12 mi → Enm (tb S) 12 me → (∀ b, b ≠ 239 → b ≠ 240 → I' b = I b) → am_run am_sh m_MD_evens q 46 [some (.ref 236), some (.int (nI G)), some (.int (nI S)), some (.int (nI z)), w4, w5, w6, w7] [] (I', J, am_Rf f g)) : ∀ m k (I' : Nat → Nat → Int32) (mi me : Nat → Nat), m + k = z → (∀ j, j < k → (I' 239 j = nI (mi j) ∧ mi j < 12 ∧ tb G (mi j) = true ∧ cn (tb G) (mi j) = j) ∧ I' 240 j = nI (me j) ∧ me j < 12 ∧ tb S (me j) = true ∧ cn (tb S) (me j) = j) → (∀ b, b ≠ 239 → b ≠ 240 → I' b = I b) → am_u am_sh m_MD_evens q (am_at am_c_MD_evens 8) 8 [some (.ref 236), some (.int (nI G)), some (.int (nI S)), some (.int (nI z)), some (.int (nI k)), w5, w6, w7] [] (I', J, am_Rf f g) := by
  intro m
  induction m with
  | zero =>
    intro k I' mi me hk h0 hF
    obtain rfl : k = z := by omega
    exact br_t (nI_le (Nat.le_refl _) (by omega)) (K I' mi me _ (fun j hj => ⟨(h0 j hj).1.1, (h0 j hj).2.1⟩) (fun j hj => (h0 j (by omega)).1.2) (fun j hj => (h0 j (by omega)).2.2) hF)
  | succ m ih =>
    intro k I' mi me hk h0 hF
    refine br_f (nI_ge (by omega) (by omega)) ⟨239, rfl, rfl, (ev_nth hG (by omega) _).mono ?_⟩
    rintro x σ' ⟨rfl, u, rfl, u1, u2, u3⟩
    refine ⟨7, k, rfl, by omega, rfl, 240, rfl, rfl, (ev_nth hS (by omega) _).mono ?_⟩
    rintro x σ' ⟨rfl, e, rfl, e1, e2, e3⟩
    refine ⟨7, k, rfl, by omega, rfl, j_MD_evens ?_⟩
    rw [nI_1]
    refine ih (k + 1) _ (fun j => if j = k then u else mi j) (fun j => if j = k then e else me j) (by omega) (fun j hj => ?_) (fun b b1 b2 => ?_)
    · by_cases w : j = k
      · subst w
        rw [if_pos rfl, if_pos rfl, am_up_ne (by omega), am_up_eq, am_up_eq]
        exact ⟨⟨rfl, u1, u2, u3⟩, rfl, e1, e2, e3⟩
      · rw [if_neg w, if_neg w, am_up_ne (by omega), am_up_ne (by omega), am_up_ne (by omega), am_up_ne (by omega)]
        exact h0 j (by omega)
    · funext j
      rw [am_up_ne (by omega), am_up_ne (by omega), hF b b1 b2]
theorem Gm.of {I' : Nat → Nat → Int32} (hG : Gm I M gs) (h : I' 237 = I 237) : Gm I' M gs := by
  unfold Gm
  rw [h]
  exact hG
theorem sq_one {z : Nat} {mi me : Nat → Nat} {t : Bool} : One1 (sqc gs z mi me t) := fun c r => by
  unfold sqc
  split
  · decide
  · split
    · split
      · have := zb_01 (gs (mi c)) (me r)
        omega
      · have := zb_01 (gs (mi r)) (me c)
        omega
    · decide
theorem ev_evens {G S z : Nat} (hGm : Gm I M gs) (hG : G < 4096) (hS : S < 128) (hGM : ∀ u, tb G u = true → u < M) (hGz : cn (tb G) 12 = z) (hSz : cn (tb S) 12 = z) : am_ev am_sh m_MD_evens [.ref 236, .int (nI G), .int (nI S)] (I, J, am_Rf f g) (EvQ f g I J M gs G S) := by
  have h12 := hGm.2.1
  have hz : z ≤ 7 := by
    rw [← hSz, cn_out (a := 7) (b := 12) (by omega) (fun u a _ => tb_out (n := 7) hS a)]
    exact cn_le _ _
  refine s_MD_evens ((ev_bits (by omega) _).rt ?_)
  rw [pc12_cn S (by omega), hSz]
  refine j_MD_evens (lp_ev1 hG (by omega) hGz hSz hz (fun I1 mi me w4 a1 hmi hme hF1 => j_MD_evens ?_) z 0 I (fun _ => 0) (fun _ => 0) (by omega) (fun j hj => by omega) (fun b _ _ => rfl))
  have hme7 : ∀ k, k < z → me k < 7 := fun k hk => by
    rcases Nat.lt_or_ge (me k) 7 with w | w
    · exact w
    · have := (hme k (by omega)).2.1
      rw [tb_out (n := 7) hS w] at this
      cases this
  have hmiM : ∀ k, k < z → mi k < M := fun k hk => hGM _ (hmi k (by omega)).2.1
  have inj1 : ∀ r r', r < z → r' < z → r' < r → mi r' ≠ mi r := fun r r' a b c e => by
    have x1 := (hmi r (by omega)).2.2
    have x2 := (hmi r' (by omega)).2.2
    rw [e] at x2
    omega
  have inj2 : ∀ r r', r < z → r' < z → r' < r → me r' ≠ me r := fun r r' a b c e => by
    have x1 := (hme r (by omega)).2.2
    have x2 := (hme r' (by omega)).2.2
    rw [e] at x2
    omega
  have memOf : ∀ I' : Nat → Nat → Int32, I' 239 = I1 239 → I' 240 = I1 240 → Mem I' M z mi me := fun I' b1 b2 => ⟨hz, fun k hk => ⟨by rw [b1]; exact (a1 k hk).1, hmiM k hk, by rw [b2]; exact (a1 k hk).2, hme7 k hk⟩⟩
  refine ⟨rfl, ev_clears.mono ?_⟩
  rintro x σ' ⟨rfl, I2, rfl, c1, c2, c3⟩
  have g2 : Gm I2 M gs := hGm.of (by rw [c3 237 (by omega) (by omega), hF1 237 (by omega) (by omega)])
  refine ⟨rfl, (ev_squares false g2 (memOf I2 (c3 239 (by omega) (by omega)) (c3 240 (by omega) (by omega)))).mono ?_⟩
  rintro x σ' ⟨rfl, I3, rfl, d1, d2⟩
  have hz8 : z < 8 := by omega
  refine ⟨rfl, (ev_solves (cl := sqc gs z mi me false) hz8 sq_one (fun r hr c hc => d1 r c (Or.inl ⟨hr, hc⟩))).mono ?_⟩
  rintro x σ' ⟨y, I4, rfl, rfl, hsol, e2⟩
  have b4 : ∀ b, b ≠ 238 → b ≠ 241 → b ≠ 242 → I4 b = I1 b := fun b x1 x2 x3 => by rw [e2 b x1, d2 b x1, c3 b x2 x3]
  have ef4 : EFr I4 I := EFr.of (fun b hb => by rw [b4 b (by omega) (by omega) (by omega), hF1 b (by omega) (by omega)])
  have clf : ∀ c i, c < z → sqc gs z mi me false c i = zb (gs (mi i)) (me c) := fun c i hc => by
    unfold sqc
    rw [if_neg (by omega), if_pos hc, if_neg (by decide)]
  have clt : ∀ c i, c < z → sqc gs z mi me true c i = zb (gs (mi c)) (me i) := fun c i hc => by
    unfold sqc
    rw [if_neg (by omega), if_pos hc, if_pos rfl]
  have cl7 : ∀ t i, sqc gs z mi me t 7 i = 1 := fun t i => by
    unfold sqc
    rw [if_pos rfl]
  have no : ∀ {I' : Nat → Nat → Int32}, EFr I' I → ¬ Pair M gs z mi me → EvQ f g I J M gs G S (some (.int 0)) (I', J, am_Rf f g) := fun {I'} h1 h2 => ⟨false, I', rfl, rfl, h1, fun e => (by cases e), fun _ h => h2 (by have := h mi me hmi hme; rw [hSz] at this; exact this)⟩
  rcases hsol with ⟨rfl, w, ⟨c0, hc0, hw0⟩, hw⟩ | ⟨ov, v, rfl, ov0, ova, hv, hvs⟩
  · refine ⟨rfl, (ev_takes0 hz false).rt ⟨fun e => absurd rfl e, fun _ => ⟨Or.inl rfl, no ef4 (fun hp => ?_)⟩⟩⟩
    refine hw0 (hp.1 w (fun i hi => ?_) c0 hc0)
    rw [← hw i hi]
    exact zs_congr (fun c hc => by rw [clf c i hc])
  have hvs2 : ∀ i, i < z → ov = zs (fun c => v c * zb (gs (mi i)) (me c)) z := fun i hi => by
    have := hvs i hi
    rw [cl7, Int.mul_one] at this
    rw [this]
    exact zs_congr (fun c hc => by rw [clf c i hc])
  have m4 := memOf I4 (b4 239 (by omega) (by omega) (by omega)) (b4 240 (by omega) (by omega) (by omega))
  refine ⟨rfl, (ev_mtakes false m4 h12 ov0 ova hv (fun r r' x1 x2 x3 => by rw [if_neg (by decide), if_neg (by decide)]; exact inj2 r r' x1 x2 x3)).mono ?_⟩
  rintro x σ' ⟨y, I5, rfl, rfl, f1, f2, f3⟩
  rw [if_neg (by decide)] at f1 f2
  have ef5 : EFr I5 I := EFr.tr (EFr.of (fun b hb => f1 b (by omega))) ef4
  have oo := sgv_self ov0
  cases y with
  | false =>
    refine ⟨fun e => absurd rfl e, fun _ => ⟨Or.inl rfl, no ef5 (fun hp => ?_)⟩⟩
    obtain ⟨r, hr, hneg⟩ := f3 rfl
    have hneg : sgv ov (v r) < 0 := hneg
    obtain ⟨h1, _, d, ys, ws, hd, hnn, hy, _⟩ := hp
    have := nn_of hd (Int.le_of_lt oo) (hnn r hr).1 (one_way (A := fun c i => zb (gs (mi i)) (me c)) h1 hvs2 hy r hr)
    omega
  | true =>
    obtain ⟨f4, f5⟩ := f2 rfl
    have f4' : Fil I5 I4 241 me (fun r => sgv ov (v r)) z := f4
    have hE := Fil.all (N := 7) hSz.symm (by omega) hme f4' (fun j hj => by rw [e2 241 (by omega), d2 241 (by omega)]; exact c2 j hj)
    have vab : ∀ r, r < z → (sgv ov (v r)).natAbs ≤ 5040 := fun r hr => by rw [sgv_abs]; exact (hv r hr).2
    have Eab : ∀ e, (if tb S e = true then sgv ov (v (cn (tb S) e)) else 0).natAbs ≤ 5040 := fun e => by
      split
      · rename_i w
        rcases Nat.lt_or_ge e 12 with q | q
        · exact vab _ (by rw [← hSz]; exact (hme.hit q w).1)
        · rw [tb_out (n := 12) (show S < 2 ^ 12 by omega) q] at w; cases w
      · decide
    have Enn : ∀ e, 0 ≤ (if tb S e = true then sgv ov (v (cn (tb S) e)) else 0) := fun e => by
      split
      · rename_i w
        rcases Nat.lt_or_ge e 12 with q | q
        · exact f5 _ (by rw [← hSz]; exact (hme.hit q w).1)
        · rw [tb_out (n := 12) (show S < 2 ^ 12 by omega) q] at w; cases w
      · decide
    have sumE := fun F : Nat → Int => en_sum7 hS hme F (fun c => sgv ov (v c))
    rw [hSz] at sumE
    have oab : (sgv ov ov).natAbs ≤ 5040 := by rw [sgv_abs]; exact ova
    have g5 : Gm I5 M gs := hGm.of (by rw [f1 237 (by omega), b4 237 (by omega) (by omega) (by omega), hF1 237 (by omega) (by omega)])
    generalize hEE : (fun e => if tb S e = true then sgv ov (v (cn (tb S) e)) else 0) = E at *
    have hE' : ∀ e, e < 7 → I5 241 e = zI (E e) := fun e he => by rw [hE e he, ← hEE]
    have Eab' : ∀ e, (E e).natAbs ≤ 5040 := fun e => by rw [← hEE]; exact Eab e
    have Enn' : ∀ e, 0 ≤ E e := fun e => by rw [← hEE]; exact Enn e
    have sumE' : ∀ F : Nat → Int, zs (fun e => F e * E e) 7 = zs (fun c => F (me c) * sgv ov (v c)) z := fun F => by rw [← sumE F, ← hEE]
    have tail : ∀ x : Int32, x = zI (sgv ov ov) → am_u am_sh m_MD_evens (EvQ f g I J M gs G S) (am_at am_c_MD_evens 89) 89 [some (.ref 236), some (.int (nI G)), some (.int (nI S)), some (.int (nI z)), some (.int (zI ov)), none, none, none] [.int x] (I5, J, am_Rf f g) := by
      intro x hx
      rw [hx]
      refine ⟨rfl, (ev_bears g5 hE' (fun k hk => ?_) oab).mono ?_⟩
      · have := zs_abs (F := fun e => zb (gs k) e * E e) (B := 5040) 7 (fun e _ => Nat.le_trans (zb_abs _ _ _) (Eab' e))
        omega
      rintro x σ' ⟨y, rfl, rfl, hy⟩
      have brs : Pair M gs z mi me → ∀ k, k < M → sgv ov ov ≤ zs (fun e => zb (gs k) e * E e) 7 := fun hp k hk => by
        obtain ⟨h1, _, d, ys, ws, hd, hnn, hy, hge, _⟩ := hp
        rw [sumE' (fun e => zb (gs k) e)]
        exact scale_ge hd (Int.le_of_lt oo) (one_way (A := fun c i => zb (gs (mi i)) (me c)) h1 hvs2 hy) (hge k hk)
      cases y with
      | false =>
        exact ⟨fun e => absurd rfl e, fun _ => ⟨Or.inl rfl, no ef5 (fun hp => absurd (hy.mpr (brs hp)) (by decide))⟩⟩
      | true =>
        have hbear := hy.mp rfl
        have m5 := memOf I5 (by rw [f1 239 (by omega), b4 239 (by omega) (by omega) (by omega)]) (by rw [f1 240 (by omega), b4 240 (by omega) (by omega) (by omega)])
        refine ⟨fun _ => j_MD_evens ⟨rfl, (ev_squares true g5 m5).mono ?_⟩, fun e => absurd e (by decide)⟩
        rintro x σ' ⟨rfl, I6, rfl, p1, p2⟩
        refine ⟨rfl, (ev_solves (cl := sqc gs z mi me true) hz8 sq_one (fun r hr c hc => p1 r c (Or.inl ⟨hr, hc⟩))).mono ?_⟩
        rintro x σ' ⟨y, I7, rfl, rfl, hsol, p3⟩
        have b7 : ∀ b, b ≠ 238 → I7 b = I5 b := fun b x1 => by rw [p3 b x1, p2 b x1]
        have ef7 : EFr I7 I := EFr.tr (EFr.of (fun b hb => b7 b (by omega))) ef5
        rcases hsol with ⟨rfl, w, ⟨c0, hc0, hw0⟩, hw⟩ | ⟨ot, u, rfl, ot0, ota, hu, hus⟩
        · refine ⟨rfl, (ev_takes0 hz true).rt ⟨fun e => absurd rfl e, fun _ => ⟨Or.inl rfl, no ef7 (fun hp => ?_)⟩⟩⟩
          refine hw0 (hp.2.1 w (fun i hi => ?_) c0 hc0)
          rw [← hw i hi]
          exact zs_congr (fun c hc => by rw [clt c i hc])
        have hus2 : ∀ i, i < z → ot = zs (fun c => u c * zb (gs (mi c)) (me i)) z := fun i hi => by
          have := hus i hi
          rw [cl7, Int.mul_one] at this
          rw [this]
          exact zs_congr (fun c hc => by rw [clt c i hc])
        have m7 := memOf I7 (by rw [b7 239 (by omega), f1 239 (by omega), b4 239 (by omega) (by omega) (by omega)]) (by rw [b7 240 (by omega), f1 240 (by omega), b4 240 (by omega) (by omega) (by omega)])
        refine ⟨rfl, (ev_mtakes true m7 h12 ot0 ota hu (fun r r' x1 x2 x3 => by rw [if_pos rfl, if_pos rfl]; exact inj1 r r' x1 x2 x3)).mono ?_⟩
        rintro x σ' ⟨y, I8, rfl, rfl, r1, r2, r3⟩
        rw [if_pos rfl] at r1 r2
        have ef8 : EFr I8 I := EFr.tr (EFr.of (fun b hb => r1 b (by omega))) ef7
        have tt := sgv_self ot0
        cases y with
        | false =>
          refine ⟨fun e => absurd rfl e, fun _ => ⟨Or.inl rfl, no ef8 (fun hp => ?_)⟩⟩
          obtain ⟨r, hr, hneg⟩ := r3 rfl
          have hneg : sgv ot (u r) < 0 := hneg
          obtain ⟨_, h1, d, ys, ws, hd, hnn, _, _, hy, _⟩ := hp
          have := nn_of hd (Int.le_of_lt tt) (hnn r hr).2 (one_way (A := fun c i => zb (gs (mi c)) (me i)) h1 hus2 hy r hr)
          omega
        | true =>
          obtain ⟨r4, r5⟩ := r2 rfl
          have r4' : Fil I8 I7 242 mi (fun r => sgv ot (u r)) z := r4
          have hW := Fil.all (N := 12) hGz.symm (by omega) hmi r4' (fun j hj => by rw [b7 242 (by omega), f1 242 (by omega), e2 242 (by omega), d2 242 (by omega)]; exact c1 j hj)
          have sumW := fun F : Nat → Int => en_sumM hGM h12 hmi F (fun c => sgv ot (u c))
          have sumW12 := fun F : Nat → Int => en_sumM (M := 12) (fun u hu => by have := hGM u hu; omega) (Nat.le_refl _) hmi F (fun c => sgv ot (u c))
          rw [hGz] at sumW sumW12
          have wab : ∀ k, (if tb G k = true then sgv ot (u (cn (tb G) k)) else 0).natAbs ≤ 5040 := fun k => by
            split
            · rename_i w
              have k12 : k < 12 := by have := hGM k w; omega
              rw [sgv_abs]
              exact (hu _ (by rw [← hGz]; exact (hmi.hit k12 w).1)).2
            · decide
          have wnn : ∀ k, 0 ≤ (if tb G k = true then sgv ot (u (cn (tb G) k)) else 0) := fun k => by
            split
            · rename_i w
              have k12 : k < 12 := by have := hGM k w; omega
              exact r5 _ (by rw [← hGz]; exact (hmi.hit k12 w).1)
            · decide
          have wM : ∀ k, ¬ (if tb G k = true then sgv ot (u (cn (tb G) k)) else 0) = 0 → k < M := fun k hk => by
            by_cases w : tb G k = true
            · exact hGM k w
            · rw [if_neg w] at hk; exact absurd rfl hk
          generalize hWW : (fun k => if tb G k = true then sgv ot (u (cn (tb G) k)) else 0) = W at *
          have hW' : ∀ k, k < 12 → I8 242 k = zI (W k) := fun k hk => by rw [hW k hk, ← hWW]
          have wab' : ∀ k, (W k).natAbs ≤ 5040 := fun k => by rw [← hWW]; exact wab k
          have wnn' : ∀ k, 0 ≤ W k := fun k => by rw [← hWW]; exact wnn k
          have wM' : ∀ k, ¬ W k = 0 → k < M := fun k hk => wM k (by rw [← hWW] at hk; exact hk)
          have sumW' : ∀ F : Nat → Int, zs (fun k => F k * W k) M = zs (fun c => F (mi c) * sgv ot (u c)) z := fun F => by rw [← sumW F, ← hWW]
          have sumW12' : ∀ F : Nat → Int, zs (fun k => F k * W k) 12 = zs (fun c => F (mi c) * sgv ot (u c)) z := fun F => by rw [← sumW12 F, ← hWW]
          have g8 : Gm I8 M gs := g5.of (by rw [r1 237 (by omega), b7 237 (by omega)])
          have tab : (sgv ot ot).natAbs ≤ 5040 := by rw [sgv_abs]; exact ota
          have E8 : ∀ e, e < 7 → I8 241 e = zI (E e) := fun e he => by rw [r1 241 (by omega), b7 241 (by omega)]; exact hE' e he
          have key : sgv ov ov * zs W 12 = sgv ot ot * zs E 7 := by
            have t1 : zs W 12 = zs (fun c => sgv ot (u c)) z := by
              have := sumW12' (fun _ => 1)
              rw [zs_congr (G := W) (fun k _ => Int.one_mul _)] at this
              rw [this]
              exact zs_congr (fun c _ => Int.one_mul _)
            have t2 : zs E 7 = zs (fun c => sgv ov (v c)) z := by
              have := sumE' (fun _ => 1)
              rw [zs_congr (G := E) (fun k _ => Int.one_mul _)] at this
              rw [this]
              exact zs_congr (fun c _ => Int.one_mul _)
            rw [t1, t2]
            refine both_sums (A := fun i c => zb (gs (mi i)) (me c)) (fun i hi => ?_) (fun i hi => ?_)
            · have := congrArg (sgv ov) (hvs2 i hi)
              rw [sgv_zs] at this
              rw [this]
              exact zs_congr (fun c _ => sgv_mul _ _ _)
            · have := congrArg (sgv ot) (hus2 i hi)
              rw [sgv_zs] at this
              rw [this]
              exact zs_congr (fun c _ => sgv_mul _ _ _)
          have tail2 : ∀ x : Int32, x = zI (sgv ot ot) → am_u am_sh m_MD_evens (EvQ f g I J M gs G S) (am_at am_c_MD_evens 141) 141 [some (.ref 236), some (.int (nI G)), some (.int (nI S)), some (.int (nI z)), some (.int (zI (sgv ov ov))), some (.int (zI ot)), none, none] [.int x] (I8, J, am_Rf f g) := by
            intro x hx
            rw [hx]
            refine j_MD_evens (lp_ev5 (E := E) (W := W) g8 E8 (fun k hk => hW' k (by omega)) (fun e he => ?_) tab (fun hbad => no ef8 (fun hp => ?_)) (fun hgood w7 => j_MD_evens ?_) 7 0 (by omega) (fun e' he' => by omega))
            · have := zs_abs (F := fun k => zb (gs k) e * W k) (B := 5040) M (fun k _ => Nat.le_trans (zb_abs _ _ _) (wab' k))
              have := Nat.mul_le_mul_right 5040 h12
              omega
            · obtain ⟨e, he, hlt⟩ := hbad
              obtain ⟨_, h1, d, ys, ws, hd, hnn, _, _, hy, hle⟩ := hp
              have := scale_le hd (Int.le_of_lt tt) (one_way (A := fun c i => zb (gs (mi c)) (me i)) h1 hus2 hy) (hle e he)
              rw [sumW' (fun k => zb (gs k) e)] at hlt
              omega
            · have sab := zs_abs (F := E) (B := 5040) 7 (fun e _ => Eab' e)
              have snn : 0 ≤ zs E 7 := zs_nn (fun e _ => Enn' e)
              obtain ⟨a, ha⟩ : ∃ a : Nat, (a : Int) = sgv ov ov := ⟨(sgv ov ov).toNat, Int.toNat_of_nonneg (by omega)⟩
              obtain ⟨b, hb⟩ : ∃ b : Nat, (b : Int) = zs E 7 := ⟨(zs E 7).toNat, Int.toNat_of_nonneg snn⟩
              have a31 : a < 2 ^ 31 := by omega
              have b31 : b < 2 ^ 31 := by omega
              rw [← ha, ← hb, zI_nat, zI_nat]
              refine ⟨rfl, (ev_reduces a31 b31 (Nat.gcd_pos_of_pos_left b (by omega))).rv ⟨Or.inr rfl, true, _, rfl, rfl, EFr.tr ⟨fun c x1 x2 => ?_, fun k x1 x2 => ?_⟩ ef8, fun _ => ⟨sgv ov ov, sgv ot ot, E, W, ⟨oo, tt⟩, fun e _ => Enn' e, hbear, fun k _ => wnn' k, fun k _ hk => wM' k hk, hgood, key, a, b, ha, hb, a31, b31, ?_, ?_⟩, fun e => (by cases e)⟩⟩
              · funext j
                rw [am_up_ne (by omega), am_up_ne (by omega)]
              · rw [am_up_ne (by omega), am_up_ne (by omega)]
              · rw [am_up_ne (by omega), am_up_eq]
              · rw [am_up_eq]
          have sg : (0 : Int32) ≤ zI ot ↔ 0 ≤ ot := by rw [← zI_0, zI_le (by omega) (by omega) (by omega) (by omega)]
          refine ⟨fun _ => j_MD_evens ⟨fun h1 => j_MD_evens ?_, fun h1 => j_MD_evens ?_⟩, fun e => absurd e (by decide)⟩
          · have h1 := sg.mp h1
            refine tail2 (zI ot) ?_
            unfold sgv
            rw [if_neg (by omega)]
          · have h1 := mt sg.mpr h1
            refine tail2 (- zI ot) ?_
            unfold sgv
            rw [if_pos (by omega), zI_neg]
    have sg : (0 : Int32) ≤ zI ov ↔ 0 ≤ ov := by rw [← zI_0, zI_le (by omega) (by omega) (by omega) (by omega)]
    refine ⟨fun _ => j_MD_evens ⟨fun h1 => j_MD_evens ?_, fun h1 => j_MD_evens ?_⟩, fun e => absurd e (by decide)⟩
    · have h1 := sg.mp h1
      refine tail (zI ov) ?_
      unfold sgv
      rw [if_neg (by omega)]
    · have h1 := mt sg.mpr h1
      refine tail (- zI ov) ?_
      unfold sgv
      rw [if_pos (by omega), zI_neg]
end EV
