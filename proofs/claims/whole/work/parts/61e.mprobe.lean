/-! the reference's probing -/
theorem pow3 : ∀ e, e < 8 → 1 ≤ 3 ^ e ∧ 3 ^ e ≤ 2187 := by decide
theorem st_tab : ∀ n, n < 8 → ∀ x, x < 3 ^ n → pl (thn n 1 x) (thn n 2 x) = x ∧ thn n 1 x < 2 ^ n ∧ thn n 2 x < 2 ^ n ∧ Nat.beq (thn n 1 x &&& thn n 2 x) 0 = true := by decide +kernel
theorem dg_tab : ∀ n, n < 8 → ∀ x, x < 3 ^ n → ∀ e, e < n → Nat.beq (x / 3 ^ e % 3) 0 = opn n (thn n 1 x) (thn n 2 x) e := by decide +kernel
theorem pl_ltn : ∀ n, n < 8 → ∀ u, u < 2 ^ n → ∀ d, d < 2 ^ n → Nat.beq (u &&& d) 0 = true → pl u d < 3 ^ n := by decide +kernel
def frm (w l e s : Nat) : Nat := if tb w e = true then s + 3 ^ e else if tb l e = true then s + 2 * 3 ^ e else s
theorem frm_w {w l e s : Nat} (h : tb w e = true) : frm w l e s = s + 3 ^ e := by unfold frm; rw [if_pos h]
theorem frm_l {w l e s : Nat} (h : tb w e = false) (h2 : tb l e = true) : frm w l e s = s + 2 * 3 ^ e := by unfold frm; rw [if_neg (by rw [h]; decide), if_pos h2]
theorem frm_0 {w l e s : Nat} (h : tb w e = false) (h2 : tb l e = false) : frm w l e s = s := by unfold frm; rw [if_neg (by rw [h]; decide), if_neg (by rw [h2]; decide)]
theorem frm_tab : ∀ n, n < 8 → ∀ u, u < 2 ^ n → ∀ d, d < 2 ^ n → Nat.beq (u &&& d) 0 = true → fo (frm u d) 0 n = pl u d := by decide +kernel
theorem thn_le : ∀ n j x, n < 8 → thn n j x < 2 ^ n
  | 0, _, _, _ => Nat.one_pos
  | n + 1, j, x, h => by
    have ih := thn_le n j x (by omega)
    show (if x / 3 ^ n % 3 = j then thn n j x ||| 2 ^ n else thn n j x) < _
    have hp : 2 ^ n < 2 ^ (n + 1) := Nat.pow_lt_pow_right (by omega) (by omega)
    split
    · exact Nat.or_lt_two_pow (by omega) hp
    · omega
section MPROBE
variable {f g : Nat → Nat} {I : Nat → Nat → Int32} {J : Nat → Nat → Int64} {n M : Nat} {gs : Nat → Nat}
theorem lp_mpow {σ : am_S} {b : Nat} {q : am_Q} (hb : b < 2 ^ 31) (hq : q (some (.int (nI (3 ^ b)))) σ) : ∀ m k p, m + k = b → p = nI (3 ^ k) → am_u am_sh m_MD_power q (am_at am_c_MD_power 4) 4 [some (.int (nI b)), some (.int p), some (.int (nI k))] [] σ := by
  obtain ⟨I, J, R⟩ := σ
  intro m
  induction m with
  | zero =>
    intro k p hk hp
    obtain rfl : k = b := by omega
    subst hp
    exact br_t (nI_le (by omega) hb) (j_MD_power hq)
  | succ m ih =>
    intro k p hk hp
    refine br_f (nI_ge (by omega) hb) (j_MD_power ?_)
    show am_u _ _ _ _ _ [_, some (.int (p * nI 3)), some (.int (nI k + 1))] _ _
    rw [nI_1, hp, nI_mul]
    exact ih (k + 1) _ (by omega) (by rw [Nat.pow_succ])
theorem ev_mpow {b : Nat} (hb : b < 2 ^ 31) (σ : am_S) : am_ev am_sh m_MD_power [.int (nI b)] σ (Rt (.int (nI (3 ^ b))) σ) := by
  have h := lp_mpow (σ := σ) (q := Rt (.int (nI (3 ^ b))) σ) hb ⟨rfl, rfl⟩ b 0 _ (by omega) rfl
  obtain ⟨I, J, R⟩ := σ
  exact s_MD_power (j_MD_power h)
theorem ev_mdigit {x e : Nat} (hx : x < 2 ^ 31) (he : e < 8) (σ : am_S) : am_ev am_sh m_MD_digit [.int (nI x), .int (nI e)] σ (Rt (.int (nI (x / 3 ^ e % 3))) σ) := by
  have hp := pow3 e he
  have hd : x / 3 ^ e ≤ x := Nat.div_le_self _ _
  obtain ⟨I, J, R⟩ := σ
  refine s_MD_digit ((ev_mpow (by omega) _).rt ⟨nI_ne0 (by omega) (by omega), by decide, ?_, rfl⟩)
  show some (Value.int (nI x / nI (3 ^ e) - nI x / nI (3 ^ e) / nI 3 * nI 3)) = _
  rw [nI_div hx (by omega), nI_rem (by omega) (by omega)]
theorem lp_those {x j : Nat} {q : am_Q} (hn : I 237 0 = nI n) (h8 : n < 8) (hx : x < 2 ^ 31) (hj : j < 3) (hq : q (some (.int (nI (thn n j x)))) (I, J, am_Rf f g)) : ∀ m e s, m + e = n → s = nI (thn e j x) → am_u am_sh m_MD_those q (am_at am_c_MD_those 5) 5 [some (.ref 236), some (.int (nI x)), some (.int (nI j)), some (.int s), some (.int (nI e))] [] (I, J, am_Rf f g) := by
  intro m
  induction m with
  | zero =>
    intro e s he hs
    obtain rfl : e = n := by omega
    subst hs
    exact ⟨237, rfl, rfl, 116, 0, rfl, by omega, rfl, br_t (by rw [hn]; exact nI_le (by omega) (by omega)) (j_MD_those hq)⟩
  | succ m ih =>
    intro e s he hs
    have hm : x / 3 ^ e % 3 < 3 := Nat.mod_lt _ (by omega)
    refine ⟨237, rfl, rfl, 116, 0, rfl, by omega, rfl, br_f (by rw [hn]; exact nI_ge (by omega) (by omega)) ((ev_mdigit hx (by omega) _).rt ⟨fun h1 => j_MD_those (j_MD_those ?_), fun h1 => j_MD_those (j_MD_those ?_)⟩)⟩
    · show am_u _ _ _ _ _ [_, _, _, some (.int (s ||| nI 0)), some (.int (nI e + 1))] _ _
      rw [nI_1, hs, nI_or, Nat.or_zero]
      refine ih (e + 1) _ (by omega) ?_
      show _ = nI (if x / 3 ^ e % 3 = j then thn e j x ||| 2 ^ e else thn e j x)
      rw [if_neg (fun z => h1 (by rw [z]))]
    · show am_u _ _ _ _ _ [_, _, _, some (.int (s ||| (1 : Int32) <<< (nI e &&& 31))), some (.int (nI e + 1))] _ _
      rw [nI_1, hs, shl_tab e (by omega), nI_or]
      refine ih (e + 1) _ (by omega) ?_
      show _ = nI (if x / 3 ^ e % 3 = j then thn e j x ||| 2 ^ e else thn e j x)
      rw [if_pos ((nI_eq (by omega) (by omega)).mp h1)]
theorem ev_those {x j : Nat} (hn : I 237 0 = nI n) (h8 : n < 8) (hx : x < 2 ^ 31) (hj : j < 3) : am_ev am_sh m_MD_those [.ref 236, .int (nI x), .int (nI j)] (I, J, am_Rf f g) (Rt (.int (nI (thn n j x))) (I, J, am_Rf f g)) := s_MD_those (j_MD_those (lp_those hn h8 hx hj ⟨rfl, rfl⟩ n 0 _ rfl rfl))
/-- the least so far, and the first that is worth it -/
def Nx (O : Nat → Bool) (Y : Nat → Nat) (e : Nat) (x : Int32) (L : Nat) : Prop := (x = -4 ∧ L = 99 ∧ ∀ j, j < e → O j = false) ∨ ∃ e0, x = nI e0 ∧ e0 < e ∧ O e0 = true ∧ Y e0 = L ∧ (∀ j, j < e → O j = true → L ≤ Y j) ∧ ∀ j, j < e0 → O j = true → L < Y j
theorem Nx.no {O : Nat → Bool} {Y : Nat → Nat} {e L : Nat} {x : Int32} (h : Nx O Y e x L) (hO : O e = false) : Nx O Y (e + 1) x L := by
  rcases h with ⟨h1, h2, h3⟩ | ⟨e0, h1, h2, h3, h4, h5, h6⟩
  · refine Or.inl ⟨h1, h2, fun j hj => ?_⟩
    by_cases q : j = e
    · rw [q]; exact hO
    · exact h3 j (by omega)
  · refine Or.inr ⟨e0, h1, by omega, h3, h4, fun j hj hOj => ?_, h6⟩
    by_cases q : j = e
    · rw [q, hO] at hOj; cases hOj
    · exact h5 j (by omega) hOj
theorem Nx.lt {O : Nat → Bool} {Y : Nat → Nat} {e L : Nat} {x : Int32} (h : Nx O Y e x L) (hO : O e = true) (hY : Y e < L) : Nx O Y (e + 1) (nI e) (Y e) := by
  refine Or.inr ⟨e, rfl, by omega, hO, rfl, fun j hj hOj => ?_, fun j hj hOj => ?_⟩
  · by_cases q : j = e
    · rw [q]; exact Nat.le_refl _
    · rcases h with ⟨h1, h2, h3⟩ | ⟨e0, h1, h2, h3, h4, h5, h6⟩
      · rw [h3 j (by omega)] at hOj; cases hOj
      · have := h5 j (by omega) hOj; omega
  · rcases h with ⟨h1, h2, h3⟩ | ⟨e0, h1, h2, h3, h4, h5, h6⟩
    · rw [h3 j (by omega)] at hOj; cases hOj
    · have := h5 j (by omega) hOj; omega
theorem Nx.ge {O : Nat → Bool} {Y : Nat → Nat} {e L : Nat} {x : Int32} (h : Nx O Y e x L) (h8 : Y e ≤ 8) (hY : L ≤ Y e) : Nx O Y (e + 1) x L := by
  rcases h with ⟨h1, h2, h3⟩ | ⟨e0, h1, h2, h3, h4, h5, h6⟩
  · omega
  · refine Or.inr ⟨e0, h1, by omega, h3, h4, fun j hj hOj => ?_, h6⟩
    by_cases q : j = e
    · rw [q]; exact hY
    · exact h5 j (by omega) hOj
theorem Nx.L99 {O : Nat → Bool} {Y : Nat → Nat} {e L : Nat} {x : Int32} (h : Nx O Y e x L) (h8 : ∀ j, O j = true → Y j ≤ 8) : L ≤ 99 := by
  rcases h with ⟨h1, h2, h3⟩ | ⟨e0, h1, h2, h3, h4, h5, h6⟩
  · omega
  · have := h8 e0 h3; omega
theorem Nx.fin {hs : Nat → Bool} {u d L : Nat} {x : Int32} (h8 : n < 8) (hu : u < 2 ^ n) (hd : d < 2 ^ n) (hx : u &&& d = 0) (ho : ov hs n u d = false) (h : Nx (opn n u d) (py (pV hs n) u d) n x L) : L = pV hs n u d ∧ x = bst hs n u d := by
  obtain ⟨e1, a1, a2, a3⟩ := pV_at (hs := hs) h8 hu hd hx ho
  rcases h with ⟨h1, h2, h3⟩ | ⟨e0, h1, h2, h3, h4, h5, h6⟩
  · rw [h3 e1 a1] at a2; cases a2
  · have b1 := h5 e1 a1 a2
    have b2 := py_ge (hs := hs) h8 hu hd hx ho h3
    have hL : L = pV hs n u d := by omega
    refine ⟨hL, ?_⟩
    have k1 : ∀ j, j < e0 → bsP hs n u d j = false := fun j hj => by
      unfold bsP
      cases hO : opn n u d j with
      | false => rfl
      | true =>
        have := h6 j hj hO
        rw [nbq (by omega)]
        rfl
    have k2 : bsP hs n u d e0 = true := by
      unfold bsP
      rw [h3, h4, hL, beq_rf]
      rfl
    unfold bst
    rw [if_neg (by rw [ho]; decide), h1, fi_hit k1 k2 (by omega)]
    rfl
/-- states from k on are done -/
def Sx (I : Nat → Nat → Int32) (hs : Nat → Bool) (n k : Nat) : Prop := ∀ x, k ≤ x → x < 3 ^ n → I 243 x = nI (pV hs n (thn n 1 x) (thn n 2 x)) ∧ I 244 x = bst hs n (thn n 1 x) (thn n 2 x)
theorem lp_probesOf {hs : Nat → Bool} {x : Nat} {q : am_Q} (hn : I 237 0 = nI n) (h8 : n < 8) (hx : x < 3 ^ n) (hS : Sx I hs n (x + 1)) (hq : ∀ I' nx L, (∀ c, c ≠ 243 → c ≠ 244 → I' c = I c) → (∀ k, k ≠ x → I' 243 k = I 243 k ∧ I' 244 k = I 244 k) → I' 244 x = nx → Nx (opn n (thn n 1 x) (thn n 2 x)) (py (pV hs n) (thn n 1 x) (thn n 2 x)) n nx L → q none (am_up I' 243 x (nI L), J, am_Rf f g)) : ∀ m e L (I' : Nat → Nat → Int32) v4 v5 v6, m + e = n → (∀ c, c ≠ 243 → c ≠ 244 → I' c = I c) → (∀ k, k ≠ x → I' 243 k = I 243 k ∧ I' 244 k = I 244 k) → Nx (opn n (thn n 1 x) (thn n 2 x)) (py (pV hs n) (thn n 1 x) (thn n 2 x)) e (I' 244 x) L → am_u am_sh m_MD_probesOf q (am_at am_c_MD_probesOf 54) 54 [some (.ref 236), some (.int (nI x)), some (.int (nI L)), some (.int (nI e)), v4, v5, v6] [] (I', J, am_Rf f g) := by
  have h3 := pow3 n h8
  obtain ⟨t1, t2, t3, t4⟩ := st_tab n h8 x hx
  have h7 := pow_le7 h8
  have hux : thn n 1 x &&& thn n 2 x = 0 := Nat.eq_of_beq_eq_true t4
  intro m
  induction m with
  | zero =>
    intro e L I' v4 v5 v6 he hF hK hN
    obtain rfl : e = n := by omega
    exact ⟨237, rfl, rfl, 116, 0, rfl, by omega, rfl, br_t (by rw [hF 237 (by omega) (by omega), hn]; exact nI_le (by omega) (by omega)) (j_MD_probesOf ⟨243, rfl, rfl, 2187, x, rfl, by omega, rfl, hq I' _ L hF hK rfl hN⟩)⟩
  | succ m ih =>
    intro e L I' v4 v5 v6 he hF hK hN
    have hdg := dg_tab n h8 x hx e (by omega)
    have hL := hN.L99 (fun j hO => py_le8 h8 t2 t3 hux hO)
    refine ⟨237, rfl, rfl, 116, 0, rfl, by omega, rfl, br_f (by rw [hF 237 (by omega) (by omega), hn]; exact nI_ge (by omega) (by omega)) ((ev_mdigit (by omega) (by omega) _).rt ⟨fun h1 => j_MD_probesOf (j_MD_probesOf ?_), fun h1 => ?_⟩)⟩
    · rw [show nI e + 1 = nI (e + 1) from nI_1 e]
      have hO : opn n (thn n 1 x) (thn n 2 x) e = false := by rw [← hdg]; exact nbq (fun z => h1 (by rw [z]; rfl))
      exact ih (e + 1) L I' _ _ _ (by omega) hF hK (hN.no hO)
    · have hO : opn n (thn n 1 x) (thn n 2 x) e = true := by
        have hm : x / 3 ^ e % 3 < 3 := Nat.mod_lt _ (by omega)
        rw [← hdg, (nI_eq (b := 0) (by omega) (by omega)).mp h1]
        rfl
      obtain ⟨o1, o2, o3⟩ := opn_iff.mp hO
      have p1 : pl (thn n 1 x ||| 2 ^ e) (thn n 2 x) = x + 3 ^ e := by
        unfold pl
        rw [th3_or _ (by omega) e (by omega) o2]
        have : pl (thn n 1 x) (thn n 2 x) = x := t1
        unfold pl at this
        omega
      have p2 : pl (thn n 1 x) (thn n 2 x ||| 2 ^ e) = x + 2 * 3 ^ e := by
        unfold pl
        rw [th3_or _ (by omega) e (by omega) o3]
        have : pl (thn n 1 x) (thn n 2 x) = x := t1
        unfold pl at this
        omega
      have a1 := or_lt t2 o1
      have a2 := or_lt t3 o1
      have b1 := beq0 (or_dis hux o3)
      have b2 := beq0 (or_dis2 hux o2)
      have l1 := pl_ltn n h8 _ a1 _ t3 b1
      have l2 := pl_ltn n h8 _ t2 _ a2 b2
      have c1 := thn_tab n h8 _ a1 _ t3 b1
      have c2 := thn_tab n h8 _ t2 _ a2 b2
      rw [p1] at l1 c1
      rw [p2] at l2 c2
      have hp := pow3 e (by omega)
      have s1 := (hS (x + 3 ^ e) (by omega) l1).1
      have s2 := (hS (x + 2 * 3 ^ e) (by omega) l2).1
      rw [c1.1, c1.2] at s1
      rw [c2.1, c2.2] at s2
      have w1 : I' 243 (x + 3 ^ e) = nI (pV hs n (thn n 1 x ||| 2 ^ e) (thn n 2 x)) := by rw [(hK _ (by omega)).1]; exact s1
      have w2 : I' 243 (x + 2 * 3 ^ e) = nI (pV hs n (thn n 1 x) (thn n 2 x ||| 2 ^ e)) := by rw [(hK _ (by omega)).1]; exact s2
      have v1 := pV_le7 (hs := hs) h8 a1 t3 (or_dis hux o3)
      have v2 := pV_le7 (hs := hs) h8 t2 a2 (or_dis2 hux o2)
      have y8 := py_le8 (hs := hs) h8 t2 t3 hux hO
      refine ⟨243, rfl, rfl, (ev_mpow (by omega) _).rt ⟨2187, x + 3 ^ e, rfl, by omega, nI_add _ _, 243, rfl, rfl, (ev_mpow (by omega) _).rt ⟨2187, x + 2 * 3 ^ e, rfl, by omega, ?_, ?_⟩⟩⟩
      · show nI x + nI 2 * nI (3 ^ e) = _
        rw [nI_mul, nI_add]
      show am_br .le (I' 243 (x + 3 ^ e)) (I' 243 (x + 2 * 3 ^ e)) _ _
      rw [w1, w2]
      have step : ∀ (v z4 z5 : Int32) (z6 : Option Value), v = nI (max (pV hs n (thn n 1 x ||| 2 ^ e) (thn n 2 x)) (pV hs n (thn n 1 x) (thn n 2 x ||| 2 ^ e))) → am_u am_sh m_MD_probesOf q (am_at am_c_MD_probesOf 115) 115 [some (.ref 236), some (.int (nI x)), some (.int (nI L)), some (.int (nI e)), some (.int z4), some (.int z5), z6] [.int v, .int 1] (I', J, am_Rf f g) := by
        intro v z4 z5 z6 hv
        have ey : (1 : Int32) + v = nI (py (pV hs n) (thn n 1 x) (thn n 2 x) e) := by
          rw [hv]
          exact nI_add 1 _
        refine ⟨244, rfl, rfl, ?_⟩
        show am_br .ge ((1 : Int32) + v) (nI L) _ _
        rw [ey]
        by_cases hlt : py (pV hs n) (thn n 1 x) (thn n 2 x) e < L
        · refine br_f (nI_ge hlt (by omega)) (j_MD_probesOf ⟨2187, x, rfl, by omega, rfl, br_f ?_ (j_MD_probesOf (j_MD_probesOf ?_))⟩)
          · exact nI_ge hlt (by omega)
          · rw [show nI e + 1 = nI (e + 1) from nI_1 e]
            refine ih (e + 1) _ _ _ _ _ (by omega) (fun c g1 g2 => by rw [up_cell g2, hF c g1 g2]) (fun k hk => ?_) ?_
            · rw [am_up_ne (by omega), am_up_ne (by omega)]; exact hK k hk
            · rw [am_up_eq]; exact hN.lt hO hlt
        · refine br_t (nI_le (by omega) (by omega)) (j_MD_probesOf ⟨244, rfl, rfl, 2187, x, rfl, by omega, rfl, 2187, x, rfl, by omega, rfl, br_t ?_ (j_MD_probesOf (j_MD_probesOf ?_))⟩)
          · exact nI_le (by omega) (by omega)
          · rw [show nI e + 1 = nI (e + 1) from nI_1 e]
            refine ih (e + 1) _ _ _ _ _ (by omega) (fun c g1 g2 => by rw [up_cell g2, hF c g1 g2]) (fun k hk => ?_) ?_
            · rw [am_up_ne (by omega), am_up_ne (by omega)]; exact hK k hk
            · rw [am_up_eq]; exact hN.ge y8 (by omega)
      rcases Nat.lt_or_ge (pV hs n (thn n 1 x) (thn n 2 x ||| 2 ^ e)) (pV hs n (thn n 1 x ||| 2 ^ e) (thn n 2 x)) with hlt | hge
      · exact br_f (nI_ge hlt (by omega)) (j_MD_probesOf (step _ _ _ _ (by rw [Nat.max_eq_left (by omega)])))
      · exact br_t (nI_le hge (by omega)) (j_MD_probesOf (step _ _ _ v6 (by rw [Nat.max_eq_right (by omega)])))
theorem ev_probesOf {x : Nat} (hG : Gm I M gs) (hn : I 237 0 = nI n) (h8 : n < 8) (hx : x < 3 ^ n) (hS : Sx I (hlm gs M) n (x + 1)) : am_ev am_sh m_MD_probesOf [.ref 236, .int (nI x)] (I, J, am_Rf f g) (fun r σ' => r = none ∧ ∃ I', σ' = (I', J, am_Rf f g) ∧ (∀ c, c ≠ 243 → c ≠ 244 → I' c = I c) ∧ Sx I' (hlm gs M) n x) := by
  have h3 := pow3 n h8
  obtain ⟨t1, t2, t3, t4⟩ := st_tab n h8 x hx
  have h7 := pow_le7 h8
  have hux : thn n 1 x &&& thn n 2 x = 0 := Nat.eq_of_beq_eq_true t4
  have hF0 : ∀ c, c ≠ 243 → c ≠ 244 → am_up (am_up I 243 x 0) 244 x (-4) c = I c := fun c c1 c2 => by rw [up_cell c2, up_cell c1]
  have hK0 : ∀ k, k ≠ x → am_up (am_up I 243 x 0) 244 x (-4) 243 k = I 243 k ∧ am_up (am_up I 243 x 0) 244 x (-4) 244 k = I 244 k := fun k hk => by
    rw [am_up_ne (by omega), am_up_ne (by omega), am_up_ne (by omega), am_up_ne (by omega)]
    exact ⟨rfl, rfl⟩
  have hn0 : am_up (am_up I 243 x 0) 244 x (-4) 237 0 = nI n := by rw [hF0 237 (by omega) (by omega), hn]
  have hG0 : Gm (am_up (am_up I 243 x 0) 244 x (-4)) M gs := by unfold Gm; rw [hF0 237 (by omega) (by omega)]; exact hG
  have hV := pV_eq (hs := hlm gs M) h8 t2 t3 hux
  -- it is over
  have over : ov (hlm gs M) n (thn n 1 x) (thn n 2 x) = true → Sx (am_up (am_up I 243 x 0) 244 x (-4)) (hlm gs M) n x := fun ho y hy1 hy2 => by
    by_cases e : y = x
    · subst e
      rw [am_up_ne (by omega), am_up_eq, am_up_eq]
      rw [ho, if_pos rfl] at hV
      refine ⟨by rw [hV]; rfl, ?_⟩
      unfold bst
      rw [if_pos ho]
    · rw [(hK0 y e).1, (hK0 y e).2]
      exact hS y (by omega) hy2
  refine s_MD_probesOf ⟨243, rfl, rfl, 2187, x, rfl, by omega, rfl, 244, rfl, rfl, 2187, x, rfl, by omega, rfl, rfl, (ev_those (j := 1) hn0 h8 (by omega) (by omega)).rt ⟨rfl, (ev_mh hG0 (by omega)).rt ⟨fun h1 => j_MD_probesOf ⟨rfl, _, rfl, hF0, over ?_⟩, fun h1 => ⟨rfl, (ev_mall hn0 h8).rt ⟨rfl, (ev_those (j := 2) hn0 h8 (by omega) (by omega)).rt ?_⟩⟩⟩⟩⟩
  · unfold ov
    rw [b2i_ne0.mp h1]
    rfl
  · refine ⟨rfl, ?_⟩
    show am_ev am_sh m_MD_holds [.ref 236, .int (nI (2 ^ n - 1) &&& (nI (thn n 2 x) ^^^ (-1)))] _ _
    have hx2 := xor_lt t3
    rw [cmp_tab n h8 _ (by omega) t3]
    refine (ev_mh hG0 (by omega)).rt ⟨fun h2 => j_MD_probesOf (j_MD_probesOf ?_), fun h2 => ⟨rfl, _, rfl, hF0, over ?_⟩⟩
    · have ho : ov (hlm gs M) n (thn n 1 x) (thn n 2 x) = false := by
        unfold ov
        rw [b2i_eq0.mp h1, b2i_ne0.mp h2]
        rfl
      refine lp_probesOf (I := am_up (am_up I 243 x 0) 244 x (-4)) (hs := hlm gs M) hn0 h8 hx (fun y hy1 hy2 => ?_) ?_ n 0 99 _ _ _ _ rfl (fun _ _ _ => rfl) (fun _ _ => ⟨rfl, rfl⟩) (Or.inl ⟨am_up_eq, rfl, fun j hj => by omega⟩)
      · rw [(hK0 y (by omega)).1, (hK0 y (by omega)).2]
        exact hS y hy1 hy2
      · intro I' nx L hF hK hnx hN
        obtain ⟨q1, q2⟩ := hN.fin h8 t2 t3 hux ho
        refine ⟨rfl, _, rfl, fun c c1 c2 => by rw [up_cell c1, hF c c1 c2, hF0 c c1 c2], fun y hy1 hy2 => ?_⟩
        by_cases e : y = x
        · subst e
          rw [am_up_eq, am_up_ne (by omega), hnx, q1, q2]
          exact ⟨rfl, rfl⟩
        · rw [am_up_ne (by omega), am_up_ne (by omega), (hK y e).1, (hK y e).2, (hK0 y e).1, (hK0 y e).2]
          exact hS y (by omega) hy2
    · unfold ov
      rw [b2i_eq0.mp h1, b2i_eq0.mp h2]
      rfl
theorem lp_mp1 {w l : Nat} {x : Int32} {q : am_Q} (hn : I 237 0 = nI n) (h8 : n < 8) (hw : w < 2 ^ n) (hl : l < 2 ^ n) (hq : am_run am_sh m_MD_probe q 111 [some (.ref 236), some (.int (nI w)), some (.int (nI l)), some (.int x), some (.int (nI (fo (frm w l) 0 n))), some (.int (nI n))] [] (I, J, am_Rf f g)) : ∀ m e s, m + e = n → s = nI (fo (frm w l) 0 e) → am_u am_sh m_MD_probe q (am_at am_c_MD_probe 52) 52 [some (.ref 236), some (.int (nI w)), some (.int (nI l)), some (.int x), some (.int s), some (.int (nI e))] [] (I, J, am_Rf f g) := by
  have h7 := pow_le7 h8
  intro m
  induction m with
  | zero =>
    intro e s he hs
    obtain rfl : e = n := by omega
    subst hs
    exact ⟨237, rfl, rfl, 116, 0, rfl, by omega, rfl, br_t (by rw [hn]; exact nI_le (by omega) (by omega)) hq⟩
  | succ m ih =>
    intro e s he hs
    have go : ∀ v, s + v = nI (fo (frm w l) 0 (e + 1)) → am_u am_sh m_MD_probe q (am_at am_c_MD_probe 102) 102 [some (.ref 236), some (.int (nI w)), some (.int (nI l)), some (.int x), some (.int s), some (.int (nI e))] [.int v, .int s] (I, J, am_Rf f g) := by
      intro v hv
      refine j_MD_probe ?_
      show am_u _ _ _ _ _ [_, _, _, _, some (.int (s + v)), some (.int (nI e + 1))] _ _
      rw [nI_1, hv]
      exact ih (e + 1) _ (by omega) rfl
    have e0 : fo (frm w l) 0 (e + 1) = frm w l e (fo (frm w l) 0 e) := rfl
    refine ⟨237, rfl, rfl, 116, 0, rfl, by omega, rfl, br_f (by rw [hn]; exact nI_ge (by omega) (by omega)) ((ev_htb (by omega) (by omega) _).rt ⟨fun h1 => j_MD_probe ((ev_htb (by omega) (by omega) _).rt ⟨fun h2 => j_MD_probe (go _ ?_), fun h2 => (ev_mpow (by omega) _).rt (j_MD_probe (go _ ?_))⟩), fun h1 => (ev_mpow (by omega) _).rt (j_MD_probe (go _ ?_))⟩)⟩
    · rw [e0, hs, frm_0 (b2i_eq0.mp h1) (b2i_eq0.mp h2)]
      exact nI_add _ 0
    · rw [e0, hs, frm_l (b2i_eq0.mp h1) (b2i_ne0.mp h2)]
      show _ + nI 2 * nI (3 ^ e) = _
      rw [nI_mul, nI_add]
    · rw [e0, hs, frm_w (b2i_ne0.mp h1), nI_add]
theorem lp_mp2 {w l x : Int32} {F : Nat} {q : am_Q} (hG : Gm I M gs) (hn : I 237 0 = nI n) (h8 : n < 8) (hF3 : F < 3 ^ n) (hq : ∀ I' v, (∀ c, c ≠ 243 → c ≠ 244 → I' c = I c) → Sx I' (hlm gs M) n F → am_run am_sh m_MD_probe q 143 [some (.ref 236), some (.int w), some (.int l), some (.int x), some (.int (nI F)), v] [] (I', J, am_Rf f g)) : ∀ m k (I' : Nat → Nat → Int32), m + F = k → k ≤ 3 ^ n → (∀ c, c ≠ 243 → c ≠ 244 → I' c = I c) → Sx I' (hlm gs M) n k → am_u am_sh m_MD_probe q (am_at am_c_MD_probe 124) 124 [some (.ref 236), some (.int w), some (.int l), some (.int x), some (.int (nI F)), some (.int (nI k - 1))] [] (I', J, am_Rf f g) := by
  have h3 := pow3 n h8
  intro m
  induction m with
  | zero =>
    intro k I' hk hk3 hF hS
    obtain rfl : F = k := by omega
    refine br_t ?_ (hq I' _ hF hS)
    cases F with
    | zero => decide
    | succ F => rw [nI_pred]; exact nI_lt (by omega) (by omega)
  | succ m ih =>
    intro k I' hk hk3 hF hS
    obtain ⟨k, rfl⟩ : ∃ k', k = k' + 1 := ⟨k - 1, by omega⟩
    rw [nI_pred]
    have hG' : Gm I' M gs := by unfold Gm; rw [hF 237 (by omega) (by omega)]; exact hG
    have hn' : I' 237 0 = nI n := by rw [hF 237 (by omega) (by omega), hn]
    refine br_f (nI_nlt (by omega) (by omega)) ⟨rfl, (ev_probesOf hG' hn' h8 (by omega) hS).mono ?_⟩
    rintro r σ' ⟨rfl, I2, rfl, hF2, hS2⟩
    refine j_MD_probe ?_
    show am_u _ _ _ _ _ [_, _, _, _, _, some (.int (nI k + (-1)))] _ _
    rw [← Int32.sub_eq_add_neg]
    exact ih k I2 (by omega) (by omega) (fun c c1 c2 => by rw [hF2 c c1 c2, hF c c1 c2]) hS2
theorem T_probe (x y z : Int32) {σ : am_S} (h : Inv σ) : Both m_MG_probe m_MD_probe [.int x, .int y, .int z] σ := by
  obtain ⟨I, J, f, g, rfl, ⟨n, M, K, gs, hR⟩, hrest⟩ := h
  have inv0 : Inv (I, J, am_Rf f g) := ⟨I, J, f, g, rfl, ⟨n, M, K, gs, hR⟩, hrest⟩
  obtain ⟨⟨n1, n2, n3, n4⟩, ⟨m1, m2, m3⟩, hgs, _⟩ := id hR
  have h8 : n < 8 := by omega
  have h7 := pow_le7 h8
  have h3 := pow3 n h8
  have bad : ¬ ((0 ≤ x ∧ x ≤ nI (2 ^ n - 1)) ∧ (0 ≤ y ∧ y ≤ nI (2 ^ n - 1)) ∧ x &&& y = 0 ∧ (0 ≤ z ∧ z ≤ 1)) → am_ev am_sh m_MD_probe [.ref 236, .int x, .int y, .int z] (I, J, am_Rf f g) (fun r2 σ2 => r2 = some (.int (-1)) ∧ Inv σ2) := by
    intro hb
    refine s_MD_probe ⟨rfl, (ev_mall n2 h8).rt ((ev_in32 x 0 _ _).rt ⟨fun q => j_MD_probe ⟨rfl, inv0⟩, fun q1 => ⟨rfl, (ev_mall n2 h8).rt ((ev_in32 y 0 _ _).rt ⟨fun q => j_MD_probe ⟨rfl, inv0⟩, fun q2 => ⟨fun q => j_MD_probe ⟨rfl, inv0⟩, fun q3 => (ev_in32 z 0 1 _).rt ⟨fun q4 => ?_, fun _ => ⟨rfl, inv0⟩⟩⟩⟩)⟩⟩)⟩
    exact absurd ⟨of_decide_eq_true (b2i_ne0.mp q1), of_decide_eq_true (b2i_ne0.mp q2), q3, of_decide_eq_true (b2i_ne0.mp q4)⟩ hb
  refine s_MG_probe ⟨1, rfl, rfl, rfl, (ev_isPart st1 n1 h8 x).rt ⟨fun h1 => j_MG_probe ⟨-1, rfl, bad (fun q => of_decide_eq_false (b2i_eq0.mp h1) q.1)⟩, fun h1 => ⟨1, rfl, rfl, rfl, (ev_isPart st1 n1 h8 y).rt ⟨fun h2 => j_MG_probe ⟨-1, rfl, bad (fun q => of_decide_eq_false (b2i_eq0.mp h2) q.2.1)⟩, fun h2 => ⟨fun h3 => j_MG_probe ⟨-1, rfl, bad (fun q => h3 q.2.2.1)⟩, fun h3 => ⟨fun h4 => j_MG_probe ⟨-1, rfl, bad (fun q => absurd h4 (Int32.not_lt.mpr q.2.2.2.1))⟩, fun h4 => ⟨fun h5 => j_MG_probe ?_, fun h5 => ⟨-1, rfl, bad (fun q => h5 q.2.2.2.2)⟩⟩⟩⟩⟩⟩⟩⟩
  have hx1 := of_decide_eq_true (b2i_ne0.mp h1)
  have hy1 := of_decide_eq_true (b2i_ne0.mp h2)
  obtain ⟨w, hw, rfl⟩ := nI_of (Int32.not_lt.mpr hx1.1)
  obtain ⟨l, hl, rfl⟩ := nI_of (Int32.not_lt.mpr hy1.1)
  have hw' : w < 2 ^ n := by have := (nI_leI hw (by omega)).mp hx1.2; omega
  have hl' : l < 2 ^ n := by have := (nI_leI hl (by omega)).mp hy1.2; omega
  have hx0 : w &&& l = 0 := by
    have h3 : nI w &&& nI l = nI 0 := h3
    rw [nI_and] at h3
    have : w &&& l ≤ w := Nat.and_le_left
    exact (nI_eq (by omega) (by omega)).mp h3
  have hB : By3 I := hrest.2.2.2.2.2.2
  refine ⟨208, rfl, rfl, 1, rfl, rfl, rfl, (ev_play (hs := hlm gs M) (fun s hs => hol_hlm (by omega) hR.gs) hB m1 m3 n1 h8 hw' hl' hx0).mono ?_⟩
  rintro r σ' ⟨rfl, I1, rfl, w1, w2, hL, hF, hK⟩
  have hB1 : By3 I1 := fun s hs => by rw [hF 211 (by omega) (by omega) (by omega) (by omega)]; exact hB s hs
  have i237 := hF 237 (by omega) (by omega) (by omega) (by omega)
  have hG : Gm I1 M gs := by unfold Gm; rw [i237]; exact hR.gm
  have hn : I1 237 0 = nI n := by rw [i237]; exact n2
  have hz : 0 ≤ z ∧ z ≤ 1 := ⟨Int32.not_lt.mp h4, h5⟩
  have hF3 := pl_ltn n h8 w hw' l hl' (beq0 hx0)
  have ht := thn_tab n h8 w hw' l hl' (beq0 hx0)
  have second : am_ev am_sh m_MD_probe [.ref 236, .int (nI w), .int (nI l), .int z] (I1, J, am_Rf f g) (fun r2 σ2 => r2 = some (.int (if z = 0 then nI (pV (hlm gs M) n w l) else bst (hlm gs M) n w l)) ∧ Inv σ2) := by
    refine s_MD_probe ⟨rfl, (ev_mall hn h8).rt ((ev_in32 _ 0 _ _).rt ⟨fun q => absurd q h1, fun _ => ⟨rfl, (ev_mall hn h8).rt ((ev_in32 _ 0 _ _).rt ⟨fun q => absurd q h2, fun _ => ⟨fun q => absurd h3 q, fun _ => (ev_in32 z 0 1 _).rt ⟨fun _ => j_MD_probe (j_MD_probe (lp_mp1 hn h8 hw' hl' ?_ n 0 _ rfl rfl)), fun q => absurd q (b2i_ne0.mpr (decide_eq_true hz))⟩⟩⟩)⟩⟩)⟩
    rw [frm_tab n h8 w hw' l hl' (beq0 hx0)]
    refine j_MD_probe ⟨237, rfl, rfl, 116, 0, rfl, by omega, rfl, ?_⟩
    show am_ev am_sh m_MD_power [.int (I1 237 0)] _ _
    rw [hn]
    refine (ev_mpow (by omega) _).rt (j_MD_probe (lp_mp2 hG hn h8 hF3 ?_ (3 ^ n - pl w l) (3 ^ n) I1 (by omega) (Nat.le_refl _) (fun _ _ _ => rfl) (fun y y1 y2 => by omega)))
    intro I2 v hF2 hS2
    obtain ⟨s1, s2⟩ := hS2 (pl w l) (Nat.le_refl _) hF3
    rw [ht.1, ht.2] at s1 s2
    have inv2 : Inv (I2, J, am_Rf f g) := by
      have sm : Sm I2 I := ⟨fun c c1 c2 => ?_, ?_, ?_, ?_⟩
      · exact ⟨I2, J, f, g, rfl, Inv.sm ⟨n, M, K, gs, hR⟩ hrest sm⟩
      · rw [hF2 c (by unfold Scr at c1; omega) (by unfold Scr at c1; omega)]
        exact hF c (by unfold Scr at c1; omega) (by unfold Scr at c1; omega) (by unfold Scr at c1; omega) (by unfold Scr at c1; omega)
      · rw [hF2 236 (by omega) (by omega), hF 236 (by omega) (by omega) (by omega) (by omega)]
      · rw [hF2 236 (by omega) (by omega), hF 236 (by omega) (by omega) (by omega) (by omega)]
      · rw [hF2 236 (by omega) (by omega), hF 236 (by omega) (by omega) (by omega) (by omega)]
    refine j_MD_probe ⟨fun q => j_MD_probe ⟨244, rfl, rfl, 2187, pl w l, rfl, by omega, rfl, ?_, inv2⟩, fun q => ⟨243, rfl, rfl, 2187, pl w l, rfl, by omega, rfl, j_MD_probe ⟨?_, inv2⟩⟩⟩
    · rw [s2, if_neg q]
    · rw [s1, if_pos q]
  refine ⟨fun q => j_MG_probe ⟨208, rfl, rfl, rfl, (ev_best hB1 hL h8 hw' hl' hx0 w1 w2 hK).rt ⟨_, rfl, ?_⟩⟩, fun q => ⟨208, rfl, rfl, rfl, (ev_worst hB1 h8 hw' hl' hx0 w1 w2 hK).rt (j_MG_probe ⟨_, rfl, ?_⟩)⟩⟩
  · rw [if_neg q] at second
    exact second
  · rw [if_pos q] at second
    exact second
end MPROBE
