/-! the reference: members one by one, the square, its rows -/
section MS
variable {f g : Nat → Nat} {I : Nat → Nat → Int32} {J : Nat → Nat → Int64} {M : Nat} {gs : Nat → Nat}
theorem lp_nth {s k : Nat} (hs : s < 4096) (hk : k < cn (tb s) 12) (h31 : k < 2 ^ 31) {σ : am_S} : ∀ d u, d + u = 12 → cn (tb s) u ≤ k → am_u am_sh m_MD_nth (fun r σ' => σ' = σ ∧ ∃ u, r = some (.int (nI u)) ∧ u < 12 ∧ tb s u = true ∧ cn (tb s) u = k) (am_at am_c_MD_nth 4) 4 [some (.int (nI s)), some (.int (nI k)), some (.int (nI (k - cn (tb s) u))), some (.int (nI u))] [] σ := by
  obtain ⟨I, J, R⟩ := σ
  intro d
  induction d with
  | zero =>
    intro u hu hc
    exfalso
    rw [show u = 12 by omega] at hc
    omega
  | succ d ih =>
    intro u hu hc
    have hh := ev_htb (s := s) (e := u) (by omega) (by omega) (I, J, R)
    refine br_f (nI_ge (b := 12) (by omega) (by omega)) (hh.rt ?_)
    cases hp : tb s u with
    | true =>
      rw [hp] at hh
      refine br_f (by decide) ?_
      by_cases e : cn (tb s) u = k
      · refine br_t ?_ (j_MD_nth ⟨rfl, u, rfl, by omega, hp, e⟩)
        rw [e, Nat.sub_self]
        decide
      · refine br_f (nI_ge (a := 0) (by omega) (by omega)) (hh.rt (br_f (by decide) (j_MD_nth (j_MD_nth ?_))))
        rw [nI_1, show nI (k - cn (tb s) u) - 1 = nI (k - cn (tb s) (u + 1)) from by
          rw [cn_yes hp]
          exact nI_sub (b := 1) (by omega)]
        exact ih (u + 1) (by omega) (by rw [cn_yes hp]; omega)
    | false =>
      rw [hp] at hh
      refine br_t rfl (j_MD_nth (hh.rt (br_t rfl (j_MD_nth (j_MD_nth ?_)))))
      rw [nI_1, Int32.sub_zero, ← cn_no hp]
      exact ih (u + 1) (by omega) (by rw [cn_no hp]; exact hc)
theorem ev_nth {s k : Nat} (hs : s < 4096) (hk : k < cn (tb s) 12) (σ : am_S) : am_ev am_sh m_MD_nth [.int (nI s), .int (nI k)] σ (fun r σ' => σ' = σ ∧ ∃ u, r = some (.int (nI u)) ∧ u < 12 ∧ tb s u = true ∧ cn (tb s) u = k) := by
  have h12 := cn_le (tb s) 12
  exact s_MD_nth (j_MD_nth (lp_nth hs hk (by omega) 12 0 (by omega) (Nat.zero_le _)))
theorem ev_mat2 {x : Int32} {k : Nat} (hx : x = nI k) (hk : k < 12) : am_ev am_sh m_MD_at [.ref 236, .int x] (I, J, am_Rf f g) (Rt (.int (I 237 (4 + k))) (I, J, am_Rf f g)) := by
  rw [hx]
  exact ev_mat hk
theorem ev_htb2 {x y : Int32} {s e : Nat} (hx : x = nI s) (hy : y = nI e) (hs : s < 2 ^ 31) (he : e < 31) (σ : am_S) : am_ev am_sh m_MD_has [.int x, .int y] σ (Rt (.int (b2i (tb s e))) σ) := by
  rw [hx, hy]
  exact ev_htb hs he σ
theorem ix8 (r c : Nat) : (8 : Int32) * nI r + nI c = nI (8 * r + c) := by
  rw [show (8 : Int32) = nI 8 from rfl, nI_mul, nI_add]
theorem ix87 (r : Nat) : (8 : Int32) * nI r + 7 = nI (8 * r + 7) := ix8 r 7
/-- the square's columns: the last one is all 1 -/
def sqc (gs : Nat → Nat) (z : Nat) (mi me : Nat → Nat) (t : Bool) (c r : Nat) : Int := if c = 7 then 1 else if c < z then (if t = true then zb (gs (mi c)) (me r) else zb (gs (mi r)) (me c)) else 0
/-- where the members stand -/
def Mem (I : Nat → Nat → Int32) (M z : Nat) (mi me : Nat → Nat) : Prop := z ≤ 7 ∧ ∀ k, k < z → I 239 k = nI (mi k) ∧ mi k < M ∧ I 240 k = nI (me k) ∧ me k < 7
theorem zI_b2i (b : Bool) : zI (if b = true then 1 else 0) = b2i b := by cases b <;> rfl
theorem sq_tail {z r c : Nat} {mi me : Nat → Nat} {t : Bool} {q : am_Q} (hG : Gm I M gs) (hm : Mem I M z mi me) (hr : r < z) (hc : c < 7) (I' : Nat → Nat → Int32) (hI : ∀ b, b ≠ 238 → I' b = I b) (K : ∀ w5 w6, am_u am_sh m_MD_squares q (am_at am_c_MD_squares 10) 10 [some (.ref 236), some (.int (nI z)), some (.int (b2i t)), some (.int (nI r)), some (.int (nI (c + 1))), w5, w6] [] (am_up I' 238 (8 * r + c) (zI (sqc gs z mi me t c r)), J, am_Rf f g)) : am_u am_sh m_MD_squares q (am_at am_c_MD_squares 51) 51 [some (.ref 236), some (.int (nI z)), some (.int (b2i t)), some (.int (nI r)), some (.int (nI c)), some (.int (I' 239 (if t = true then c else r))), some (.int (I' 240 (if t = true then r else c)))] [] (I', J, am_Rf f g) := by
  have hz := hm.1
  refine ⟨238, rfl, rfl, fun h1 => j_MD_squares ⟨56, 8 * r + c, rfl, by omega, ix8 r c, j_MD_squares ?_⟩, fun h1 => ?_⟩
  · have h1 : nI z ≤ nI c := h1
    rw [nI_leI (by omega) (by omega)] at h1
    have K := K (some (.int (I' 239 (if t = true then c else r)))) (some (.int (I' 240 (if t = true then r else c))))
    rw [show sqc gs z mi me t c r = 0 from by unfold sqc; rw [if_neg (by omega), if_neg (by omega)]] at K
    rw [nI_1]
    exact K
  · have h1 : ¬ nI z ≤ nI c := h1
    rw [nI_leI (by omega) (by omega)] at h1
    have ma : (if t = true then c else r) < z := by split <;> omega
    have me' : (if t = true then r else c) < z := by split <;> omega
    obtain ⟨a1, a2, _, _⟩ := hm.2 _ ma
    obtain ⟨_, _, a3, a4⟩ := hm.2 _ me'
    have K := K (some (.int (I' 239 (if t = true then c else r)))) (some (.int (I' 240 (if t = true then r else c))))
    have ev : zI (sqc gs z mi me t c r) = b2i (tb (gs (mi (if t = true then c else r))) (me (if t = true then r else c))) := by
      unfold sqc
      rw [if_neg (by omega), if_pos (by omega)]
      cases t with
      | true => rw [if_pos rfl, if_pos rfl, if_pos rfl, zb_tb, zI_b2i]
      | false => rw [if_neg (by decide), if_neg (by decide), if_neg (by decide), zb_tb, zI_b2i]
    rw [ev] at K
    have gg := hG.2.2 _ a2
    have h12 := hG.2.1
    refine ⟨rfl, (ev_mat2 (by rw [hI 239 (by omega)]; exact a1) (by omega)).rt ((ev_htb2 (s := gs (mi (if t = true then c else r))) (e := me (if t = true then r else c)) (by rw [hI 237 (by omega)]; exact gg.1) (by rw [hI 240 (by omega)]; exact a3) (by omega) (by omega) _).rt ?_)⟩
    cases hb : tb (gs (mi (if t = true then c else r))) (me (if t = true then r else c)) with
    | false =>
      rw [hb] at K
      refine br_t rfl (j_MD_squares ⟨56, 8 * r + c, rfl, by omega, ix8 r c, j_MD_squares ?_⟩)
      rw [nI_1]
      exact K
    | true =>
      rw [hb] at K
      refine br_f (by decide) (j_MD_squares ⟨56, 8 * r + c, rfl, by omega, ix8 r c, j_MD_squares ?_⟩)
      rw [nI_1]
      exact K
/-- the square so far: all rows ahead of r, and of row r the first c -/
def Sqs (I' I : Nat → Nat → Int32) (gs : Nat → Nat) (z : Nat) (mi me : Nat → Nat) (t : Bool) (r c : Nat) : Prop := (∀ r' c', (r' < r ∧ c' < 8) ∨ (r' = r ∧ c' < c) → I' 238 (8 * r' + c') = zI (sqc gs z mi me t c' r')) ∧ ∀ b, b ≠ 238 → I' b = I b
theorem lp_squares2 {z r : Nat} {mi me : Nat → Nat} {t : Bool} {q : am_Q} (hG : Gm I M gs) (hm : Mem I M z mi me) (hr : r < z) (K : ∀ w4 w5 w6 (I' : Nat → Nat → Int32), Sqs I' I gs z mi me t (r + 1) 0 → am_u am_sh m_MD_squares q (am_at am_c_MD_squares 2) 2 [some (.ref 236), some (.int (nI z)), some (.int (b2i t)), some (.int (nI (r + 1))), w4, w5, w6] [] (I', J, am_Rf f g)) : ∀ k c w5 w6 (I' : Nat → Nat → Int32), k + c = 7 → Sqs I' I gs z mi me t r c → am_u am_sh m_MD_squares q (am_at am_c_MD_squares 10) 10 [some (.ref 236), some (.int (nI z)), some (.int (b2i t)), some (.int (nI r)), some (.int (nI c)), w5, w6] [] (I', J, am_Rf f g) := by
  have hz := hm.1
  intro k
  induction k with
  | zero =>
    intro c w5 w6 I' hk hI
    obtain rfl : c = 7 := by omega
    refine br_t (by decide) (j_MD_squares ⟨238, rfl, rfl, 56, 8 * r + 7, rfl, by omega, ix87 r, j_MD_squares ?_⟩)
    rw [nI_1]
    refine K _ _ _ _ ⟨fun r' c' h => ?_, fun b hb => ?_⟩
    · by_cases e : r' = r ∧ c' = 7
      · obtain ⟨rfl, rfl⟩ := e
        rw [am_up_eq]
        unfold sqc
        rw [if_pos rfl]
        rfl
      · rw [am_up_ne (by omega)]
        exact hI.1 r' c' (by omega)
    · funext j
      rw [am_up_ne (by omega), hI.2 b hb]
  | succ k ih =>
    intro c w5 w6 I' hk hI
    have nxt : ∀ w5 w6, am_u am_sh m_MD_squares q (am_at am_c_MD_squares 10) 10 [some (.ref 236), some (.int (nI z)), some (.int (b2i t)), some (.int (nI r)), some (.int (nI (c + 1))), w5, w6] [] (am_up I' 238 (8 * r + c) (zI (sqc gs z mi me t c r)), J, am_Rf f g) := by
      intro w5 w6
      refine ih (c + 1) w5 w6 _ (by omega) ⟨fun r' c' h => ?_, fun b hb => ?_⟩
      · by_cases e : r' = r ∧ c' = c
        · obtain ⟨rfl, rfl⟩ := e
          rw [am_up_eq]
        · rw [am_up_ne (by omega)]
          exact hI.1 r' c' (by omega)
      · funext j
        rw [am_up_ne (by omega), hI.2 b hb]
    have tail := sq_tail (t := t) hG hm hr (show c < 7 by omega) I' hI.2 nxt
    refine br_f (nI_ge (b := 7) (by omega) (by omega)) ⟨239, rfl, rfl, ?_⟩
    cases t with
    | true => exact br_f (by decide) (j_MD_squares ⟨7, c, rfl, by omega, rfl, 240, rfl, rfl, br_f (by decide) (j_MD_squares ⟨7, r, rfl, by omega, rfl, tail⟩)⟩)
    | false => exact br_t rfl (j_MD_squares ⟨7, r, rfl, by omega, rfl, 240, rfl, rfl, br_t rfl (j_MD_squares ⟨7, c, rfl, by omega, rfl, tail⟩)⟩)
theorem lp_squares {z : Nat} {mi me : Nat → Nat} {t : Bool} (hG : Gm I M gs) (hm : Mem I M z mi me) : ∀ k r w4 w5 w6 (I' : Nat → Nat → Int32), k + r = z → Sqs I' I gs z mi me t r 0 → am_u am_sh m_MD_squares (fun x σ' => x = none ∧ ∃ I', σ' = (I', J, am_Rf f g) ∧ Sqs I' I gs z mi me t z 0) (am_at am_c_MD_squares 2) 2 [some (.ref 236), some (.int (nI z)), some (.int (b2i t)), some (.int (nI r)), w4, w5, w6] [] (I', J, am_Rf f g) := by
  have hz := hm.1
  intro k
  induction k with
  | zero =>
    intro r w4 w5 w6 I' hk hI
    obtain rfl : r = z := by omega
    exact br_t (nI_le (Nat.le_refl _) (by omega)) (j_MD_squares ⟨rfl, I', rfl, hI⟩)
  | succ k ih =>
    intro r w4 w5 w6 I' hk hI
    exact br_f (nI_ge (by omega) (by omega)) (j_MD_squares (lp_squares2 hG hm (show r < z by omega) (fun w4 w5 w6 I' hI => ih (r + 1) w4 w5 w6 I' (by omega) hI) 7 0 w5 w6 I' (by omega) hI))
theorem ev_squares {z : Nat} {mi me : Nat → Nat} (t : Bool) (hG : Gm I M gs) (hm : Mem I M z mi me) : am_ev am_sh m_MD_squares [.ref 236, .int (nI z), .int (b2i t)] (I, J, am_Rf f g) (fun x σ' => x = none ∧ ∃ I', σ' = (I', J, am_Rf f g) ∧ Sqs I' I gs z mi me t z 0) := s_MD_squares (j_MD_squares (lp_squares hG hm z 0 none none none I (by omega) ⟨fun r' c' h => by omega, fun b _ => rfl⟩))
/-- rows r and q have changed places, as far as column c -/
def Swp (I' I : Nat → Nat → Int32) (r q c : Nat) : Prop := (∀ x c', c' < 8 → c' < c → I' 238 (8 * x + c') = if r = q then I 238 (8 * x + c') else if x = r then I 238 (8 * q + c') else if x = q then - I 238 (8 * r + c') else I 238 (8 * x + c')) ∧ (∀ x c', c' < 8 → c ≤ c' → I' 238 (8 * x + c') = I 238 (8 * x + c')) ∧ ∀ b, b ≠ 238 → I' b = I b
theorem lp_swaps {r q : Nat} (hr : r < 7) (hq : q < 7) : ∀ k c w (I' : Nat → Nat → Int32), k + c = 8 → Swp I' I r q c → am_u am_sh m_MD_swaps (fun x σ' => x = none ∧ ∃ I', σ' = (I', J, am_Rf f g) ∧ Swp I' I r q 8) (am_at am_c_MD_swaps 2) 2 [some (.ref 236), some (.int (nI r)), some (.int (nI q)), some (.int (nI c)), w] [] (I', J, am_Rf f g) := by
  intro k
  induction k with
  | zero =>
    intro c w I' hk hI
    obtain rfl : c = 8 := by omega
    exact br_t (by decide) (j_MD_swaps ⟨rfl, I', rfl, hI⟩)
  | succ k ih =>
    intro c w I' hk hI
    obtain ⟨i1, i2, i3⟩ := hI
    have a1 := i2 r c (by omega) (Nat.le_refl _)
    have a2 := i2 q c (by omega) (Nat.le_refl _)
    refine br_f (nI_ge (b := 8) (by omega) (by omega)) ⟨238, rfl, rfl, 56, 8 * r + c, rfl, by omega, ix8 r c, 238, rfl, rfl, 238, rfl, rfl, 56, 8 * q + c, rfl, by omega, ix8 q c, 56, 8 * r + c, rfl, by omega, ix8 r c, 238, rfl, rfl, fun h1 => j_MD_swaps ⟨56, 8 * q + c, rfl, by omega, ix8 q c, j_MD_swaps ?_⟩, fun h1 => j_MD_swaps ⟨56, 8 * q + c, rfl, by omega, ix8 q c, j_MD_swaps ?_⟩⟩
    · have h1 : ¬ r = q := fun e => h1 (by rw [e])
      rw [nI_1]
      refine ih (c + 1) _ _ (by omega) ⟨fun x c' h8 hc => ?_, fun x c' h8 hc => ?_, fun b hb => ?_⟩
      · rw [if_neg h1]
        by_cases e : c' = c
        · subst e
          by_cases e1 : x = q
          · subst e1
            rw [if_neg (fun w => h1 w.symm), if_pos rfl, am_up_eq, a1]
          · rw [am_up_ne (by omega), if_neg e1]
            by_cases e2 : x = r
            · subst e2
              rw [if_pos rfl, am_up_eq, a2]
            · rw [if_neg e2, am_up_ne (by omega)]
              exact i2 x c' h8 (Nat.le_refl _)
        · rw [am_up_ne (by omega), am_up_ne (by omega)]
          have := i1 x c' h8 (by omega)
          rw [if_neg h1] at this
          exact this
      · rw [am_up_ne (by omega), am_up_ne (by omega)]
        exact i2 x c' h8 (by omega)
      · funext j
        rw [am_up_ne (by omega), am_up_ne (by omega), i3 b hb]
    · have h1 : r = q := by
        have h1 : nI r = nI q := h1
        rwa [nI_eq (by omega) (by omega)] at h1
      subst h1
      rw [nI_1]
      refine ih (c + 1) _ _ (by omega) ⟨fun x c' h8 hc => ?_, fun x c' h8 hc => ?_, fun b hb => ?_⟩
      · rw [if_pos rfl]
        by_cases e : c' = c
        · subst e
          by_cases e1 : x = r
          · subst e1
            rw [am_up_eq, a1]
          · rw [am_up_ne (by omega), am_up_ne (by omega)]
            exact i2 x c' h8 (Nat.le_refl _)
        · rw [am_up_ne (by omega), am_up_ne (by omega)]
          have := i1 x c' h8 (by omega)
          rw [if_pos rfl] at this
          exact this
      · rw [am_up_ne (by omega), am_up_ne (by omega)]
        exact i2 x c' h8 (by omega)
      · funext j
        rw [am_up_ne (by omega), am_up_ne (by omega), i3 b hb]
theorem ev_swaps {r q : Nat} (hr : r < 7) (hq : q < 7) : am_ev am_sh m_MD_swaps [.ref 236, .int (nI r), .int (nI q)] (I, J, am_Rf f g) (fun x σ' => x = none ∧ ∃ I', σ' = (I', J, am_Rf f g) ∧ Swp I' I r q 8) := s_MD_swaps (j_MD_swaps (lp_swaps hr hq 8 0 none I (by omega) ⟨fun x c' a b => by omega, fun x c' a b => rfl, fun b _ => rfl⟩))
end MS
