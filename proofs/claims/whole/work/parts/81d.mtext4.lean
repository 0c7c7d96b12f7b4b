/-! the reference: walls -/
def wlR2 (w : Nat → Nat) (R r : Nat) (a : List Nat × Bool) (k : Nat) : List Nat × Bool := fo (fun way a => gtt a (wset w R (su3 w R) r way)) a k
def wlR (w : Nat → Nat) (R k : Nat) : List Nat × Bool := fo (fun r a => wlR2 w R r a (wayN w R r)) ([], false) k
def wRb (w : Nat → Nat) (R : Nat) : Bool := if totN w R ≤ 12 then decide (wlR w R R = (walL w R, false)) else (wlR w R R).2
theorem wR_1 : ∀ a, a < 5 → 1 ≤ a → wRb (w3 a 0 0) 1 = true := by decide +kernel
theorem wR_2 : ∀ a, a < 5 → ∀ b, b < 5 → (1 ≤ a ∧ 1 ≤ b ∧ a + b ≤ 7) → wRb (w3 a b 0) 2 = true := by decide +kernel
theorem wR_3 : ∀ a, a < 5 → ∀ b, b < 5 → ∀ c, c < 5 → (1 ≤ a ∧ 1 ≤ b ∧ 1 ≤ c ∧ a + b + c ≤ 7) → wRb (w3 a b c) 3 = true := by decide +kernel
theorem Wl.more {ws : List Nat} (h : Wl ws) (h1 : 1 ≤ ws.length) : wRb (lw ws) ws.length = true ∧ (!decide (totN (lw ws) ws.length ≤ 12) || lok (su3 (lw ws) ws.length) (walL (lw ws) ws.length)) = true := by
  obtain ⟨h3, ha, hs⟩ := h
  match ws, h1, h3, ha, hs with
  | [a], _, _, ha, hs =>
    have a1 := ha a (by simp)
    exact ⟨wR_1 a (by omega) a1.1, wL_1 a (by omega) a1.1⟩
  | [a, b], _, _, ha, hs =>
    have a1 := ha a (by simp)
    have b1 := ha b (by simp)
    simp at hs
    exact ⟨wR_2 a (by omega) b (by omega) ⟨a1.1, b1.1, by omega⟩, wL_2 a (by omega) b (by omega) ⟨a1.1, b1.1, by omega⟩⟩
  | [a, b, c], _, _, ha, hs =>
    have a1 := ha a (by simp)
    have b1 := ha b (by simp)
    have c1 := ha c (by simp)
    simp at hs
    exact ⟨wR_3 a (by omega) b (by omega) c (by omega) ⟨a1.1, b1.1, c1.1, by omega⟩, wL_3 a (by omega) b (by omega) c (by omega) ⟨a1.1, b1.1, c1.1, by omega⟩⟩
/-- a wall's rows stand -/
def Wam (I : Nat → Nat → Int32) (w : Nat → Nat) (R : Nat) : Prop := wOk w R = true ∧ (1 ≤ R ∧ R ≤ 3) ∧ I 236 13 = nI (su3 w R) ∧ ∀ k, k < R → I 247 k = nI (w k) ∧ 1 ≤ w k ∧ w k ≤ 4
section MX
variable {f g : Nat → Nat} {I : Nat → Nat → Int32} {J : Nat → Nat → Int64} {u : Nat → Nat} {n : Nat} {w : Nat → Nat} {R : Nat}
theorem Wam.st {I' : Nat → Nat → Int32} (h : Wam I w R) (hs : Gst I' I) : Wam I' w R := by
  unfold Wam
  rw [hs.2 13 (by omega) (by omega), hs.1 247 (by omega) (by omega)]
  exact h
theorem su3_s (r : Nat) : su3 w (r + 1) = su3 w r + w r := rfl
theorem lp_walls1 (h : Wam I w R) {q : am_Q} {r : Nat} (hr : r < R) {w6 w7 w8 w9 : Option Value} (K : ∀ w5, am_run am_sh m_MD_walls q 62 [some (.ref 236), some (.int (nI r)), some (.int (nI R)), some (.int (nI (wayN w R r))), some (.int (nI (su3 w r))), w5, w6, w7, w8, w9] [] (I, J, am_Rf f g)) : ∀ m k, m + k = R → am_u am_sh m_MD_walls q (am_at am_c_MD_walls 8) 8 [some (.ref 236), some (.int (nI r)), some (.int (nI R)), some (.int (nI (pr3 w r (k - (r + 1))))), some (.int (nI (su3 w (min k r)))), some (.int (nI k)), w6, w7, w8, w9] [] (I, J, am_Rf f g) := by
  obtain ⟨hok, ⟨h1, h3⟩, h0, hw⟩ := h
  intro m
  induction m with
  | zero =>
    intro k hk
    obtain rfl : k = R := by omega
    rw [show min k r = r by omega, show k - (r + 1) = k - 1 - r by omega]
    exact br_t (nI_le (Nat.le_refl _) (by omega)) (K _)
  | succ m ih =>
    intro k hk
    have nx1 := ih (k + 1) (by omega)
    have wk := (hw k (by omega)).1
    refine br_f (nI_ge (by omega) (by omega)) ⟨fun e1 => j_MD_walls ?_, fun e1 => ⟨247, rfl, rfl, 3, k, rfl, by omega, rfl, j_MD_walls ?_⟩⟩
    · have e1 : nI r ≤ nI k := e1
      rw [nI_leI (by omega) (by omega)] at e1
      refine ⟨fun e2 => j_MD_walls (j_MD_walls ?_), fun e2 => ⟨247, rfl, rfl, 3, k, rfl, by omega, rfl, j_MD_walls (j_MD_walls ?_)⟩⟩
      · have e2 : nI k ≤ nI r := e2
        rw [nI_leI (by omega) (by omega)] at e2
        rw [show min (k + 1) r = min k r by omega, show k + 1 - (r + 1) = k - (r + 1) by omega] at nx1
        rw [Int32.add_zero, nI_1, Int32.mul_one]
        exact nx1
      · have e2 : ¬ nI k ≤ nI r := e2
        rw [nI_leI (by omega) (by omega)] at e2
        rw [show min (k + 1) r = min k r by omega, show k + 1 - (r + 1) = k - (r + 1) + 1 by omega] at nx1
        rw [Int32.add_zero, nI_1, wk, nI_mul]
        have : pr3 w r (k - (r + 1) + 1) = pr3 w r (k - (r + 1)) * w k := by
          show pr3 w r (k - (r + 1)) * w (r + 1 + (k - (r + 1))) = _
          rw [show r + 1 + (k - (r + 1)) = k by omega]
        rw [this] at nx1
        exact nx1
    · have e1 : ¬ nI r ≤ nI k := e1
      rw [nI_leI (by omega) (by omega)] at e1
      refine br_t (nI_le (by omega) (by omega)) (j_MD_walls (j_MD_walls ?_))
      rw [show min (k + 1) r = k + 1 by omega, show k + 1 - (r + 1) = k - (r + 1) by omega, su3_s] at nx1
      rw [show min k r = k by omega, wk, nI_add, nI_1, Int32.mul_one]
      exact nx1
theorem lp_walls3 (h : Wam I w R) {q : am_Q} {r way : Nat} (hr : r < R) (hway : way < wayN w R r) {x3 x4 : Int32} (K : ∀ w7 w8 w9, am_run am_sh m_MD_walls q 157 [some (.ref 236), some (.int (nI r)), some (.int (nI R)), some (.int x3), some (.int x4), some (.int (nI way)), some (.int (nI (wset w R (su3 w R) r way))), w7, w8, w9] [] (I, J, am_Rf f g)) : ∀ m j, m + j = R - 1 - r → am_u am_sh m_MD_walls q (am_at am_c_MD_walls 101) 101 [some (.ref 236), some (.int (nI r)), some (.int (nI R)), some (.int x3), some (.int x4), some (.int (nI way)), some (.int (nI ((2 ^ w r - 1) * 2 ^ su3 w r ||| (ch3 w R (su3 w R) way j).1))), some (.int (nI (ch3 w R (su3 w R) way j).2.1)), some (.int (nI (ch3 w R (su3 w R) way j).2.2)), some (.int (nI (R - 1 - j)))] [] (I, J, am_Rf f g) := by
  obtain ⟨hok, ⟨h1, h3⟩, h0, hw⟩ := h
  obtain ⟨o1, o2⟩ := wOk_get hok
  obtain ⟨⟨_, o3, _⟩, o4⟩ := o2 r hr
  obtain ⟨_, o5⟩ := o4 way hway
  intro m
  induction m with
  | zero =>
    intro j hj
    obtain rfl : j = R - 1 - r := by omega
    exact br_t (nI_le (by omega) (by omega)) (K _ _ _)
  | succ m ih =>
    intro j hj
    obtain ⟨a1, a2, a3, a4⟩ := o5 j (by omega)
    obtain ⟨b1, b2, b3⟩ := hw (R - 1 - j) (by omega)
    have ml := Nat.mod_lt (ch3 w R (su3 w R) way j).2.1 (show 0 < w (R - 1 - j) by omega)
    have w0 : ¬ I 247 (R - 1 - j) = 0 := by rw [b1]; exact nI_ne0 (by omega) (by omega)
    have nx1 := ih (j + 1) (by omega)
    refine br_f (nI_ge (by omega) (by omega)) ⟨247, rfl, rfl, 3, R - 1 - j, rfl, by omega, rfl, 247, rfl, rfl, 3, R - 1 - j, rfl, by omega, rfl, w0, 247, rfl, rfl, 3, R - 1 - j, rfl, by omega, rfl, w0, j_MD_walls ?_⟩
    rw [b1, nI_sub a1, nI_rem (by omega) (by omega), nI_div (by omega) (by omega), nI_add, shl_tab _ (by omega), nI_or, Nat.or_assoc, show nI (R - 1 - j) + (-1) = nI (R - 1 - (j + 1)) from by
      rw [← Int32.sub_eq_add_neg, show R - 1 - (j + 1) = R - 1 - j - 1 by omega]
      exact nI_sub (b := 1) (by omega)]
    exact nx1
theorem lp_walls2 (h : Wam I w R) {q : am_Q} {r : Nat} (hr : r < R) {a0 : List Nat × Bool} (hq : ∀ I' : Nat → Nat → Int32, GL I' (wlR2 w R r a0 (wayN w R r)) → Gst I' I → q none (I', J, am_Rf f g)) : ∀ m way w6 w7 w8 w9 (I' : Nat → Nat → Int32), m + way = wayN w R r → GL I' (wlR2 w R r a0 way) → Gst I' I → am_u am_sh m_MD_walls q (am_at am_c_MD_walls 65) 65 [some (.ref 236), some (.int (nI r)), some (.int (nI R)), some (.int (nI (wayN w R r))), some (.int (nI (su3 w r))), some (.int (nI way)), w6, w7, w8, w9] [] (I', J, am_Rf f g) := by
  obtain ⟨o1, o2⟩ := wOk_get h.1
  obtain ⟨⟨_, o3, o6⟩, o4⟩ := o2 r hr
  have h3 := h.2.1.2
  intro m
  induction m with
  | zero =>
    intro way w6 w7 w8 w9 I' hm hT hS
    obtain rfl : way = wayN w R r := by omega
    exact br_t (nI_le (Nat.le_refl _) (by omega)) (j_MD_walls (hq I' hT hS))
  | succ m ih =>
    intro way w6 w7 w8 w9 I' hm hT hS
    have hI := h.st hS
    obtain ⟨b1, b2, b3⟩ := hI.2.2.2 r hr
    refine br_f (nI_ge (by omega) (by omega)) ⟨247, rfl, rfl, 3, r, rfl, by omega, rfl, rfl, j_MD_walls ?_⟩
    rw [b1, wrow_tab (w r) (by omega) (su3 w r) (by omega), hI.2.2.1, show nI R - 1 = nI (R - 1 - 0) from nI_sub (b := 1) (by omega)]
    have := lp_walls3 (f := f) (g := g) (J := J) (q := q) hI hr (show way < wayN w R r by omega) (x3 := nI (wayN w R r)) (x4 := nI (su3 w r)) (fun w7 w8 w9 => j_MD_walls ⟨rfl, (ev_gets (s := wset w R (su3 w R) r way) hT rfl (o4 way (by omega)).1).mono (by
      rintro x σ' ⟨rfl, I1, rfl, a1, a2⟩
      refine j_MD_walls ?_
      rw [nI_1]
      exact ih (way + 1) _ _ _ _ I1 (by omega) a1 (a2.tr hS))⟩) (R - 1 - r) 0 (by omega)
    rw [show (ch3 w R (su3 w R) way 0).1 = 0 from rfl, Nat.or_zero] at this
    exact this
theorem ev_walls (h : Wam I w R) {r : Nat} (hr : r < R) {a0 : List Nat × Bool} (hT : GL I a0) : am_ev am_sh m_MD_walls [.ref 236, .int (nI r), .int (nI R)] (I, J, am_Rf f g) (fun x σ' => x = none ∧ ∃ I', σ' = (I', J, am_Rf f g) ∧ GL I' (wlR2 w R r a0 (wayN w R r)) ∧ Gst I' I) := by
  have := lp_walls1 (f := f) (g := g) (J := J) (q := fun x σ' => x = none ∧ ∃ I', σ' = (I', J, am_Rf f g) ∧ GL I' (wlR2 w R r a0 (wayN w R r)) ∧ Gst I' I) h hr (w6 := none) (w7 := none) (w8 := none) (w9 := none) (fun w5 => j_MD_walls (j_MD_walls (lp_walls2 h hr (fun I' a b => ⟨rfl, I', rfl, a, b⟩) (wayN w R r) 0 none none none none I (by omega) hT (Gst.rf I)))) R 0 (by omega)
  rw [show 0 - (r + 1) = 0 by omega, show min 0 r = 0 by omega] at this
  exact s_MD_walls (j_MD_walls this)
theorem lp_mwall2 (h : Wam I w R) {q : am_Q} {x2 : Int32} (hq : ∀ I' : Nat → Nat → Int32, GL I' (wlR w R R) → Gst I' I → q (some (.int 1)) (I', J, am_Rf f g)) : ∀ m r (I' : Nat → Nat → Int32), m + r = R → GL I' (wlR w R r) → Gst I' I → am_u am_sh m_MD_wall q (am_at am_c_MD_wall 110) 110 [some (.ref 236), some (.int (nI R)), some (.int x2), some (.int (nI r))] [] (I', J, am_Rf f g) := by
  have h3 := h.2.1.2
  intro m
  induction m with
  | zero =>
    intro r I' hm hT hS
    obtain rfl : r = R := by omega
    exact br_t (nI_le (Nat.le_refl _) (by omega)) (j_MD_wall ⟨Or.inr rfl, hq I' hT hS⟩)
  | succ m ih =>
    intro r I' hm hT hS
    refine br_f (nI_ge (by omega) (by omega)) ⟨rfl, (ev_walls (h.st hS) (show r < R by omega) hT).mono ?_⟩
    rintro x σ' ⟨rfl, I1, rfl, a1, a2⟩
    refine j_MD_wall ?_
    rw [nI_1]
    exact ih (r + 1) I1 (by omega) a1 (a2.tr hS)
def Wsm (I : Nat → Nat → Int32) (ws : List Nat) : Prop := ∀ k v, ws[k]? = some v → I 247 k = nI v
abbrev RwQ (f g : Nat → Nat) (I : Nat → Nat → Int32) (J : Nat → Nat → Int64) (r : Nat × Option (List Nat)) : am_Q := fun x σ' => ∃ I', x = some (.int (b2i r.2.isSome)) ∧ σ' = (I', J, am_Rf f g) ∧ FrR I' I ∧ I' 236 12 = nI r.1 ∧ (r.2 = none → I' 236 16 = 0) ∧ ∀ ws, r.2 = some ws → I' 236 13 = nI ws.sum ∧ Wl ws ∧ 1 ≤ ws.length ∧ GL I' (wlR (lw ws) ws.length ws.length)
/-- behind the widths -/
theorem mwall_end {ws : List Nat} {p : Nat} {r : Nat × Option (List Nat)} {x2 : Int32} {w3' : Option Value} {I' : Nat → Nat → Int32} (hr : r = (p, some ws)) (hw : Wl ws) (h1 : 1 ≤ ws.length) (hs : Wsm I' ws) (h0 : I' 236 13 = nI ws.sum) (hp : I' 236 12 = nI p) (hT : GL I' ([], false)) (hF : FrR I' I) : am_run am_sh m_MD_wall (RwQ f g I J r) 108 [some (.ref 236), some (.int (nI ws.length)), some (.int x2), w3'] [] (I', J, am_Rf f g) := by
  obtain ⟨o1, o2, o3⟩ := hw.ok h1
  have hwal : Wam I' (lw ws) ws.length := by
    refine ⟨o1, ⟨h1, hw.1⟩, by rw [o2]; exact h0, fun k hk => ?_⟩
    have hg : ws[k]? = some ws[k] := List.getElem?_eq_getElem hk
    rw [o3 k _ hg]
    have := hw.2.1 ws[k] (List.getElem_mem hk)
    exact ⟨hs k _ hg, this.1, this.2⟩
  refine j_MD_wall (j_MD_wall (lp_mwall2 hwal (fun I2 t1 t2 => ⟨I2, by rw [hr]; rfl, rfl, t2.fr.tr hF, by rw [hr, t2.2 12 (by omega) (by omega)]; exact hp, fun e => (by rw [hr] at e; cases e), fun ws' e => ?_⟩) ws.length 0 I' (by omega) hT (Gst.rf I')))
  rw [hr] at e
  rw [← Option.some.inj e]
  exact ⟨by rw [t2.2 13 (by omega) (by omega)]; exact h0, hw, h1, t1⟩
end MX
