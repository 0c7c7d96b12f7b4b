/-! the class's Reader: walls -/
/-- widths, row by row -/
def Wds (I : Nat → Nat → Int32) (w : Nat → Nat) (R : Nat) : Prop := R ≤ 3 ∧ ∀ k, k < R → I 205 k = nI (w k) ∧ 1 ≤ w k ∧ w k ≤ 4
def su3 (w : Nat → Nat) : Nat → Nat
  | 0 => 0
  | r + 1 => su3 w r + w r
/-- ways of the k rows behind row r -/
def pr3 (w : Nat → Nat) (r : Nat) : Nat → Nat
  | 0 => 1
  | k + 1 => pr3 w r k * w (r + 1 + k)
/-- chosen elements, what is left of the way, the first element: after j rows from the last -/
def ch3 (w : Nat → Nat) (R z way : Nat) : Nat → Nat × Nat × Nat
  | 0 => (0, way, z)
  | j + 1 => ((ch3 w R z way j).1 ||| 2 ^ ((ch3 w R z way j).2.2 - w (R - 1 - j) + (ch3 w R z way j).2.1 % w (R - 1 - j)), (ch3 w R z way j).2.1 / w (R - 1 - j), (ch3 w R z way j).2.2 - w (R - 1 - j))
def wset (w : Nat → Nat) (R z r way : Nat) : Nat := (2 ^ w r - 1) * 2 ^ su3 w r ||| (ch3 w R z way (R - 1 - r)).1
def wayN (w : Nat → Nat) (R r : Nat) : Nat := pr3 w r (R - 1 - r)
def totN (w : Nat → Nat) (R : Nat) : Nat := fo (fun r s => s + wayN w R r) 0 R
def walL (w : Nat → Nat) (R : Nat) : List Nat := fo (fun r l => fo (fun way l => tel l (wset w R (su3 w R) r way)) l (wayN w R r)) [] R
def w3 (a b c : Nat) : Nat → Nat
  | 0 => a
  | 1 => b
  | _ => c
/-- all that is needed of a wall, by its widths -/
def wOk (w : Nat → Nat) (R : Nat) : Bool := decide (su3 w R ≤ 7) && ba (fun r => decide (1 ≤ wayN w R r ∧ wayN w R r ≤ 16 ∧ su3 w r ≤ 7) && ba (fun way => decide (wset w R (su3 w R) r way < 128) && ba (fun j => decide (w (R - 1 - j) ≤ (ch3 w R (su3 w R) way j).2.2 ∧ (ch3 w R (su3 w R) way j).2.2 ≤ 7 ∧ (ch3 w R (su3 w R) way j).2.1 ≤ way ∧ (ch3 w R (su3 w R) way j).1 < 128)) (R - 1 - r)) (wayN w R r)) R
theorem wOk_1 : ∀ a, a < 5 → (1 ≤ a) → wOk (w3 a 0 0) 1 = true := by decide +kernel
theorem wOk_2 : ∀ a, a < 5 → ∀ b, b < 5 → (1 ≤ a ∧ 1 ≤ b ∧ a + b ≤ 7) → wOk (w3 a b 0) 2 = true := by decide +kernel
theorem wOk_3 : ∀ a, a < 5 → ∀ b, b < 5 → ∀ c, c < 5 → (1 ≤ a ∧ 1 ≤ b ∧ 1 ≤ c ∧ a + b + c ≤ 7) → wOk (w3 a b c) 3 = true := by decide +kernel
/-- a list of groups of z elements -/
def lok (z : Nat) (l : List Nat) : Bool := decide (l.length ≤ 12) && l.all (fun s => decide (1 ≤ s ∧ s < 2 ^ z)) && decide l.Nodup
theorem wL_1 : ∀ a, a < 5 → 1 ≤ a → (!decide (totN (w3 a 0 0) 1 ≤ 12) || lok (su3 (w3 a 0 0) 1) (walL (w3 a 0 0) 1)) = true := by decide +kernel
theorem wL_2 : ∀ a, a < 5 → ∀ b, b < 5 → (1 ≤ a ∧ 1 ≤ b ∧ a + b ≤ 7) → (!decide (totN (w3 a b 0) 2 ≤ 12) || lok (su3 (w3 a b 0) 2) (walL (w3 a b 0) 2)) = true := by decide +kernel
theorem wL_3 : ∀ a, a < 5 → ∀ b, b < 5 → ∀ c, c < 5 → (1 ≤ a ∧ 1 ≤ b ∧ 1 ≤ c ∧ a + b + c ≤ 7) → (!decide (totN (w3 a b c) 3 ≤ 12) || lok (su3 (w3 a b c) 3) (walL (w3 a b c) 3)) = true := by decide +kernel
theorem wOk_get {w : Nat → Nat} {R : Nat} (h : wOk w R = true) : su3 w R ≤ 7 ∧ ∀ r, r < R → (1 ≤ wayN w R r ∧ wayN w R r ≤ 16 ∧ su3 w r ≤ 7) ∧ ∀ way, way < wayN w R r → wset w R (su3 w R) r way < 128 ∧ ∀ j, j < R - 1 - r → w (R - 1 - j) ≤ (ch3 w R (su3 w R) way j).2.2 ∧ (ch3 w R (su3 w R) way j).2.2 ≤ 7 ∧ (ch3 w R (su3 w R) way j).2.1 ≤ way ∧ (ch3 w R (su3 w R) way j).1 < 128 := by
  unfold wOk at h
  rw [Bool.and_eq_true, ba_iff] at h
  refine ⟨of_decide_eq_true h.1, fun r hr => ?_⟩
  have h2 := h.2 r hr
  rw [Bool.and_eq_true, ba_iff] at h2
  refine ⟨of_decide_eq_true h2.1, fun way hw => ?_⟩
  have h3 := h2.2 way hw
  rw [Bool.and_eq_true, ba_iff] at h3
  exact ⟨of_decide_eq_true h3.1, fun j hj => of_decide_eq_true (h3.2 j hj)⟩
/-- a wall's rows stand -/
def Wal (I : Nat → Nat → Int32) (w : Nat → Nat) (R : Nat) : Prop := wOk w R = true ∧ (1 ≤ R ∧ R ≤ 3) ∧ I 201 5 = nI R ∧ I 201 0 = nI (su3 w R) ∧ ∀ k, k < R → I 205 k = nI (w k) ∧ 1 ≤ w k ∧ w k ≤ 4
section RD
variable {f g : Nat → Nat} {I : Nat → Nat → Int32} {J : Nat → Nat → Int64} {u : Nat → Nat} {n : Nat} {w : Nat → Nat} {R : Nat}
theorem Wal.st {I' : Nat → Nat → Int32} (h : Wal I w R) (hs : Stl I' I) : Wal I' w R := by
  unfold Wal
  rw [hs.2 5 (by omega), hs.2 0 (by omega), hs.1 205 (by omega) (by omega)]
  exact h
theorem lp_waysBelow (h : Wal I w R) {r : Nat} (hr : r < R) : ∀ m k, m + k = R - 1 - r → am_u am_sh m_Re_waysBelow (Rt (.int (nI (wayN w R r))) (I, J, am_Rf f g)) (am_at am_c_Re_waysBelow 6) 6 [some (.ref 201), some (.int (nI r)), some (.int (nI (pr3 w r k))), some (.int (nI (r + 1 + k)))] [] (I, J, am_Rf f g) := by
  obtain ⟨_, ⟨h1, h3⟩, hR, _, hw⟩ := h
  intro m
  induction m with
  | zero =>
    intro k hk
    obtain rfl : k = R - 1 - r := by omega
    exact ⟨rfl, br_t (by rw [hR]; exact nI_le (by omega) (by omega)) (j_Re_waysBelow ⟨rfl, rfl⟩)⟩
  | succ m ih =>
    intro k hk
    refine ⟨rfl, br_f (by rw [hR]; exact nI_ge (by omega) (by omega)) ⟨205, rfl, rfl, 3, r + 1 + k, rfl, by omega, rfl, j_Re_waysBelow ?_⟩⟩
    rw [nI_1, (hw (r + 1 + k) (by omega)).1, nI_mul]
    exact ih (k + 1) (by omega)
theorem ev_waysBelow (h : Wal I w R) {r : Nat} (hr : r < R) : am_ev am_sh m_Re_waysBelow [.ref 201, .int (nI r)] (I, J, am_Rf f g) (Rt (.int (nI (wayN w R r))) (I, J, am_Rf f g)) := by
  refine s_Re_waysBelow (j_Re_waysBelow ?_)
  rw [nI_1]
  exact lp_waysBelow h hr (R - 1 - r) 0 (by omega)
theorem lp_chosenBelow (h : Wal I w R) {r way : Nat} (hr : r < R) (hway : way < wayN w R r) : ∀ m j w7, m + j = R - 1 - r → am_u am_sh m_Re_chosenBelow (Rt (.int (nI (ch3 w R (su3 w R) way (R - 1 - r)).1)) (I, J, am_Rf f g)) (am_at am_c_Re_chosenBelow 19) 19 [some (.ref 201), some (.int (nI r)), some (.int (nI way)), some (.int (nI (ch3 w R (su3 w R) way j).1)), some (.int (nI (ch3 w R (su3 w R) way j).2.1)), some (.int (nI (ch3 w R (su3 w R) way j).2.2)), some (.int (nI (R - 1 - j))), w7] [] (I, J, am_Rf f g) := by
  obtain ⟨hok, ⟨h1, h3⟩, hR, _, hw⟩ := h
  obtain ⟨o1, o2⟩ := wOk_get hok
  obtain ⟨⟨_, o3, _⟩, o4⟩ := o2 r hr
  obtain ⟨_, o5⟩ := o4 way hway
  intro m
  induction m with
  | zero =>
    intro j w7 hj
    obtain rfl : j = R - 1 - r := by omega
    exact br_t (nI_le (by omega) (by omega)) (j_Re_chosenBelow ⟨rfl, rfl⟩)
  | succ m ih =>
    intro j w7 hj
    obtain ⟨a1, a2, a3, a4⟩ := o5 j (by omega)
    obtain ⟨b1, b2, b3⟩ := hw (R - 1 - j) (by omega)
    have ml := Nat.mod_lt (ch3 w R (su3 w R) way j).2.1 (show 0 < w (R - 1 - j) by omega)
    refine br_f (nI_ge (by omega) (by omega)) ⟨205, rfl, rfl, 3, R - 1 - j, rfl, by omega, rfl, br_f ?_ ⟨?_, ?_, j_Re_chosenBelow ?_⟩⟩
    · show ¬ I 205 (R - 1 - j) ≤ 0
      rw [b1]
      exact nI_ge (a := 0) (by omega) (by omega)
    · show ¬ I 205 (R - 1 - j) = 0
      rw [b1]
      exact nI_ne0 (by omega) (by omega)
    · show ¬ I 205 (R - 1 - j) = 0
      rw [b1]
      exact nI_ne0 (by omega) (by omega)
    · rw [b1, nI_sub a1, nI_rem (by omega) (by omega), nI_div (by omega) (by omega), nI_add, shl_tab _ (by omega), nI_or, show nI (R - 1 - j) + (-1) = nI (R - 1 - (j + 1)) from by
        rw [← Int32.sub_eq_add_neg, show R - 1 - (j + 1) = R - 1 - j - 1 by omega]
        exact nI_sub (b := 1) (by omega)]
      exact ih (j + 1) _ (by omega)
theorem ev_chosenBelow (h : Wal I w R) {r way : Nat} (hr : r < R) (hway : way < wayN w R r) : am_ev am_sh m_Re_chosenBelow [.ref 201, .int (nI r), .int (nI way)] (I, J, am_Rf f g) (Rt (.int (nI (ch3 w R (su3 w R) way (R - 1 - r)).1)) (I, J, am_Rf f g)) := by
  have := lp_chosenBelow (f := f) (g := g) (J := J) h hr hway (R - 1 - r) 0 none (by omega)
  refine s_Re_chosenBelow ⟨rfl, rfl, j_Re_chosenBelow ?_⟩
  obtain ⟨hok, ⟨h1, h3⟩, hR, h0, hw⟩ := h
  rw [h0, hR, show nI R - 1 = nI (R - 1 - 0) from nI_sub (b := 1) h1]
  exact this
theorem lp_told1 (h : Wal I w R) {q : am_Q} {w3' w4 : Option Value} (K : ∀ w2, am_run am_sh m_Re_isWallTold q 26 [some (.ref 201), some (.int (nI (totN w R))), w2, w3', w4] [] (I, J, am_Rf f g)) : ∀ m r, m + r = R → am_u am_sh m_Re_isWallTold q (am_at am_c_Re_isWallTold 4) 4 [some (.ref 201), some (.int (nI (fo (fun r s => s + wayN w R r) 0 r))), some (.int (nI r)), w3', w4] [] (I, J, am_Rf f g) := by
  have hR := h.2.2.1
  have h3 := h.2.1.2
  intro m
  induction m with
  | zero =>
    intro r hr
    obtain rfl : r = R := by omega
    exact ⟨rfl, br_t (by rw [hR]; exact nI_le (Nat.le_refl _) (by omega)) (K _)⟩
  | succ m ih =>
    intro r hr
    refine ⟨rfl, br_f (by rw [hR]; exact nI_ge (by omega) (by omega)) ⟨rfl, (ev_waysBelow h (show r < R by omega)).rt (j_Re_isWallTold ?_)⟩⟩
    rw [nI_1, nI_add]
    exact ih (r + 1) (by omega)
theorem lp_told3 (h : Wal I w R) {q : am_Q} {r : Nat} {x1 : Int32} (hr : r < R) {l0 : List Nat} (K : ∀ (I' : Nat → Nat → Int32) w4, TL I' (fo (fun way l => tel l (wset w R (su3 w R) r way)) l0 (wayN w R r)) → Stl I' I → am_run am_sh m_Re_isWallTold q 87 [some (.ref 201), some (.int x1), some (.int (nI (su3 w r))), some (.int (nI r)), w4] [] (I', J, am_Rf f g)) : ∀ m way (I' : Nat → Nat → Int32), m + way = wayN w R r → TL I' (fo (fun way l => tel l (wset w R (su3 w R) r way)) l0 way) → Stl I' I → am_u am_sh m_Re_isWallTold q (am_at am_c_Re_isWallTold 49) 49 [some (.ref 201), some (.int x1), some (.int (nI (su3 w r))), some (.int (nI r)), some (.int (nI way))] [] (I', J, am_Rf f g) := by
  obtain ⟨o1, o2⟩ := wOk_get h.1
  obtain ⟨⟨_, o3, o6⟩, o4⟩ := o2 r hr
  have h3 := h.2.1.2
  intro m
  induction m with
  | zero =>
    intro way I' hm hT hS
    obtain rfl : way = wayN w R r := by omega
    exact ⟨rfl, (ev_waysBelow (h.st hS) hr).rt (br_t (nI_le (Nat.le_refl _) (by omega)) (K I' _ hT hS))⟩
  | succ m ih =>
    intro way I' hm hT hS
    have hI := h.st hS
    obtain ⟨b1, b2, b3⟩ := hI.2.2.2.2 r hr
    refine ⟨rfl, (ev_waysBelow hI hr).rt (br_f (nI_ge (by omega) (by omega)) ⟨205, rfl, rfl, 3, r, rfl, by omega, rfl, (ev_wallRow (w := w r) (k := su3 w r) b1 rfl (by omega) (by omega) _).rt ⟨rfl, (ev_chosenBelow hI hr (show way < wayN w R r by omega)).rt ⟨rfl, (ev_tell (s := wset w R (su3 w R) r way) hT ?_ (o4 way (by omega)).1).mono ?_⟩⟩⟩)⟩
    · exact nI_or _ _
    · rintro x σ' ⟨rfl, I1, rfl, a1, a2⟩
      refine j_Re_isWallTold ?_
      rw [nI_1]
      exact ih (way + 1) I1 (by omega) a1 (a2.tr hS)
theorem lp_told2 (h : Wal I w R) {q : am_Q} {x1 : Int32} (hq : ∀ I' : Nat → Nat → Int32, TL I' (walL w R) → Stl I' I → q (some (.int 1)) (I', J, am_Rf f g)) : ∀ m r w4 (I' : Nat → Nat → Int32), m + r = R → TL I' (fo (fun r l => fo (fun way l => tel l (wset w R (su3 w R) r way)) l (wayN w R r)) [] r) → Stl I' I → am_u am_sh m_Re_isWallTold q (am_at am_c_Re_isWallTold 38) 38 [some (.ref 201), some (.int x1), some (.int (nI (su3 w r))), some (.int (nI r)), w4] [] (I', J, am_Rf f g) := by
  have h3 := h.2.1.2
  intro m
  induction m with
  | zero =>
    intro r w4 I' hm hT hS
    obtain rfl : r = R := by omega
    exact ⟨rfl, br_t (by rw [(h.st hS).2.2.1]; exact nI_le (Nat.le_refl _) (by omega)) (j_Re_isWallTold ⟨Or.inr rfl, hq I' hT hS⟩)⟩
  | succ m ih =>
    intro r w4 I' hm hT hS
    have hI := h.st hS
    refine ⟨rfl, br_f (by rw [hI.2.2.1]; exact nI_ge (by omega) (by omega)) (j_Re_isWallTold (lp_told3 hI (show r < R by omega) (fun I1 w4 a1 a2 => j_Re_isWallTold ⟨205, rfl, rfl, 3, r, rfl, by omega, rfl, j_Re_isWallTold ?_⟩) (wayN w R r) 0 I' (by omega) hT (Stl.rf I')))⟩
    rw [nI_1, ((h.st (a2.tr hS)).2.2.2.2 r (by omega)).1, nI_add]
    exact ih (r + 1) w4 I1 (by omega) a1 (a2.tr hS)
theorem tot_le (h : wOk w R = true) : ∀ r, r ≤ R → fo (fun r s => s + wayN w R r) 0 r ≤ 16 * r := by
  intro r
  induction r with
  | zero => intro _; exact Nat.le_refl _
  | succ r ih =>
    intro hr
    have a := ih (by omega)
    have b := ((wOk_get h).2 r (by omega)).1.2.1
    show fo (fun r s => s + wayN w R r) 0 r + wayN w R r ≤ _
    omega
theorem ev_isWallTold (h : Wal I w R) (hT : TL I []) : am_ev am_sh m_Re_isWallTold [.ref 201] (I, J, am_Rf f g) (fun x σ' => ∃ I', x = some (.int (b2i (decide (totN w R ≤ 12)))) ∧ σ' = (I', J, am_Rf f g) ∧ Stl I' I ∧ (totN w R ≤ 12 → TL I' (walL w R))) := by
  have tl := tot_le h.1 R (Nat.le_refl _)
  have h3 := h.2.1.2
  have tl : totN w R ≤ 16 * R := tl
  refine s_Re_isWallTold (j_Re_isWallTold (lp_told1 h (fun w2 => j_Re_isWallTold ⟨fun e => j_Re_isWallTold (j_Re_isWallTold (lp_told2 h (fun I' t1 t2 => ⟨I', ?_, rfl, t2, fun _ => t1⟩) R 0 none I (by omega) hT (Stl.rf I))), fun e => ⟨Or.inl rfl, I, ?_, rfl, Stl.rf I, fun hw12 => ?_⟩⟩) R 0 (by omega)))
  · have e : nI (totN w R) ≤ nI 12 := e
    rw [nI_leI (by omega) (by omega)] at e
    rw [decide_eq_true e]
    rfl
  · have e : ¬ nI (totN w R) ≤ nI 12 := e
    rw [nI_leI (by omega) (by omega)] at e
    rw [decide_eq_false e]
    rfl
  · have e : ¬ nI (totN w R) ≤ nI 12 := e
    rw [nI_leI (by omega) (by omega)] at e
    exact absurd hw12 e
end RD
