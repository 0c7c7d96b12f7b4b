/-! the class's Holding -/
theorem nar_b2i (b : Bool) : vp_nar .boolean (b2i b) = b2i b := by cases b <;> rfl
theorem cn_no {P : Nat → Bool} {n : Nat} (h : P n = false) : cn P (n + 1) = cn P n := by
  show cn P n + (if P n = true then 1 else 0) = _
  rw [h]
  rfl
theorem cn_yes {P : Nat → Bool} {n : Nat} (h : P n = true) : cn P (n + 1) = cn P n + 1 := by
  show cn P n + (if P n = true then 1 else 0) = _
  rw [h]
  rfl
/-- a Holding stands at o, its row behind it -/
def Hd (f g : Nat → Nat) (o : Nat) : Prop := am_sh[o]? = some (1, 0) ∧ am_Rf f g o 1 = some (o + 1) ∧ am_sh[o + 1]? = some (16, 128)
theorem Hd_206 {f g : Nat → Nat} : Hd f g 206 := ⟨rfl, rfl, rfl⟩
theorem Hd_209 {f g : Nat → Nat} : Hd f g 209 := ⟨rfl, rfl, rfl⟩
/-- it has looked: T sets, which of them hold a group -/
def Lk (I : Nat → Nat → Int32) (o T : Nat) (hs : Nat → Bool) : Prop := I o 0 = nI (T - 1) ∧ ∀ s, s < T → I (o + 1) s = b2i (hs s)
/-- whether a set holds a group of G -/
def hol (G : Nat → Int32) (M : Nat) (s : Nat) : Bool := bx (fun k => decide (G k &&& (nI s ^^^ (-1)) = 0)) M
section HOLD
variable {f g : Nat → Nat} {a o : Nat} {I : Nat → Nat → Int32} {J : Nat → Nat → Int64}
theorem lp_look {M n : Nat} (hS : St f g a) (hH : Hd f g o) (hoa : o < a ∨ a + 13 < o) (hob : o + 1 < a ∨ a + 13 < o + 1) (hM : I a 1 = nI M) (h12 : M ≤ 12) (h8 : n < 8) : ∀ k s (I' : Nat → Nat → Int32), k + s = 2 ^ n → I' o 0 = nI (2 ^ n - 1) → (∀ j, j < s → I' (o + 1) j = b2i (hol (I (a + 1)) M j)) → (∀ c, c ≠ o → c ≠ o + 1 → I' c = I c) → am_u am_sh m_Ho_look (fun r σ' => r = none ∧ ∃ I', σ' = (I', J, am_Rf f g) ∧ Lk I' o (2 ^ n) (hol (I (a + 1)) M) ∧ ∀ c, c ≠ o → c ≠ o + 1 → I' c = I c) (am_at am_c_Ho_look 10) 10 [some (.ref o), some (.ref a), some (.int (nI s))] [] (I', J, am_Rf f g) := by
  have hT := pow_le7 h8
  intro k
  induction k with
  | zero =>
    intro s I' hs h1 h2 h3
    obtain rfl : s = 2 ^ n := by omega
    refine ⟨hH.1, br_t (by rw [h1]; exact nI_lt (by omega) (by omega)) (j_Ho_look ⟨rfl, I', rfl, ⟨h1, h2⟩, h3⟩)⟩
  | succ k ih =>
    intro s I' hs h1 h2 h3
    have hM' : I' a 1 = nI M := by rw [h3 a (by omega) (by omega), hM]
    refine ⟨hH.1, br_f (by rw [h1]; exact nI_nlt (by omega) (by omega)) ?_⟩
    refine ⟨o + 1, hH.1, hH.2.1, hS.1.1, (ev_holdsGroup hS hM' h12 (nI s)).rt ?_⟩
    refine ⟨128, s, hH.2.2, by omega, rfl, ?_⟩
    refine j_Ho_look ?_
    rw [show nI s + 1 = nI (s + 1) from nI_1 s]
    have e : vp_nar .boolean (b2i (bx (fun k => decide (I' (a + 1) k &&& (nI s ^^^ (-1)) = 0)) M)) = b2i (hol (I (a + 1)) M s) := by
      rw [nar_b2i, h3 (a + 1) (by omega) (by omega)]
      rfl
    refine ih (s + 1) _ (by omega) ?_ (fun j hj => ?_) (fun c c1 c2 => ?_)
    · rw [am_up_ne (by omega), h1]
    · by_cases q : j = s
      · subst q
        rw [am_up_eq]
        exact e
      · rw [am_up_ne (by omega), h2 j (by omega)]
    · funext i
      rw [am_up_ne (by omega), h3 c c1 c2]
theorem ev_look {M n : Nat} (hS : St f g a) (hH : Hd f g o) (hoa : o < a ∨ a + 13 < o) (hob : o + 1 < a ∨ a + 13 < o + 1) (hM : I a 1 = nI M) (h12 : M ≤ 12) (hn : I a 0 = nI n) (h8 : n < 8) : am_ev am_sh m_Ho_look [.ref o, .ref a] (I, J, am_Rf f g) (fun r σ' => r = none ∧ ∃ I', σ' = (I', J, am_Rf f g) ∧ Lk I' o (2 ^ n) (hol (I (a + 1)) M) ∧ ∀ c, c ≠ o → c ≠ o + 1 → I' c = I c) := by
  refine s_Ho_look ⟨hS.1.1, (ev_all hS hn h8).rt ⟨hH.1, ?_⟩⟩
  refine j_Ho_look (lp_look hS hH hoa hob hM h12 h8 (2 ^ n) 0 _ (by omega) am_up_eq (fun j hj => by omega) (fun c c1 _ => ?_))
  funext k
  rw [am_up_ne (by omega)]
theorem lp_ofCount {T : Nat} {hs : Nat → Bool} (x : Int32) (hH : Hd f g o) (hL : Lk I o T hs) (h1 : 1 ≤ T) (hT : T ≤ 128) : ∀ k s c, k + s = T → c = nI (cn (fun s => hs s && decide (bc (nI s) = x)) s) → am_u am_sh m_Ho_ofCount (Rt (.int (nI (cn (fun s => hs s && decide (bc (nI s) = x)) T))) (I, J, am_Rf f g)) (am_at am_c_Ho_ofCount 4) 4 [some (.ref o), some (.int x), some (.int c), some (.int (nI s))] [] (I, J, am_Rf f g) := by
  intro k
  induction k with
  | zero =>
    intro s c hs hc
    obtain rfl : s = T := by omega
    rw [hc]
    exact ⟨hH.1, br_t (by rw [hL.1]; exact nI_lt (by omega) (by omega)) (j_Ho_ofCount ⟨rfl, rfl⟩)⟩
  | succ k ih =>
    intro s c hs' hc
    have step : ∀ c', c' = nI (cn (fun s => hs s && decide (bc (nI s) = x)) (s + 1)) → am_u am_sh m_Ho_ofCount (Rt (.int (nI (cn (fun s => hs s && decide (bc (nI s) = x)) T))) (I, J, am_Rf f g)) (am_at am_c_Ho_ofCount 32) 32 [some (.ref o), some (.int x), some (.int c'), some (.int (nI s))] [] (I, J, am_Rf f g) := by
      intro c' hc'
      refine j_Ho_ofCount ?_
      rw [show nI s + 1 = nI (s + 1) from nI_1 s]
      exact ih (s + 1) c' (by omega) hc'
    refine ⟨hH.1, br_f (by rw [hL.1]; exact nI_nlt (by omega) (by omega)) ⟨o + 1, hH.1, hH.2.1, 128, s, hH.2.2, by omega, rfl, ?_⟩⟩
    have e := hL.2 s (by omega)
    refine ⟨fun h2 => j_Ho_ofCount (step _ ?_), fun h2 => (ev_bc _ _).rt ⟨fun h3 => j_Ho_ofCount (step _ ?_), fun h3 => ?_⟩⟩
    · rw [hc, cn_no (by rw [b2i_eq0.mp (e.symm.trans h2)]; rfl)]
    · rw [hc, cn_no (by rw [decide_eq_false h3, Bool.and_false])]
    · refine step _ ?_
      rw [hc, cn_yes (by rw [b2i_ne0.mp (fun q => h2 (e.trans q)), decide_eq_true h3]; rfl)]
      exact nI_1 _
theorem ev_ofCount {T : Nat} {hs : Nat → Bool} (x : Int32) (hH : Hd f g o) (hL : Lk I o T hs) (h1 : 1 ≤ T) (hT : T ≤ 128) : am_ev am_sh m_Ho_ofCount [.ref o, .int x] (I, J, am_Rf f g) (Rt (.int (nI (cn (fun s => hs s && decide (bc (nI s) = x)) T))) (I, J, am_Rf f g)) := s_Ho_ofCount (j_Ho_ofCount (lp_ofCount x hH hL h1 hT T 0 _ (by omega) rfl))
end HOLD
