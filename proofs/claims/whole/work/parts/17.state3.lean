/-! the class's State: sums over the groups, changes -/
section STATE3
variable {f g : Nat → Nat} {a : Nat} {I : Nat → Nat → Int32} {J : Nat → Nat → Int64}
/-- the least in common with another one -/
def lcf (G : Nat → Int32) (p : Nat) (k : Nat) (x : Int32) : Int32 := if ¬ k = p ∧ (x = -4 ∨ bc (G k &&& G p) < x) then bc (G k &&& G p) else x
theorem lp_leastCommonOf {M p : Nat} (hS : St f g a) (hM : I a 1 = nI M) (h12 : M ≤ 12) (hp : p < M) : ∀ n k w, n + k = M → am_u am_sh m_St_leastCommonOf (Rt (.int (fo (lcf (I (a + 1)) p) (-4) M)) (I, J, am_Rf f g)) (am_at am_c_St_leastCommonOf 5) 5 [some (.ref a), some (.int (nI p)), some (.int (fo (lcf (I (a + 1)) p) (-4) k)), some (.int (nI k)), w] [] (I, J, am_Rf f g) := by
  intro n
  induction n with
  | zero =>
    intro k w hk
    obtain rfl : k = M := by omega
    refine ⟨hS.1.1, br_t (by rw [hM]; exact nI_le (by omega) (by omega)) (j_St_leastCommonOf ⟨rfl, rfl⟩)⟩
  | succ n ih =>
    intro k w hk
    refine ⟨hS.1.1, br_f (by rw [hM]; exact nI_ge (by omega) (by omega)) ?_⟩
    refine ⟨a + 1, hS.1.1, hS.1.2.1, 12, k, hS.2.1, by omega, rfl, a + 1, hS.1.1, hS.1.2.1, 12, p, hS.2.1, by omega, rfl, (ev_bc _ _).rt ?_⟩
    have step : ∀ v, v = fo (lcf (I (a + 1)) p) (-4) (k + 1) → am_u am_sh m_St_leastCommonOf (Rt (.int (fo (lcf (I (a + 1)) p) (-4) M)) (I, J, am_Rf f g)) (am_at am_c_St_leastCommonOf 51) 51 [some (.ref a), some (.int (nI p)), some (.int v), some (.int (nI k)), some (.int (bc (I (a + 1) k &&& I (a + 1) p)))] [] (I, J, am_Rf f g) := by
      intro v hv
      refine j_St_leastCommonOf ?_
      rw [hv, show nI k + 1 = nI (k + 1) from nI_1 k]
      exact ih (k + 1) _ (by omega)
    have e0 : fo (lcf (I (a + 1)) p) (-4) (k + 1) = lcf (I (a + 1)) p k (fo (lcf (I (a + 1)) p) (-4) k) := rfl
    refine ⟨fun h1 => j_St_leastCommonOf (step _ ?_), fun h1 => ⟨fun h2 => j_St_leastCommonOf (step _ ?_), fun h2 => ⟨fun h3 => j_St_leastCommonOf (step _ ?_), fun h3 => step _ ?_⟩⟩⟩
    · have e : k = p := (nI_eq (by omega) (by omega)).mp h1
      rw [e0]
      unfold lcf
      rw [if_neg (fun q => q.1 e)]
    · rw [e0]
      unfold lcf
      rw [if_pos ⟨fun q => h1 (by rw [q]), Or.inl h2⟩]
    · rw [e0]
      unfold lcf
      rw [if_neg (fun q => q.2.elim h2 (fun z => absurd z (Int32.not_lt.mpr h3)))]
    · rw [e0]
      unfold lcf
      rw [if_pos ⟨fun q => h1 (by rw [q]), Or.inr (Int32.not_le.mp h3)⟩]
theorem ev_leastCommonOf {M p : Nat} (hS : St f g a) (hM : I a 1 = nI M) (h12 : M ≤ 12) (hp : p < M) : am_ev am_sh m_St_leastCommonOf [.ref a, .int (nI p)] (I, J, am_Rf f g) (Rt (.int (fo (lcf (I (a + 1)) p) (-4) M)) (I, J, am_Rf f g)) := s_St_leastCommonOf (j_St_leastCommonOf (lp_leastCommonOf hS hM h12 hp M 0 none rfl))
def gwf (G : Nat → Int32) (x : Int32) (k : Nat) (w : Int32) : Int32 := if G k &&& x = 0 then w else w ||| (1 : Int32) <<< (nI k &&& 31)
theorem lp_groupsWith {M : Nat} (hS : St f g a) (hM : I a 1 = nI M) (h12 : M ≤ 12) (x : Int32) : ∀ n k, n + k = M → am_u am_sh m_St_groupsWith (Rt (.int (fo (gwf (I (a + 1)) x) 0 M)) (I, J, am_Rf f g)) (am_at am_c_St_groupsWith 4) 4 [some (.ref a), some (.int x), some (.int (fo (gwf (I (a + 1)) x) 0 k)), some (.int (nI k))] [] (I, J, am_Rf f g) := by
  intro n
  induction n with
  | zero =>
    intro k hk
    obtain rfl : k = M := by omega
    refine ⟨hS.1.1, br_t (by rw [hM]; exact nI_le (by omega) (by omega)) (j_St_groupsWith ⟨rfl, rfl⟩)⟩
  | succ n ih =>
    intro k hk
    refine ⟨hS.1.1, br_f (by rw [hM]; exact nI_ge (by omega) (by omega)) ?_⟩
    have e0 : fo (gwf (I (a + 1)) x) 0 (k + 1) = gwf (I (a + 1)) x k (fo (gwf (I (a + 1)) x) 0 k) := rfl
    refine ⟨a + 1, hS.1.1, hS.1.2.1, 12, k, hS.2.1, by omega, rfl, fun h1 => j_St_groupsWith (j_St_groupsWith ?_), fun h1 => j_St_groupsWith ?_⟩
    · have := ih (k + 1) (by omega)
      rw [e0] at this
      unfold gwf at this
      rw [if_pos h1] at this
      rw [show nI k + 1 = nI (k + 1) from nI_1 k]
      exact this
    · have := ih (k + 1) (by omega)
      rw [e0] at this
      unfold gwf at this
      rw [if_neg h1] at this
      rw [show nI k + 1 = nI (k + 1) from nI_1 k]
      exact this
theorem ev_groupsWith {M : Nat} (hS : St f g a) (hM : I a 1 = nI M) (h12 : M ≤ 12) (x : Int32) : am_ev am_sh m_St_groupsWith [.ref a, .int x] (I, J, am_Rf f g) (Rt (.int (fo (gwf (I (a + 1)) x) 0 M)) (I, J, am_Rf f g)) := s_St_groupsWith (j_St_groupsWith (lp_groupsWith hS hM h12 x M 0 rfl))
/-- the least in common of any two -/
def cmf (G : Nat → Int32) (k j : Nat) (x : Int32) : Int32 := if bc (G k &&& G j) < x then bc (G k &&& G j) else x
def cmg (G : Nat → Int32) (k : Nat) (x : Int32) : Int32 := fo (cmf G k) x (k + 1)
theorem fo_0 {β : Type} (f : Nat → β → β) (b : β) : fo f b 0 = b := rfl
theorem fo_s {β : Type} (f : Nat → β → β) (b : β) (n : Nat) : fo f b (n + 1) = f n (fo f b n) := rfl
theorem lp_common2 {M k : Nat} {v : Int32} {q : am_Q} (hS : St f g a) (h12 : M ≤ 12) (hk : k < M) (K : am_u am_sh m_St_common q (am_at am_c_St_common 47) 47 [some (.ref a), some (.int (cmg (I (a + 1)) k v)), some (.int (nI k)), some (.int (nI (k + 1)))] [] (I, J, am_Rf f g)) : ∀ n j w, n + j = k + 1 → w = fo (cmf (I (a + 1)) k) v j → am_u am_sh m_St_common q (am_at am_c_St_common 15) 15 [some (.ref a), some (.int w), some (.int (nI k)), some (.int (nI j))] [] (I, J, am_Rf f g) := by
  intro n
  induction n with
  | zero =>
    intro j w hj hw
    obtain rfl : j = k + 1 := by omega
    rw [hw]
    exact br_t (nI_lt (by omega) (by omega)) (j_St_common K)
  | succ n ih =>
    intro j w hj hw
    refine br_f (nI_nlt (by omega) (by omega)) ?_
    refine ⟨a + 1, hS.1.1, hS.1.2.1, 12, k, hS.2.1, by omega, rfl, a + 1, hS.1.1, hS.1.2.1, 12, j, hS.2.1, by omega, rfl, (ev_bc _ _).rt ?_⟩
    refine j_St_common ?_
    rw [show nI j + 1 = nI (j + 1) from nI_1 j]
    exact ih (j + 1) _ (by omega) (by rw [hw, fo_s]; rfl)
theorem lp_common {M : Nat} (hS : St f g a) (hM : I a 1 = nI M) (h12 : M ≤ 12) : ∀ n k w, n + k = M → am_u am_sh m_St_common (Rt (.int (fo (cmg (I (a + 1))) 7 M)) (I, J, am_Rf f g)) (am_at am_c_St_common 5) 5 [some (.ref a), some (.int (fo (cmg (I (a + 1))) 7 k)), some (.int (nI k)), w] [] (I, J, am_Rf f g) := by
  intro n
  induction n with
  | zero =>
    intro k w hk
    obtain rfl : k = M := by omega
    refine ⟨hS.1.1, br_t (by rw [hM]; exact nI_le (by omega) (by omega)) (j_St_common ⟨rfl, rfl⟩)⟩
  | succ n ih =>
    intro k w hk
    refine ⟨hS.1.1, br_f (by rw [hM]; exact nI_ge (by omega) (by omega)) ?_⟩
    refine j_St_common (lp_common2 (v := fo (cmg (I (a + 1))) 7 k) hS h12 (by omega) ?_ (k + 1) 0 _ rfl (fo_0 _ _).symm)
    refine j_St_common ?_
    rw [show nI k + 1 = nI (k + 1) from nI_1 k]
    exact ih (k + 1) _ (by omega)
theorem ev_common {M : Nat} (hS : St f g a) (hM : I a 1 = nI M) (h12 : M ≤ 12) : am_ev am_sh m_St_common [.ref a] (I, J, am_Rf f g) (Rt (.int (fo (cmg (I (a + 1))) 7 M)) (I, J, am_Rf f g)) := s_St_common (j_St_common (lp_common hS hM h12 M 0 none rfl))
theorem ev_append {M : Nat} (hS : St f g a) (hM : I a 1 = nI M) (h12 : M < 12) (x : Int32) : am_ev am_sh m_St_append [.ref a, .int x] (I, J, am_Rf f g) (Rv (am_up (am_up I (a + 1) M x) a 1 (nI (M + 1)), J, am_Rf f g)) := by
  refine s_St_append ⟨hS.1.1, br_f (by rw [hM]; exact nI_ge (a := M) (b := 12) (by omega) (by omega)) ?_⟩
  refine ⟨a + 1, hS.1.1, hS.1.2.1, hS.1.1, 12, M, hS.2.1, h12, hM, hS.1.1, hS.1.1, ?_⟩
  show Rv _ none _
  refine ⟨rfl, ?_⟩
  have e : am_up I (a + 1) M x a 1 = nI M := by
    unfold am_up
    rw [if_neg (by omega), hM]
  rw [e, nI_1]
theorem ev_append_full {M : Nat} (hS : St f g a) (hM : I a 1 = nI M) (h12 : M = 12) (x : Int32) : am_ev am_sh m_St_append [.ref a, .int x] (I, J, am_Rf f g) (Rv (I, J, am_Rf f g)) := by
  refine s_St_append ⟨hS.1.1, br_t (by rw [hM, h12]; decide) (j_St_append ⟨rfl, rfl⟩)⟩
/-- the groups behind p move up: 0 .. k less 1 are done -/
def rmv (G : Nat → Int32) (p k : Nat) : Nat → Int32 := fun j => if p ≤ j ∧ j < k then G (j + 1) else G j
def setRow (I : Nat → Nat → Int32) (b : Nat) (G : Nat → Int32) : Nat → Nat → Int32 := am_row I b G
theorem am_up_row {I : Nat → Nat → Int32} {b k : Nat} {G : Nat → Int32} {v : Int32} : am_up (am_row I b G) b k v = am_row I b (upd G k v) := by
  funext c j
  by_cases h : c = b
  · subst h
    by_cases e : j = k
    · simp [am_up, am_row, upd, e]
    · simp [am_up, am_row, upd, e]
  · simp [am_up, am_row, h]
theorem am_row_id {I : Nat → Nat → Int32} {b : Nat} : am_row I b (I b) = I := by
  funext c j
  by_cases h : c = b
  · subst h; simp [am_row]
  · simp [am_row, h]
theorem am_row_ne {α : Type} {I : Nat → Nat → α} {b c : Nat} {G : Nat → α} (h : c ≠ b) (j : Nat) : am_row I b G c j = I c j := by simp [am_row, h]
theorem am_row_eq {α : Type} {I : Nat → Nat → α} {b : Nat} {G : Nat → α} (j : Nat) : am_row I b G b j = G j := by simp [am_row]
theorem lp_removeAt {M p : Nat} (hS : St f g a) (hM : I a 1 = nI M) (h12 : M ≤ 12) (hp : p < M) : ∀ n k, n + k + 1 = M → p ≤ k → am_u am_sh m_St_removeAt (Rv (am_up (am_row I (a + 1) (rmv (I (a + 1)) p (M - 1))) a 1 (nI (M - 1)), J, am_Rf f g)) (am_at am_c_St_removeAt 4) 4 [some (.ref a), some (.int (nI p)), some (.int (nI (k + 1)))] [] (am_row I (a + 1) (rmv (I (a + 1)) p k), J, am_Rf f g) := by
  have hm : ∀ k, am_row I (a + 1) (rmv (I (a + 1)) p k) a 1 = nI M := fun k => by rw [am_row_ne (by omega), hM]
  intro n
  induction n with
  | zero =>
    intro k hk hpk
    obtain rfl : k = M - 1 := by omega
    refine ⟨hS.1.1, br_t (by rw [hm]; exact nI_le (by omega) (by omega)) (j_St_removeAt ?_)⟩
    refine ⟨hS.1.1, hS.1.1, rfl, ?_⟩
    show (_, _, _) = _
    rw [hm, show nI M - 1 = nI (M - 1) by rw [show M = (M - 1) + 1 by omega]; exact nI_pred _]
  | succ n ih =>
    intro k hk hpk
    refine ⟨hS.1.1, br_f (by rw [hm]; exact nI_ge (by omega) (by omega)) ?_⟩
    refine ⟨a + 1, hS.1.1, hS.1.2.1, a + 1, hS.1.1, hS.1.2.1, 12, k + 1, hS.2.1, by omega, rfl, 12, k, hS.2.1, by omega, nI_pred k, ?_⟩
    refine j_St_removeAt ?_
    rw [show nI (k + 1) + 1 = nI (k + 1 + 1) from nI_1 (k + 1), am_up_row, am_row_eq]
    have e : upd (rmv (I (a + 1)) p k) k (rmv (I (a + 1)) p k (k + 1)) = rmv (I (a + 1)) p (k + 1) := by
      funext j
      by_cases e : j = k
      · subst e
        unfold upd rmv
        rw [if_pos rfl, if_neg (by omega), if_pos ⟨hpk, by omega⟩]
      · unfold upd rmv
        rw [if_neg e]
        by_cases h1 : p ≤ j ∧ j < k
        · rw [if_pos h1, if_pos ⟨h1.1, by omega⟩]
        · rw [if_neg h1, if_neg (by omega)]
    rw [e]
    exact ih (k + 1) (by omega) (by omega)
theorem ev_removeAt {M p : Nat} (hS : St f g a) (hM : I a 1 = nI M) (h12 : M ≤ 12) (hp : p < M) : am_ev am_sh m_St_removeAt [.ref a, .int (nI p)] (I, J, am_Rf f g) (Rv (am_up (am_row I (a + 1) (rmv (I (a + 1)) p (M - 1))) a 1 (nI (M - 1)), J, am_Rf f g)) := by
  refine s_St_removeAt ?_
  have h := lp_removeAt (f := f) (g := g) (J := J) hS hM h12 hp (M - 1 - p) p (by omega) (Nat.le_refl _)
  have e : rmv (I (a + 1)) p p = I (a + 1) := by
    funext j
    unfold rmv
    rw [if_neg (by omega)]
  rw [e, am_row_id, ← nI_1] at h
  exact j_St_removeAt h
end STATE3
