/-! what a plan weighs -/
theorem oi_neg {r : Option Nat} (h : ∀ k, r = some k → k < 2 ^ 31) : oi r < 0 ↔ r = none := by
  cases r with
  | none => exact ⟨fun _ => rfl, fun _ => by decide⟩
  | some k => exact ⟨fun q => absurd q (nI_pos (h k rfl)), fun q => by cases q⟩
section WEIGH
variable {f g : Nat → Nat} {a : Nat} {I : Nat → Nat → Int32} {J : Nat → Nat → Int64}
def wof (I : Nat → Nat → Int32) (a M p : Nat) (el : Int32) (k : Nat) (s : Int32) : Int32 := if ¬ I (a + 5 + p) k &&& el = 0 ∧ ¬ fi (fun j => decide (I (a + 1) j = I (a + 5 + p) k)) M = none then s + I (a + 10 + p) k else s
theorem lp_weightOn {M p : Nat} {el : Int32} (hS : St f g a) (hM : I a 1 = nI M) (h12 : M ≤ 12) (hp : p < 4) : ∀ n k s w, n + k = 12 → s = fo (wof I a M p el) 0 k → am_u am_sh m_Pl_weightOn (Rt (.int (fo (wof I a M p el) 0 12)) (I, J, am_Rf f g)) (am_at am_c_Pl_weightOn 6) 6 [some (.ref (a + 2)), some (.int (nI p)), some (.ref a), some (.int el), some (.int s), some (.int (nI k)), w] [] (I, J, am_Rf f g) := by
  have pS := hS.2.2.2.2.2.2 p hp
  intro n
  induction n with
  | zero =>
    intro k s w hk hs
    obtain rfl : k = 12 := by omega
    rw [hs]
    exact br_t (by decide) (j_Pl_weightOn ⟨rfl, rfl⟩)
  | succ n ih =>
    intro k s w hk hs
    have step : ∀ s' w', s' = fo (wof I a M p el) 0 (k + 1) → am_u am_sh m_Pl_weightOn (Rt (.int (fo (wof I a M p el) 0 12)) (I, J, am_Rf f g)) (am_at am_c_Pl_weightOn 54) 54 [some (.ref (a + 2)), some (.int (nI p)), some (.ref a), some (.int el), some (.int s'), some (.int (nI k)), w'] [] (I, J, am_Rf f g) := by
      intro s' w' hs'
      refine j_Pl_weightOn ?_
      rw [show nI k + 1 = nI (k + 1) from nI_1 k]
      exact ih (k + 1) s' w' (by omega) hs'
    refine br_f (nI_ge (a := k) (b := 12) (by omega) (by omega)) ?_
    refine ⟨a + 4, hS.2.2.1.1, hS.2.2.1.2.2.1, 4, p, hS.2.2.2.2.1, hp, rfl, a + 5 + p, pS.1.1, 12, k, pS.1.2, by omega, rfl, fun h1 => ?_, fun h1 => ?_⟩
    · refine j_Pl_weightOn (step _ _ ?_)
      rw [fo_s, ← hs]
      unfold wof
      rw [if_neg (fun q => q.1 h1)]
    · refine ⟨hS.1.1, (ev_placeOf hS hM h12 _).rt ⟨fun h2 => ?_, fun h2 => ?_⟩⟩
      · refine j_Pl_weightOn (step _ _ ?_)
        have h3 := (oi_neg (fun k hk => by have := (fi_some hk).1; omega)).mp h2
        rw [fo_s, ← hs]
        unfold wof
        rw [if_neg (fun q => q.2 h3)]
      · refine ⟨a + 9, hS.2.2.1.1, hS.2.2.1.2.2.2, 4, p, hS.2.2.2.2.2.1, hp, rfl, a + 10 + p, pS.2.1, 12, k, pS.2.2, by omega, rfl, ?_⟩
        refine step _ _ ?_
        have h3 : ¬ fi (fun j => decide (I (a + 1) j = I (a + 5 + p) k)) M = none := fun q => h2 ((oi_neg (fun k hk => by have := (fi_some hk).1; omega)).mpr q)
        rw [fo_s, ← hs]
        unfold wof
        rw [if_pos ⟨h1, h3⟩]
theorem ev_weightOn {M p : Nat} {el : Int32} (hS : St f g a) (hM : I a 1 = nI M) (h12 : M ≤ 12) (hp : p < 4) : am_ev am_sh m_Pl_weightOn [.ref (a + 2), .int (nI p), .ref a, .int el] (I, J, am_Rf f g) (Rt (.int (fo (wof I a M p el) 0 12)) (I, J, am_Rf f g)) := s_Pl_weightOn (j_Pl_weightOn (lp_weightOn hS hM h12 hp 12 0 _ _ rfl rfl))
def gwt (I : Nat → Nat → Int32) (a M p : Nat) (e : Nat) (x : Int32) : Int32 := if x < fo (wof I a M p ((1 : Int32) <<< (nI e &&& 31))) 0 12 then fo (wof I a M p ((1 : Int32) <<< (nI e &&& 31))) 0 12 else x
theorem lp_greatest {M p N : Nat} (hS : St f g a) (hM : I a 1 = nI M) (h12 : M ≤ 12) (hp : p < 4) (hN : I a 0 = nI N) (h8 : N < 8) : ∀ n k s, n + k = N → s = fo (gwt I a M p) 0 k → am_u am_sh m_Pl_greatestWeight (Rt (.int (fo (gwt I a M p) 0 N)) (I, J, am_Rf f g)) (am_at am_c_Pl_greatestWeight 5) 5 [some (.ref (a + 2)), some (.int (nI p)), some (.ref a), some (.int s), some (.int (nI k))] [] (I, J, am_Rf f g) := by
  intro n
  induction n with
  | zero =>
    intro k s hk hs
    obtain rfl : k = N := by omega
    rw [hs]
    exact ⟨hS.1.1, br_t (by rw [hN]; exact nI_le (by omega) (by omega)) (j_Pl_greatestWeight ⟨rfl, rfl⟩)⟩
  | succ n ih =>
    intro k s hk hs
    refine ⟨hS.1.1, br_f (by rw [hN]; exact nI_ge (by omega) (by omega)) ⟨hS.2.2.1.1, (ev_weightOn hS hM h12 hp).rt ?_⟩⟩
    refine j_Pl_greatestWeight ?_
    rw [show nI k + 1 = nI (k + 1) from nI_1 k]
    exact ih (k + 1) _ (by omega) (by rw [fo_s (gwt I a M p), ← hs]; rfl)
theorem ev_greatest {M p N : Nat} (hS : St f g a) (hM : I a 1 = nI M) (h12 : M ≤ 12) (hp : p < 4) (hN : I a 0 = nI N) (h8 : N < 8) : am_ev am_sh m_Pl_greatestWeight [.ref (a + 2), .int (nI p), .ref a] (I, J, am_Rf f g) (Rt (.int (fo (gwt I a M p) 0 N)) (I, J, am_Rf f g)) := s_Pl_greatestWeight (j_Pl_greatestWeight (lp_greatest hS hM h12 hp hN h8 N 0 _ rfl rfl))
end WEIGH
