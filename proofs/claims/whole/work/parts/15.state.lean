/-! the class's State: what each method answers -/
abbrev Rt (v : Value) (σ : am_S) : am_Q := fun r σ' => r = some v ∧ σ' = σ
abbrev Rv (σ : am_S) : am_Q := fun r σ' => r = none ∧ σ' = σ
theorem am_ev.rt {y : Nat} {as : List Value} {σ σ1 : am_S} {v : Value} {K : am_Q} (h : am_ev am_sh y as σ (Rt v σ1)) (k : K (some v) σ1) : am_ev am_sh y as σ K := h.mono (fun r σ' q => by obtain ⟨rfl, rfl⟩ := q; exact k)
theorem am_ev.rv {y : Nat} {as : List Value} {σ σ1 : am_S} {K : am_Q} (h : am_ev am_sh y as σ (Rv σ1)) (k : K none σ1) : am_ev am_sh y as σ K := h.mono (fun r σ' q => by obtain ⟨rfl, rfl⟩ := q; exact k)
def ush (x y : Int32) : Int32 := (x.toUInt32 >>> (y.toUInt32 &&& Int32.toUInt32 31)).toInt32
def bc1 (i : Int32) : Int32 := i - (ush i 1 &&& 1431655765)
def bc2 (i : Int32) : Int32 := (i &&& 858993459) + (ush i 2 &&& 858993459)
def bc3 (i : Int32) : Int32 := (i + ush i 4) &&& 252645135
def bc4 (i : Int32) : Int32 := i + ush i 8
def bc5 (i : Int32) : Int32 := i + ush i 16
def bc (x : Int32) : Int32 := bc5 (bc4 (bc3 (bc2 (bc1 x)))) &&& 63
theorem bc_tab : ∀ x, x < 128 → bc (nI x) = nI (pc7 x) := by decide +kernel
theorem ev_bc (x : Int32) (σ : am_S) : am_ev am_sh m_J6_bitCount [.int x] σ (Rt (.int (bc x)) σ) := by
  obtain ⟨I, J, R⟩ := σ
  exact s_J6_bitCount ⟨rfl, rfl⟩
/-- a State with its groups and plans stands at a -/
def St (f g : Nat → Nat) (a : Nat) : Prop := (am_sh[a]? = some (8, 0) ∧ am_Rf f g a 2 = some (a + 1) ∧ am_Rf f g a 4 = some (a + 2)) ∧ am_sh[a + 1]? = some (14, 12) ∧ (am_sh[a + 2]? = some (3, 0) ∧ am_Rf f g (a + 2) 1 = some (a + 3) ∧ am_Rf f g (a + 2) 2 = some (a + 4) ∧ am_Rf f g (a + 2) 3 = some (a + 9)) ∧ am_sh[a + 3]? = some (14, 4) ∧ am_sh[a + 4]? = some (19, 4) ∧ am_sh[a + 9]? = some (19, 4) ∧ ∀ p, p < 4 → (am_Rf f g (a + 4) p = some (a + 5 + p) ∧ am_sh[a + 5 + p]? = some (14, 12)) ∧ am_Rf f g (a + 9) p = some (a + 10 + p) ∧ am_sh[a + 10 + p]? = some (14, 12)
/-- where the States stand -/
def Sta (a : Nat) : Prop := a = 1 ∨ a = 101 ∨ ∃ j, j < 6 ∧ (a = 17 + 14 * j ∨ a = 117 + 14 * j)
theorem St_of {f g : Nat → Nat} {a : Nat} (h : Sta a) : St f g a := by
  have key : ∀ b : Nat, (b = 1 ∨ b = 101 ∨ b = 17 ∨ b = 31 ∨ b = 45 ∨ b = 59 ∨ b = 73 ∨ b = 87 ∨ b = 117 ∨ b = 131 ∨ b = 145 ∨ b = 159 ∨ b = 173 ∨ b = 187) → St f g b := by
    intro b hb
    rcases hb with rfl | rfl | rfl | rfl | rfl | rfl | rfl | rfl | rfl | rfl | rfl | rfl | rfl | rfl <;>
      exact ⟨⟨rfl, rfl, rfl⟩, rfl, ⟨rfl, rfl, rfl, rfl⟩, rfl, rfl, rfl, fun p hp => by
        rcases (show p = 0 ∨ p = 1 ∨ p = 2 ∨ p = 3 by omega) with rfl | rfl | rfl | rfl <;> exact ⟨⟨rfl, rfl⟩, rfl, rfl⟩⟩
  refine key a ?_
  rcases h with h | h | ⟨j, hj, h⟩
  · omega
  · omega
  · omega
section STATE
variable {f g : Nat → Nat} {a : Nat} {I : Nat → Nat → Int32} {J : Nat → Nat → Int64}
theorem ev_all {n : Nat} (hS : St f g a) (hn : I a 0 = nI n) (h8 : n < 8) : am_ev am_sh m_St_all [.ref a] (I, J, am_Rf f g) (Rt (.int (nI (2 ^ n - 1))) (I, J, am_Rf f g)) := by
  refine s_St_all ⟨hS.1.1, ?_⟩
  show Rt _ _ (some (.int ((1 : Int32) <<< (I a 0 &&& 31) - 1))) _
  rw [hn, all_tab n h8]
  exact ⟨rfl, rfl⟩
theorem ev_isPart {n : Nat} (hS : St f g a) (hn : I a 0 = nI n) (h8 : n < 8) (x : Int32) : am_ev am_sh m_St_isPart [.ref a, .int x] (I, J, am_Rf f g) (Rt (.int (b2i (decide (0 ≤ x ∧ x ≤ nI (2 ^ n - 1))))) (I, J, am_Rf f g)) := by
  refine s_St_isPart ⟨fun hc => ?_, fun hc => ?_⟩
  · refine j_St_isPart ⟨Or.inl rfl, ?_, rfl⟩
    rw [decide_eq_false (fun q => absurd hc (Int32.not_lt.mpr q.1))]
    rfl
  · refine ⟨hS.1.1, (ev_all hS hn h8).rt ⟨fun hd => ?_, fun hd => ?_⟩⟩
    · refine j_St_isPart ⟨Or.inl rfl, ?_, rfl⟩
      rw [decide_eq_false (fun q => absurd hd (Int32.not_lt.mpr q.2))]
      rfl
    · refine j_St_isPart ⟨Or.inr rfl, ?_, rfl⟩
      rw [decide_eq_true ⟨Int32.not_lt.mp hc, Int32.not_lt.mp hd⟩]
      rfl
end STATE
