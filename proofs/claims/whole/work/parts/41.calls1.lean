/-! calls on both: seed, undo, type -/
section T1
theorem Rr.draw {I I' : Nat → Nat → Int32} {a : Nat} {ρ ρ' : Nat → Int32} {n M K : Nat} {gs : Nat → Nat} (h : Rr I a ρ n M K gs) (hI : ∀ c k, a ≤ c → c ≤ a + 13 → ¬ (c = a ∧ k = 3) → I' c k = I c k) (hρ : ∀ i, i < 116 → i ≠ 2 → ρ' i = ρ i) (hd : I' a 3 = ρ' 2 ∧ 0 ≤ ρ' 2) : Rr I' a ρ' n M K gs := by
  obtain ⟨h1, h2, h3, h4, h5, h6, h7, h8, h9⟩ := h
  refine ⟨?_, ?_, fun k hk => ?_, h4, hd, ?_, fun p hp => ?_, fun p i hp hi => ?_, fun p q hp hq => ?_⟩
  · rw [hI a 0 (by omega) (by omega) (by omega), hρ 0 (by omega) (by omega)]; exact h1
  · rw [hI a 1 (by omega) (by omega) (by omega), hρ 1 (by omega) (by omega)]; exact h2
  · rw [hI (a + 1) k (by omega) (by omega) (by omega), hρ (4 + k) (by omega) (by omega)]; exact h3 k hk
  · rw [hI (a + 2) 0 (by omega) (by omega) (by omega), hρ 3 (by omega) (by omega)]; exact h6
  · obtain ⟨g1, g2⟩ := h7 p hp
    refine ⟨by rw [hI (a + 3) p (by omega) (by omega) (by omega), hρ (16 + 25 * p) (by omega) (by omega)]; exact g1, fun i hi => ?_⟩
    rw [hI (a + 5 + p) i (by omega) (by omega) (by omega), hI (a + 10 + p) i (by omega) (by omega) (by omega), hρ (16 + 25 * p + 1 + i) (by omega) (by omega), hρ (16 + 25 * p + 13 + i) (by omega) (by omega)]
    exact g2 i hi
  · rw [hρ (16 + 25 * p + 1 + i) (by omega) (by omega), hρ (16 + 25 * p + 13 + i) (by omega) (by omega)]; exact h8 p i hp hi
  · rw [hρ (16 + 25 * p) (by omega) (by omega), hρ (16 + 25 * q) (by omega) (by omega)]; exact h9 p q hp hq
theorem up_cell {α : Type} {I : Nat → Nat → α} {a k c : Nat} {v : α} (h : c ≠ a) : am_up I a k v c = I c := by
  funext j
  exact am_up_ne (by omega)
theorem row_cell {α : Type} {I : Nat → Nat → α} {b c : Nat} {G : Nat → α} (h : c ≠ b) : am_row I b G c = I c := by
  funext j
  exact am_row_ne h j
theorem T_seed (x : Int32) {σ : am_S} (h : Inv σ) : Both m_MG_seed m_MD_seed [.int x] σ := by
  obtain ⟨I, J, f, g, rfl, ⟨n, M, K, gs, hR⟩, hrest⟩ := h
  refine s_MG_seed ⟨fun h1 => j_MG_seed ?_, fun h1 => ⟨-1, rfl, s_MD_seed ⟨fun h2 => absurd h2 h1, fun _ => ⟨rfl, I, J, f, g, rfl, ⟨n, M, K, gs, hR⟩, hrest⟩⟩⟩⟩
  refine ⟨1, rfl, rfl, rfl, 1, rfl, rfl, rfl, I 1 3, rfl, s_MD_seed ⟨fun _ => j_MD_seed ⟨237, rfl, rfl, 116, 2, rfl, by omega, rfl, 237, rfl, rfl, 116, 2, rfl, by omega, rfl, ?_⟩, fun h2 => absurd h1 h2⟩⟩
  refine ⟨?_, _, J, f, g, rfl, ⟨n, M, K, gs, hR.draw (fun c k c1 c2 c3 => ?_) (fun i hi hn => ?_) ?_⟩, hrest.sn ⟨fun c c1 c2 c3 c4 => ?_, ?_, ?_, ?_⟩⟩
  · show some (Value.int (am_up I 1 3 x 237 2)) = _
    rw [am_up_ne (by omega), hR.2.2.2.2.1.1]
  · rw [am_up_ne (by omega), am_up_ne (by omega)]
  · rw [am_up_ne (by omega), am_up_ne (by omega)]
  · refine ⟨?_, ?_⟩
    · rw [am_up_ne (by omega), am_up_eq, am_up_eq]
    · rw [am_up_eq]; exact h1
  · rw [up_cell c3, up_cell (by omega)]
  · rw [up_cell (by omega), up_cell (by omega)]
  · rw [up_cell (by omega), up_cell (by omega)]
  · rw [up_cell (by omega), up_cell (by omega)]
end T1
