/-! the class's Sheets -/
/-- a Sheet stands at b, its row behind it -/
def Shd (f g : Nat → Nat) (b : Nat) : Prop := am_sh[b]? = some (7, 0) ∧ am_Rf f g b 3 = some (b + 1) ∧ am_sh[b + 1]? = some (15, 24)
theorem Shd_of {f g : Nat → Nat} {t : Nat} (h : t < 4) : Shd f g (228 + 2 * t) := by
  rcases (show t = 0 ∨ t = 1 ∨ t = 2 ∨ t = 3 by omega) with rfl | rfl | rfl | rfl <;> exact ⟨rfl, rfl, rfl⟩
def low (lane : Int32) (v : Int64) : Int64 := if lane = 0 then v.toInt32.toInt8.toInt32.toInt64 else if lane = 1 then v.toInt32.toInt16.toInt32.toInt64 else if lane = 2 then v.toInt32.toInt64 else v
def spn (x n : Int32) (L : Nat) : Bool := decide (0 ≤ x ∧ x ≤ nI L ∧ 0 ≤ n ∧ n ≤ nI L - x)
section SHEET
variable {f g : Nat → Nat} {b : Nat} {I : Nat → Nat → Int32} {J : Nat → Nat → Int64}
theorem ev_low (hS : Shd f g b) (v : Int64) : am_ev am_sh m_Sh_lowestBits [.ref b, .long v] (I, J, am_Rf f g) (Rt (.long (low (I b 1) v)) (I, J, am_Rf f g)) := by
  refine s_Sh_lowestBits ⟨hS.1, j_Sh_lowestBits ⟨fun h => ?_, fun h => ⟨fun h1 => ?_, fun h1 => ⟨fun h2 => ?_, fun h2 => ?_⟩⟩⟩⟩
  · refine j_Sh_lowestBits ⟨?_, rfl⟩
    unfold low
    rw [if_pos h]
  · refine j_Sh_lowestBits ⟨?_, rfl⟩
    unfold low
    rw [if_neg h, if_pos h1]
  · refine j_Sh_lowestBits ⟨?_, rfl⟩
    unfold low
    rw [if_neg h, if_neg h1, if_pos h2]
  · refine j_Sh_lowestBits ⟨?_, rfl⟩
    unfold low
    rw [if_neg h, if_neg h1, if_neg h2]
theorem ev_spans {L : Nat} (hS : Shd f g b) (hL : I b 2 = nI L) (x n : Int32) : am_ev am_sh m_Sh_spans [.ref b, .int x, .int n] (I, J, am_Rf f g) (Rt (.int (b2i (spn x n L))) (I, J, am_Rf f g)) := by
  have no : ¬ (0 ≤ x ∧ x ≤ nI L ∧ 0 ≤ n ∧ n ≤ nI L - x) → am_run am_sh m_Sh_spans (Rt (.int (b2i (spn x n L))) (I, J, am_Rf f g)) 30 [some (.ref b), some (.int x), some (.int n)] [] (I, J, am_Rf f g) := by
    intro h
    refine j_Sh_spans ⟨Or.inl rfl, ?_, rfl⟩
    unfold spn
    rw [decide_eq_false h]
    rfl
  refine s_Sh_spans ⟨fun h1 => no (fun q => absurd h1 (Int32.not_lt.mpr q.1)), fun h1 => ⟨hS.1, fun h2 => no (fun q => ?_), fun h2 => ⟨fun h3 => no (fun q => absurd h3 (Int32.not_lt.mpr q.2.2.1)), fun h3 => ⟨hS.1, fun h4 => no (fun q => ?_), fun h4 => ?_⟩⟩⟩⟩
  · rw [hL] at h2
    exact absurd h2 (Int32.not_lt.mpr q.2.1)
  · rw [hL] at h4
    exact absurd h4 (Int32.not_lt.mpr q.2.2.2)
  · rw [hL] at h2 h4
    refine j_Sh_spans ⟨Or.inr rfl, ?_, rfl⟩
    unfold spn
    rw [decide_eq_true ⟨Int32.not_lt.mp h1, Int32.not_lt.mp h2, Int32.not_lt.mp h3, Int32.not_lt.mp h4⟩]
    rfl
/-- why items can't be taken; 0: they can -/
def rfs (there lane : Int32) (L : Nat) (as x n : Int32) : Int32 := if there = 0 then -11 else if ¬ lane = as then -12 else if spn x n L = true then 0 else -13
theorem ev_refusal {L : Nat} (hS : Shd f g b) (hL : I b 2 = nI L) (as x n : Int32) : am_ev am_sh m_Sh_refusal [.ref b, .int as, .int x, .int n] (I, J, am_Rf f g) (Rt (.int (rfs (I b 0) (I b 1) L as x n)) (I, J, am_Rf f g)) := by
  refine s_Sh_refusal ⟨hS.1, fun h1 => j_Sh_refusal ⟨hS.1, fun h2 => j_Sh_refusal ⟨hS.1, (ev_spans hS hL x n).rt ⟨fun h3 => ?_, fun h3 => ?_⟩⟩, fun h2 => ⟨?_, rfl⟩⟩, fun h1 => ⟨?_, rfl⟩⟩
  · refine j_Sh_refusal ⟨?_, rfl⟩
    unfold rfs
    rw [if_neg h1, if_neg (fun q => q h2), b2i_eq0.mp h3]
    rfl
  · refine j_Sh_refusal ⟨?_, rfl⟩
    unfold rfs
    rw [if_neg h1, if_neg (fun q => q h2), if_pos (b2i_ne0.mp h3)]
  · unfold rfs
    rw [if_neg h1, if_pos h2]
  · unfold rfs
    rw [if_pos h1]
theorem ev_shAt {L i : Nat} (hS : Shd f g b) (hL : I b 2 = nI L) (h24 : L ≤ 24) (hi : i < L) : am_ev am_sh m_Sh_at [.ref b, .int (nI i)] (I, J, am_Rf f g) (Rt (.long (J (b + 1) i)) (I, J, am_Rf f g)) := by
  refine s_Sh_at (br_f (nI_pos (by omega)) ⟨hS.1, br_f (by rw [hL]; exact nI_ge hi (by omega)) ⟨b + 1, hS.1, hS.2.1, 24, i, hS.2.2, by omega, rfl, ?_⟩⟩)
  exact j_Sh_at ⟨rfl, rfl⟩
theorem ev_put {L i : Nat} (hS : Shd f g b) (hL : I b 2 = nI L) (h24 : L ≤ 24) (hi : i < L) (v : Int64) : am_ev am_sh m_Sh_put [.ref b, .int (nI i), .long v] (I, J, am_Rf f g) (Rv (I, am_up J (b + 1) i (low (I b 1) v), am_Rf f g)) := by
  refine s_Sh_put (br_f (nI_pos (by omega)) ⟨hS.1, br_f (by rw [hL]; exact nI_ge hi (by omega)) ⟨b + 1, hS.1, hS.2.1, hS.1, (ev_low hS v).rt ⟨24, i, hS.2.2, by omega, rfl, ?_⟩⟩⟩)
  exact ⟨rfl, rfl⟩
/-- the first k places are 0 -/
def zr (r : Nat → Int64) (k : Nat) : Nat → Int64 := fun j => if j < k then 0 else r j
theorem am_up_rowL {I : Nat → Nat → Int64} {b k : Nat} {G : Nat → Int64} {v : Int64} : am_up (am_row I b G) b k v = am_row I b (vp_updL G k v) := by
  funext c j
  by_cases h : c = b
  · subst h
    by_cases e : j = k
    · simp [am_up, am_row, vp_updL, e]
    · simp [am_up, am_row, vp_updL, e]
  · simp [am_up, am_row, h]
theorem am_row_idL {I : Nat → Nat → Int64} {b : Nat} : am_row I b (I b) = I := by
  funext c j
  by_cases h : c = b
  · subst h; simp [am_row]
  · simp [am_row, h]
theorem lp_begin {x y : Int32} {q : am_Q} (hS : Shd f g b) (hq : q none (I, am_row J (b + 1) (zr (J (b + 1)) 24), am_Rf f g)) : ∀ n k, n + k = 24 → am_u am_sh m_Sh_begin q (am_at am_c_Sh_begin 22) 22 [some (.ref b), some (.int x), some (.int y), some (.int (nI k))] [] (I, am_row J (b + 1) (zr (J (b + 1)) k), am_Rf f g) := by
  intro n
  induction n with
  | zero =>
    intro k hk
    obtain rfl : k = 24 := by omega
    exact br_t (by decide) (j_Sh_begin hq)
  | succ n ih =>
    intro k hk
    refine br_f (nI_ge (a := k) (b := 24) (by omega) (by omega)) ⟨b + 1, hS.1, hS.2.1, 24, k, hS.2.2, by omega, rfl, ?_⟩
    refine j_Sh_begin ?_
    rw [am_up_rowL, show nI k + 1 = nI (k + 1) from nI_1 k]
    have e : vp_updL (zr (J (b + 1)) k) k 0 = zr (J (b + 1)) (k + 1) := by
      funext j
      unfold vp_updL zr
      by_cases e : j = k
      · rw [if_pos e, if_pos (by omega)]
      · rw [if_neg e]
        by_cases h : j < k
        · rw [if_pos h, if_pos (by omega)]
        · rw [if_neg h, if_neg (by omega)]
    rw [e]
    exact ih (k + 1) (by omega)
theorem ev_begin {m : Nat} (hS : Shd f g b) (lane : Int32) (h24 : m ≤ 24) : am_ev am_sh m_Sh_begin [.ref b, .int lane, .int (nI m)] (I, J, am_Rf f g) (Rv (am_up (am_up (am_up I b 0 1) b 1 lane) b 2 (nI m), am_row J (b + 1) (zr (J (b + 1)) 24), am_Rf f g)) := by
  refine s_Sh_begin ⟨hS.1, Or.inr rfl, hS.1, hS.1, ?_⟩
  have e : (if (24 : Int32) < nI m then (24 : Int32) else nI m) = nI m := if_neg (nI_nlt (a := 24) (b := m) h24 (by omega))
  rw [e]
  refine j_Sh_begin ?_
  have h := lp_begin (I := am_up (am_up (am_up I b 0 1) b 1 lane) b 2 (nI m)) (J := J) (x := lane) (y := nI m) (q := Rv (am_up (am_up (am_up I b 0 1) b 1 lane) b 2 (nI m), am_row J (b + 1) (zr (J (b + 1)) 24), am_Rf f g)) hS ⟨rfl, rfl⟩ 24 0 rfl
  have e2 : zr (J (b + 1)) 0 = J (b + 1) := by
    funext j
    unfold zr
    rw [if_neg (by omega)]
  rw [e2, am_row_idL] at h
  exact h
end SHEET
