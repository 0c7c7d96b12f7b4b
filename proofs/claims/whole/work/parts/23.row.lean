/-! the class's Row (it stands at 225, its numbers at 226) and Tape (203, 204) -/
theorem lgc_lt {x y : Int64} : lg_cmp x y < 0 ↔ x < y := by
  unfold lg_cmp
  by_cases h : x > y
  · rw [if_pos h]
    exact ⟨fun q => absurd q (by decide), fun q => absurd q (Int64.not_lt.mpr (Int64.le_of_lt h))⟩
  · rw [if_neg h]
    by_cases e : x = y
    · rw [if_pos e]
      exact ⟨fun q => absurd q (by decide), fun q => by rw [e] at q; exact absurd q (Int64.lt_irrefl)⟩
    · rw [if_neg e]
      exact ⟨fun _ => Int64.lt_of_le_of_ne (Int64.not_lt.mp h) e, fun _ => by decide⟩
theorem lgc_le {x y : Int64} : lg_cmp x y ≤ 0 ↔ x ≤ y := by
  unfold lg_cmp
  by_cases h : x > y
  · rw [if_pos h]
    exact ⟨fun q => absurd q (by decide), fun q => absurd h (Int64.not_lt.mpr q)⟩
  · rw [if_neg h]
    by_cases e : x = y
    · rw [if_pos e]
      exact ⟨fun _ => by rw [e]; exact Int64.le_refl _, fun _ => by decide⟩
    · rw [if_neg e]
      exact ⟨fun _ => Int64.not_lt.mp h, fun _ => by decide⟩
/-- all places below n -/
def ba (P : Nat → Bool) (n : Nat) : Bool := !bx (fun k => !P k) n
theorem ba_iff {P : Nat → Bool} {n : Nat} : ba P n = true ↔ ∀ k, k < n → P k = true := by
  unfold ba
  rw [Bool.not_eq_true', bx_false]
  constructor
  · intro h k hk
    have := h k hk
    simpa using this
  · intro h k hk
    simp [h k hk]
theorem ba_no {P : Nat → Bool} {n k : Nat} (hk : k < n) (h : P k = false) : ba P n = false := by
  cases e : ba P n with
  | false => rfl
  | true =>
    rw [ba_iff.mp e k hk] at h
    cases h
/-- nothing but the row's cells has changed -/
def Rw (I' I : Nat → Nat → Int32) : Prop := ∀ c, c ≠ 225 → c ≠ 226 → I' c = I c
/-- the row has taken N numbers v -/
def Tk (I : Nat → Nat → Int32) (N : Nat) (v : Nat → Int32) : Prop := I 225 1 = nI N ∧ ∀ k, k < N → I 226 k = v k
section ROW
variable {f g : Nat → Nat} {b : Nat} {I : Nat → Nat → Int32} {J : Nat → Nat → Int64}
/-- whether an item may be taken -/
def okn (r : Nat → Int64) (p : Nat) (lo hi : Int32) (k : Nat) : Bool := decide (lo.toInt64 ≤ r (p + k) ∧ r (p + k) ≤ hi.toInt64)
theorem lp_takes {L p N : Nat} {lo hi : Int32} (hS : Shd f g b) (hb : b + 1 < 225 ∨ 226 < b) (hL : I b 2 = nI L) (h24 : L ≤ 24) (hp : p + N ≤ L) (h12 : N ≤ 12) : ∀ n k (I' : Nat → Nat → Int32) w w2, n + k = N → (∀ j, j < k → okn (J (b + 1)) p lo hi j = true) → I' 225 1 = nI N → (∀ j, j < k → I' 226 j = (J (b + 1) (p + j)).toInt32) → Rw I' I → am_u am_sh m_Ro_takes (fun r σ' => r = some (.int (b2i (ba (okn (J (b + 1)) p lo hi) N))) ∧ ∃ I', σ' = (I', J, am_Rf f g) ∧ Rw I' I ∧ (ba (okn (J (b + 1)) p lo hi) N = true → Tk I' N (fun j => (J (b + 1) (p + j)).toInt32))) (am_at am_c_Ro_takes 13) 13 [some (.ref 225), some (.ref b), some (.int (nI p)), some (.int (nI N)), some (.int lo), some (.int hi), some (.int (nI k)), w, w2] [] (I', J, am_Rf f g) := by
  intro n
  induction n with
  | zero =>
    intro k I' w w2 hk h0 h1 h2 h3
    obtain rfl : k = N := by omega
    refine ⟨rfl, br_t (by rw [h1]; exact nI_le (by omega) (by omega)) (j_Ro_takes ⟨Or.inr rfl, ?_, I', rfl, h3, fun _ => ⟨h1, h2⟩⟩)⟩
    rw [ba_iff.mpr h0]
    rfl
  | succ n ih =>
    intro k I' w w2 hk h0 h1 h2 h3
    have hL' : I' b 2 = nI L := by rw [h3 b (by omega) (by omega), hL]
    refine ⟨rfl, br_f (by rw [h1]; exact nI_ge (by omega) (by omega)) ⟨hS.1, ?_⟩⟩
    rw [nI_add]
    refine (ev_shAt hS hL' h24 (by omega)).rt ?_
    have bad : okn (J (b + 1)) p lo hi k = false → am_u am_sh m_Ro_takes (fun r σ' => r = some (.int (b2i (ba (okn (J (b + 1)) p lo hi) N))) ∧ ∃ I', σ' = (I', J, am_Rf f g) ∧ Rw I' I ∧ (ba (okn (J (b + 1)) p lo hi) N = true → Tk I' N (fun j => (J (b + 1) (p + j)).toInt32))) (am_at am_c_Ro_takes 50) 50 [some (.ref 225), some (.ref b), some (.int (nI p)), some (.int (nI N)), some (.int lo), some (.int hi), some (.int (nI k)), some (.long (J (b + 1) (p + k))), none] [] (I', J, am_Rf f g) := by
      intro q
      have hb := ba_no (n := N) (by omega) q
      refine ⟨Or.inl rfl, ?_, I', rfl, h3, fun z => ?_⟩
      · rw [hb]
        rfl
      · rw [hb] at z
        cases z
    refine ⟨fun h4 => j_Ro_takes (bad ?_), fun h4 => ⟨fun h5 => j_Ro_takes ?_, fun h5 => bad ?_⟩⟩
    · unfold okn
      exact decide_eq_false (fun q => absurd (lgc_lt.mp h4) (Int64.not_lt.mpr q.1))
    · refine ⟨226, rfl, rfl, 12, k, rfl, by omega, rfl, ?_⟩
      refine j_Ro_takes ?_
      rw [show nI k + 1 = nI (k + 1) from nI_1 k]
      refine ih (k + 1) _ _ _ (by omega) (fun j hj => ?_) ?_ (fun j hj => ?_) (fun c c1 c2 => ?_)
      · by_cases e : j = k
        · subst e
          unfold okn
          exact decide_eq_true ⟨Int64.not_lt.mp (fun q => h4 (lgc_lt.mpr q)), lgc_le.mp h5⟩
        · exact h0 j (by omega)
      · rw [am_up_ne (by omega), h1]
      · by_cases e : j = k
        · subst e
          rw [am_up_eq]
        · rw [am_up_ne (by omega), h2 j (by omega)]
      · funext i
        rw [am_up_ne (by omega), h3 c c1 c2]
    · unfold okn
      exact decide_eq_false (fun q => h5 (lgc_le.mpr q.2))
theorem ev_takes {L p N : Nat} {lo hi : Int32} (hS : Shd f g b) (hb : b + 1 < 225 ∨ 226 < b) (hL : I b 2 = nI L) (h24 : L ≤ 24) (hp : p + N ≤ L) (h12 : N ≤ 12) : am_ev am_sh m_Ro_takes [.ref 225, .ref b, .int (nI p), .int (nI N), .int lo, .int hi] (I, J, am_Rf f g) (fun r σ' => r = some (.int (b2i (ba (okn (J (b + 1)) p lo hi) N))) ∧ ∃ I', σ' = (I', J, am_Rf f g) ∧ Rw I' I ∧ (ba (okn (J (b + 1)) p lo hi) N = true → Tk I' N (fun j => (J (b + 1) (p + j)).toInt32))) := by
  refine s_Ro_takes ⟨rfl, ?_⟩
  have e : (if (12 : Int32) < nI N then (12 : Int32) else nI N) = nI N := if_neg (nI_nlt (a := 12) (b := N) h12 (by omega))
  rw [e]
  refine j_Ro_takes (lp_takes hS hb hL h24 hp h12 N 0 _ _ _ rfl (fun j hj => by omega) am_up_eq (fun j hj => by omega) (fun c c1 _ => ?_))
  funext i
  rw [am_up_ne (by omega)]
end ROW
