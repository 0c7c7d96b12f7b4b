/-! what: the reference's tests of a row -/
section T22
variable {f g : Nat → Nat} {I : Nat → Nat → Int32} {J : Nat → Nat → Int64} {A N : Nat} {vs : Nat → Nat}
/-- the row from A on, as it is taken -/
def Vr (J : Nat → Nat → Int64) (A N : Nat) (vs : Nat → Nat) : Prop := A + N ≤ 96 ∧ N ≤ 12 ∧ ∀ k, k < N → (J 253 (A + k)).toInt32 = nI (vs k) ∧ 1 ≤ vs k ∧ vs k < 128
theorem ev_row {k : Nat} (hV : Vr J A N vs) (hk : k < N) : am_ev am_sh m_MD_row [.ref 236, .int (nI A), .int (nI k)] (I, J, am_Rf f g) (Rt (.int (nI (vs k))) (I, J, am_Rf f g)) := by
  refine s_MD_row ⟨253, rfl, rfl, 96, A + k, rfl, by have := hV.1; omega, nI_add A k, ?_, rfl⟩
  show some (Value.int (J 253 (A + k)).toInt32) = _
  rw [(hV.2.2 k hk).1]
def tw (w a b : Nat) : Bool := if w = 0 then !decide (nI (a &&& b) = 0) else if w = 1 then !sb a b else decide (pc7 a = pc7 b)
theorem lp_two2 {w i : Nat} {a0 : Bool} {q : am_Q} (hV : Vr J A N vs) (hw : w < 3) (hi : i < N) (hq : ∀ w7 w8 w9, am_run am_sh m_MD_ofTwo q 132 [some (.ref 236), some (.int (nI A)), some (.int (nI N)), some (.int (nI w)), some (.int (b2i (a0 && ba (fun k => Nat.beq i k || tw w (vs i) (vs k)) N))), some (.int (nI i)), some (.int (nI N)), w7, w8, w9] [] (I, J, am_Rf f g)) : ∀ m k v w7 w8 w9, m + k = N → v = b2i (a0 && ba (fun k => Nat.beq i k || tw w (vs i) (vs k)) k) → am_u am_sh m_MD_ofTwo q (am_at am_c_MD_ofTwo 15) 15 [some (.ref 236), some (.int (nI A)), some (.int (nI N)), some (.int (nI w)), some (.int v), some (.int (nI i)), some (.int (nI k)), w7, w8, w9] [] (I, J, am_Rf f g) := by
  have hN := hV.2.1
  intro m
  induction m with
  | zero =>
    intro k v w7 w8 w9 hk hv
    obtain rfl : k = N := by omega
    subst hv
    exact br_t (nI_le (by omega) (by omega)) (hq _ _ _)
  | succ m ih =>
    intro k v w7 w8 w9 hk hv
    refine br_f (nI_ge (by omega) (by omega)) ⟨rfl, (ev_row hV hi).rt ⟨rfl, (ev_row hV (by omega)).rt ?_⟩⟩
    obtain ⟨_, a1, a2⟩ := hV.2.2 i hi
    obtain ⟨_, b1, b2⟩ := hV.2.2 k (by omega)
    have nx : ∀ v' w7 w8 w9, v' = b2i ((a0 && ba (fun k => Nat.beq i k || tw w (vs i) (vs k)) k) && (Nat.beq i k || tw w (vs i) (vs k))) → am_u am_sh m_MD_ofTwo q (am_at am_c_MD_ofTwo 15) 15 [some (.ref 236), some (.int (nI A)), some (.int (nI N)), some (.int (nI w)), some (.int v'), some (.int (nI i)), some (.int (nI k + 1)), w7, w8, w9] [] (I, J, am_Rf f g) := fun v' w7 w8 w9 hv' => by
      rw [nI_1]
      refine ih (k + 1) v' w7 w8 w9 (by omega) ?_
      rw [ba_s, ← Bool.and_assoc]
      exact hv'
    have tail : am_u am_sh m_MD_ofTwo q (am_at am_c_MD_ofTwo 100) 100 [some (.ref 236), some (.int (nI A)), some (.int (nI N)), some (.int (nI w)), some (.int v), some (.int (nI i)), some (.int (nI k)), some (.int (nI (vs i))), some (.int (nI (vs k))), w9] [.int (b2i (tw w (vs i) (vs k)))] (I, J, am_Rf f g) := by
      refine ⟨fun h1 => j_MD_ofTwo (j_MD_ofTwo (nx _ _ _ _ ?_)), fun h1 => ⟨fun h2 => j_MD_ofTwo (j_MD_ofTwo (j_MD_ofTwo (nx _ _ _ _ ?_))), fun h2 => ⟨fun h3 => j_MD_ofTwo (j_MD_ofTwo (nx _ _ _ _ ?_)), fun h3 => j_MD_ofTwo (j_MD_ofTwo (nx _ _ _ _ ?_))⟩⟩⟩
      · rw [hv, b2i_eq0] at h1
        rw [h1]
        rfl
      · rw [hv, b2i_ne0] at h1
        have : i = k := (nI_eq (by omega) (by omega)).mp h2
        rw [h1, this, beq_rf]
        rfl
      · rw [b2i_eq0.mp h3, nbq (fun e => h2 (by rw [e]))]
        rw [Bool.or_false, Bool.and_false]
        rfl
      · rw [hv, b2i_ne0] at h1
        rw [h1, b2i_ne0.mp h3, Bool.or_true]
        rfl
    rcases (show w = 0 ∨ w = 1 ∨ w = 2 by omega) with rfl | rfl | rfl
    · refine ⟨fun q => absurd rfl q, fun _ => ?_⟩
      refine ⟨fun h1 => j_MD_ofTwo (j_MD_ofTwo ?_), fun h1 => j_MD_ofTwo ?_⟩
      · have e : tw 0 (vs i) (vs k) = false := by
          rw [nI_and] at h1
          unfold tw
          rw [if_pos rfl, decide_eq_true h1]
          rfl
        rw [e] at tail
        exact tail
      · have e : tw 0 (vs i) (vs k) = true := by
          rw [nI_and] at h1
          unfold tw
          rw [if_pos rfl, decide_eq_false h1]
          rfl
        rw [e] at tail
        exact tail
    · refine ⟨fun _ => j_MD_ofTwo ⟨fun q => absurd rfl q, fun _ => ?_⟩, fun q => absurd q (by decide)⟩
      have e0 : tw 1 (vs i) (vs k) = !sb (vs i) (vs k) := rfl
      refine ⟨fun h1 => j_MD_ofTwo (j_MD_ofTwo ?_), fun h1 => j_MD_ofTwo ?_⟩
      · rw [e0, (sb_tab _ a2 _ b2).mp h1] at tail
        exact tail
      · have : sb (vs i) (vs k) = false := by
          cases h : sb (vs i) (vs k) with
          | false => rfl
          | true => exact absurd ((sb_tab _ a2 _ b2).mpr h) h1
        rw [e0, this] at tail
        exact tail
    · refine ⟨fun _ => j_MD_ofTwo ⟨fun _ => j_MD_ofTwo ((ev_bits (by omega) _).rt ((ev_bits (by omega) _).rt ?_)), fun q => absurd q (by decide)⟩, fun q => absurd q (by decide)⟩
      rw [pc12_7 _ a2, pc12_7 _ b2]
      have e0 : tw 2 (vs i) (vs k) = decide (pc7 (vs i) = pc7 (vs k)) := rfl
      have p1 := pc7_le _ a2
      have p2 := pc7_le _ b2
      refine ⟨fun h1 => j_MD_ofTwo ?_, fun h1 => j_MD_ofTwo ?_⟩
      · rw [e0, decide_eq_false (fun e => h1 (by rw [e]))] at tail
        exact tail
      · rw [e0, decide_eq_true ((nI_eq (by omega) (by omega)).mp h1)] at tail
        exact tail
theorem lp_two {w : Nat} {q : am_Q} (hV : Vr J A N vs) (hw : w < 3) (hq : q (some (.int (b2i (ba (fun i => ba (fun k => Nat.beq i k || tw w (vs i) (vs k)) N) N)))) (I, J, am_Rf f g)) : ∀ m i v w6 w7 w8 w9, m + i = N → v = b2i (ba (fun i => ba (fun k => Nat.beq i k || tw w (vs i) (vs k)) N) i) → am_u am_sh m_MD_ofTwo q (am_at am_c_MD_ofTwo 6) 6 [some (.ref 236), some (.int (nI A)), some (.int (nI N)), some (.int (nI w)), some (.int v), some (.int (nI i)), w6, w7, w8, w9] [] (I, J, am_Rf f g) := by
  have hN := hV.2.1
  intro m
  induction m with
  | zero =>
    intro i v w6 w7 w8 w9 hk hv
    obtain rfl : i = N := by omega
    subst hv
    exact br_t (nI_le (by omega) (by omega)) (j_MD_ofTwo ⟨b2i_01 _, hq⟩)
  | succ m ih =>
    intro i v w6 w7 w8 w9 hk hv
    refine br_f (nI_ge (by omega) (by omega)) (j_MD_ofTwo (lp_two2 (a0 := ba (fun i => ba (fun k => Nat.beq i k || tw w (vs i) (vs k)) N) i) hV hw (by omega) (fun w7 w8 w9 => j_MD_ofTwo (j_MD_ofTwo ?_)) N 0 v _ _ _ (by omega) ?_))
    · rw [nI_1]
      refine ih (i + 1) _ _ _ _ _ (by omega) ?_
      rw [ba_s]
    · rw [hv, show ba (fun k => Nat.beq i k || tw w (vs i) (vs k)) 0 = true from rfl, Bool.and_true]
theorem ev_ofTwo {w : Nat} (hV : Vr J A N vs) (hw : w < 3) : am_ev am_sh m_MD_ofTwo [.ref 236, .int (nI A), .int (nI N), .int (nI w)] (I, J, am_Rf f g) (Rt (.int (b2i (ba (fun i => ba (fun k => Nat.beq i k || tw w (vs i) (vs k)) N) N))) (I, J, am_Rf f g)) :=
  s_MD_ofTwo (j_MD_ofTwo (lp_two hV hw ⟨rfl, rfl⟩ N 0 _ _ _ _ _ (by omega) rfl))
end T22
