/-! whether a row is just the groups; what a row is; the tape -/
section JUST
variable {f g : Nat → Nat} {a : Nat} {I : Nat → Nat → Int32} {J : Nat → Nat → Int64} {N : Nat} {v : Nat → Int32}
def plc (G : Nat → Int32) (M : Nat) (x : Int32) : Option Nat := fi (fun k => decide (G k = x)) M
def fnd (G : Nat → Int32) (M : Nat) (v : Nat → Int32) (k : Nat) (s : Int32) : Int32 := s ||| (1 : Int32) <<< (oi (plc G M (v k)) &&& 31)
def jst (G : Nat → Int32) (M : Nat) (v : Nat → Int32) (N : Nat) : Bool := ba (fun k => (plc G M (v k)).isSome) N && decide (N = M) && decide (bc (fo (fnd G M v) 0 N) = nI N)
theorem lp_just {M : Nat} (hS : St f g a) (hM : I a 1 = nI M) (hM12 : M ≤ 12) (hT : Tk I N v) (h12 : N ≤ 12) : ∀ n k s w, n + k = N → s = fo (fnd (I (a + 1)) M v) 0 k → (∀ i, i < k → (plc (I (a + 1)) M (v i)).isSome = true) → am_u am_sh m_Ro_isJustGroups (Rt (.int (b2i (jst (I (a + 1)) M v N))) (I, J, am_Rf f g)) (am_at am_c_Ro_isJustGroups 4) 4 [some (.ref 225), some (.ref a), some (.int s), some (.int (nI k)), w] [] (I, J, am_Rf f g) := by
  intro n
  induction n with
  | zero =>
    intro k s w hk hs h0
    obtain rfl : k = N := by omega
    have hb : ba (fun k => (plc (I (a + 1)) M (v k)).isSome) k = true := ba_iff.mpr h0
    refine ⟨rfl, br_t (by rw [hT.1]; exact nI_le (by omega) (by omega)) (j_Ro_isJustGroups ⟨rfl, hS.1.1, fun h1 => j_Ro_isJustGroups ⟨Or.inl rfl, ?_, rfl⟩, fun h1 => (ev_bc _ _).rt ⟨rfl, fun h2 => j_Ro_isJustGroups ⟨Or.inl rfl, ?_, rfl⟩, fun h2 => ?_⟩⟩)⟩
    · rw [hT.1, hM] at h1
      unfold jst
      rw [decide_eq_false (fun q => h1 (by rw [q])), Bool.and_false, Bool.false_and]
      rfl
    · rw [hT.1, hs] at h2
      unfold jst
      rw [decide_eq_false h2, Bool.and_false]
      rfl
    · rw [hT.1, hM] at h1
      rw [hT.1, hs] at h2
      refine j_Ro_isJustGroups ⟨Or.inr rfl, ?_, rfl⟩
      unfold jst
      rw [hb, decide_eq_true ((nI_eq (by omega) (by omega)).mp h1), decide_eq_true h2]
      rfl
  | succ n ih =>
    intro k s w hk hs h0
    have e1 := hT.2 k (by omega)
    refine ⟨rfl, br_f (by rw [hT.1]; exact nI_ge (by omega) (by omega)) ⟨226, rfl, rfl, 12, k, rfl, by omega, rfl, hS.1.1, ?_⟩⟩
    have e2 : fi (fun j => decide (I (a + 1) j = I 226 k)) M = plc (I (a + 1)) M (v k) := by rw [e1]; rfl
    refine (ev_placeOf hS hM hM12 _).rt ⟨fun h1 => j_Ro_isJustGroups ?_, fun h1 => ⟨Or.inl rfl, ?_, rfl⟩⟩
    · refine j_Ro_isJustGroups ?_
      rw [show nI k + 1 = nI (k + 1) from nI_1 k]
      refine ih (k + 1) _ _ (by omega) (by rw [fo_s, ← hs, e2]; rfl) (fun i hi => ?_)
      by_cases e : i = k
      · subst e
        rw [e2] at h1
        cases hp : plc (I (a + 1)) M (v i) with
        | some z => rfl
        | none =>
          rw [hp] at h1
          exact absurd h1 (by decide)
      · exact h0 i (by omega)
    · rw [e2] at h1
      have hn : plc (I (a + 1)) M (v k) = none := by
        cases hp : plc (I (a + 1)) M (v k) with
        | none => rfl
        | some z =>
          rw [hp] at h1
          have := (fi_some hp).1
          exact absurd (nI_pos' (n := z) (by omega)) h1
      unfold jst
      rw [ba_no (P := fun k => (plc (I (a + 1)) M (v k)).isSome) (k := k) (by omega) (by rw [hn]; rfl)]
      rfl
theorem ev_just {M : Nat} (hS : St f g a) (hM : I a 1 = nI M) (hM12 : M ≤ 12) (hT : Tk I N v) (h12 : N ≤ 12) : am_ev am_sh m_Ro_isJustGroups [.ref 225, .ref a] (I, J, am_Rf f g) (Rt (.int (b2i (jst (I (a + 1)) M v N))) (I, J, am_Rf f g)) := s_Ro_isJustGroups (j_Ro_isJustGroups (lp_just hS hM hM12 hT h12 N 0 _ _ rfl rfl (fun _ h => by omega)))
def sl (b : Bool) (x : Int32) : Int32 := match b with
  | true => x
  | false => 0
def nat5 (b1 b2 b3 b4 b5 : Bool) : Int32 := sl b1 1 ||| sl b2 2 ||| sl b3 4 ||| sl b4 8 ||| sl b5 16
theorem ev_nature {M m : Nat} (hS : St f g a) (hM : I a 1 = nI M) (hM12 : M ≤ 12) (hm : I a 0 = nI m) (h8 : m < 8) (h1 : 1 ≤ m) (hT : Tk I N v) (h12 : N ≤ 12) (hN : 1 ≤ N) : am_ev am_sh m_Ro_nature [.ref 225, .ref a] (I, J, am_Rf f g) (Rt (.int (nat5 (any2 v N) (non2 v N) (one2 v N) (evn v N m) (jst (I (a + 1)) M v N))) (I, J, am_Rf f g)) := by
  have p5 : ∀ y : Int32, am_u am_sh m_Ro_nature (Rt (.int (y ||| sl (jst (I (a + 1)) M v N) 16)) (I, J, am_Rf f g)) (am_at am_c_Ro_nature 63) 63 [some (.ref 225), some (.ref a), some (.int y)] [] (I, J, am_Rf f g) := by
    intro y
    refine ⟨rfl, (ev_just hS hM hM12 hT h12).rt ⟨fun h => j_Ro_nature ⟨?_, rfl⟩, fun h => j_Ro_nature ⟨?_, rfl⟩⟩⟩
    · rw [b2i_eq0.mp h]; rfl
    · rw [b2i_ne0.mp h]; rfl
  have p4 : ∀ y : Int32, am_u am_sh m_Ro_nature (Rt (.int (y ||| sl (evn v N m) 8 ||| sl (jst (I (a + 1)) M v N) 16)) (I, J, am_Rf f g)) (am_at am_c_Ro_nature 43) 43 [some (.ref 225), some (.ref a), some (.int y)] [] (I, J, am_Rf f g) := by
    intro y
    refine ⟨hS.1.1, rfl, ?_⟩
    rw [hm]
    refine (ev_even hT h12 h8 h1).rt ⟨fun h => j_Ro_nature ?_, fun h => j_Ro_nature ?_⟩
    · rw [b2i_eq0.mp h]; exact p5 _
    · rw [b2i_ne0.mp h]; exact p5 _
  have p3 : ∀ y : Int32, am_u am_sh m_Ro_nature (Rt (.int (y ||| sl (one2 v N) 4 ||| sl (evn v N m) 8 ||| sl (jst (I (a + 1)) M v N) 16)) (I, J, am_Rf f g)) (am_at am_c_Ro_nature 28) 28 [some (.ref 225), some (.ref a), some (.int y)] [] (I, J, am_Rf f g) := by
    intro y
    refine ⟨rfl, (ev_one hT h12 hN).rt ⟨fun h => j_Ro_nature ?_, fun h => j_Ro_nature ?_⟩⟩
    · rw [b2i_eq0.mp h]; exact p4 _
    · rw [b2i_ne0.mp h]; exact p4 _
  have p2 : ∀ y : Int32, am_u am_sh m_Ro_nature (Rt (.int (y ||| sl (non2 v N) 2 ||| sl (one2 v N) 4 ||| sl (evn v N m) 8 ||| sl (jst (I (a + 1)) M v N) 16)) (I, J, am_Rf f g)) (am_at am_c_Ro_nature 13) 13 [some (.ref 225), some (.ref a), some (.int y)] [] (I, J, am_Rf f g) := by
    intro y
    refine ⟨rfl, (ev_non hT h12).rt ⟨fun h => j_Ro_nature ?_, fun h => j_Ro_nature ?_⟩⟩
    · rw [b2i_eq0.mp h]; exact p3 _
    · rw [b2i_ne0.mp h]; exact p3 _
  refine s_Ro_nature ⟨rfl, (ev_any hT h12).rt ⟨fun h => j_Ro_nature ?_, fun h => j_Ro_nature ?_⟩⟩
  · unfold nat5
    rw [b2i_eq0.mp h]; exact p2 _
  · unfold nat5
    rw [b2i_ne0.mp h]; exact p2 _
/-! the tape -/
theorem ev_tapeAppend {n : Nat} (hn : I 203 0 = nI n) (h90 : n < 90) (x : Int32) : am_ev am_sh m_Ta_append [.ref 203, .int x] (I, J, am_Rf f g) (Rv (am_up (am_up I 204 n (vp_nar .char (x.toUInt32 % 65536).toInt32)) 203 0 (nI (n + 1)), J, am_Rf f g)) := by
  refine s_Ta_append ⟨rfl, br_f (by rw [hn]; exact nI_ge (a := n) (b := 90) (by omega) (by omega)) ⟨204, rfl, rfl, rfl, 90, n, rfl, h90, hn, rfl, rfl, rfl, ?_⟩⟩
  rw [am_up_ne (by omega), hn, nI_1]
/-- the letter at a place; 0 behind the last -/
def ltr (t : Nat → Int32) (n p : Nat) : Int32 := if p < n then t p else 0
theorem ev_tapeAt {n p : Nat} (hn : I 203 0 = nI n) (h90 : n ≤ 90) (hp : p < 2 ^ 31) (hc : ∀ k, k < n → narrow .char (.int (I 204 k)) = .int (I 204 k)) : am_ev am_sh m_Ta_at [.ref 203, .int (nI p)] (I, J, am_Rf f g) (Rt (.int (ltr (I 204) n p)) (I, J, am_Rf f g)) := by
  refine s_Ta_at (br_f (nI_pos hp) ⟨rfl, fun h => j_Ta_at ⟨rfl, ?_, rfl⟩, fun h => ?_⟩)
  · rw [hn] at h
    unfold ltr
    rw [if_neg]
    intro q
    exact nI_ge q (by omega) h
  · rw [hn] at h
    have hpn : p < n := by
      rcases Nat.lt_or_ge p n with q | q
      · exact q
      · exact absurd (nI_le q hp) h
    refine ⟨204, rfl, rfl, 90, p, rfl, by omega, rfl, ?_⟩
    refine j_Ta_at ⟨hc p hpn, ?_, rfl⟩
    unfold ltr
    rw [if_pos hpn]
end JUST
