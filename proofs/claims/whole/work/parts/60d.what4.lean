/-! what on both: the call -/
section T25
variable {f g : Nat → Nat} {I : Nat → Nat → Int32} {J : Nat → Nat → Int64} {A N : Nat} {vs : Nat → Nat} {v : Nat → Int32}
theorem lp_what1 {n t : Nat} {x z w5 : Int32} {v8 : Option Value} {q : am_Q} (hn : I 237 0 = nI n) (h8 : n < 8) (hA : A + N ≤ 96) (h12 : N ≤ 12) (hbad : ¬ ba (okn (J 253) A 1 (nI (2 ^ n - 1))) N = true → q (some (.int (-2))) (I, J, am_Rf f g)) (hq : ba (okn (J 253) A 1 (nI (2 ^ n - 1))) N = true → ∀ w, am_run am_sh m_MD_what q 102 [some (.ref 236), some (.int (nI t)), some (.int x), some (.int z), some (.int (nI N)), some (.int w5), some (.int (nI A)), w, v8] [] (I, J, am_Rf f g)) : ∀ m k, m + k = N → (∀ j, j < k → okn (J 253) A 1 (nI (2 ^ n - 1)) j = true) → am_u am_sh m_MD_what q (am_at am_c_MD_what 64) 64 [some (.ref 236), some (.int (nI t)), some (.int x), some (.int z), some (.int (nI N)), some (.int w5), some (.int (nI A)), some (.int (nI k)), v8] [] (I, J, am_Rf f g) := by
  intro m
  induction m with
  | zero =>
    intro k hk hj
    obtain rfl : k = N := by omega
    exact br_t (nI_le (by omega) (by omega)) (hq (ba_iff.mpr hj) _)
  | succ m ih =>
    intro k hk hj
    refine br_f (nI_ge (by omega) (by omega)) ⟨253, rfl, rfl, 96, A + k, rfl, by omega, nI_add A k, rfl, (ev_mall hn h8).rt ((ev_in _ _ _ _).rt ⟨fun h1 => j_MD_what (j_MD_what ?_), fun h1 => hbad ?_⟩)⟩
    · rw [show nI k + 1 = nI (k + 1) from nI_1 k]
      refine ih (k + 1) (by omega) (fun j hj' => ?_)
      by_cases e : j = k
      · subst e
        exact b2i_ne0.mp h1
      · exact hj j (by omega)
    · have e : okn (J 253) A 1 (nI (2 ^ n - 1)) k = false := b2i_eq0.mp h1
      rw [ba_no (by omega) e]
      decide
theorem okn_set {r : Nat → Int64} {p k n : Nat} (h8 : n < 8) (h : okn r p 1 (nI (2 ^ n - 1)) k = true) : ∃ s, (r (p + k)).toInt32 = nI s ∧ 1 ≤ s ∧ s < 2 ^ n := by
  have h7 := pow_le7 h8
  have h := of_decide_eq_true h
  obtain ⟨w, hw, e⟩ := pk_lOf (x := r (p + k)) (Int64.not_lt.mpr (Int64.le_trans (by decide) h.1))
  have h1 := h.1
  have h2 := h.2
  rw [e, show (1 : Int32).toInt64 = lN 1 from rfl, pk_lLE (by omega) hw] at h1
  rw [e, nI_l (by omega), pk_lLE hw (by omega)] at h2
  exact ⟨w, by rw [e, lN_i], h1, by omega⟩
def twb (vs : Nat → Nat) (N w : Nat) : Bool := ba (fun i => ba (fun k => Nat.beq i k || tw w (vs i) (vs k)) N) N
theorem rn_what {n M t : Nat} {x z w5 : Int32} {v7 v8 : Option Value} {q : am_Q} {pl : Nat → Option Nat} (hV : Vr J A N vs) (hn : I 237 0 = nI n) (h8 : n < 8) (hM : I 237 1 = nI M) (h12 : M ≤ 12) (hpl : ∀ k, k < N → fo (lst (fun j => I 237 (4 + j)) (nI (vs k))) (-4) M = oi4 (pl k)) (hp12 : ∀ k p, pl k = some p → p < 12) (hq : q (some (.int (nat5 (twb vs N 0) (twb vs N 1) (twb vs N 2) (ba (fun e => decide (own vs N e = own vs N 0)) n) (decide (N = M) && ba (jb pl) N)))) (I, J, am_Rf f g)) : am_u am_sh m_MD_what q (am_at am_c_MD_what 102) 102 [some (.ref 236), some (.int (nI t)), some (.int x), some (.int z), some (.int (nI N)), some (.int w5), some (.int (nI A)), v7, v8] [] (I, J, am_Rf f g) := by
  have stp : ∀ (w : Nat) (s : Int32), w < 3 → am_u am_sh m_MD_what q (am_at am_c_MD_what 108) 108 [some (.ref 236), some (.int (nI t)), some (.int x), some (.int z), some (.int (nI N)), some (.int w5), some (.int (nI A)), some (.int (s ||| sl (twb vs N w) (nI (2 ^ w)))), some (.int (nI (w + 1)))] [] (I, J, am_Rf f g) → am_u am_sh m_MD_what q (am_at am_c_MD_what 108) 108 [some (.ref 236), some (.int (nI t)), some (.int x), some (.int z), some (.int (nI N)), some (.int w5), some (.int (nI A)), some (.int s), some (.int (nI w))] [] (I, J, am_Rf f g) := by
    intro w s hw nx
    refine br_f (nI_ge (b := 3) (by omega) (by omega)) ⟨rfl, (ev_ofTwo hV hw).rt ?_⟩
    show (_ → _) ∧ (_ → _)
    cases hb : twb vs N w with
    | true =>
      rw [hb] at nx
      have hb' : ba (fun i => ba (fun k => Nat.beq i k || tw w (vs i) (vs k)) N) N = true := hb
      rw [hb']
      refine ⟨fun q => absurd q (by decide), fun _ => j_MD_what (j_MD_what ?_)⟩
      rw [shl_tab w (by omega), show nI w + 1 = nI (w + 1) from nI_1 w]
      exact nx
    | false =>
      rw [hb] at nx
      have hb' : ba (fun i => ba (fun k => Nat.beq i k || tw w (vs i) (vs k)) N) N = false := hb
      rw [hb']
      refine ⟨fun _ => j_MD_what (j_MD_what ?_), fun q => absurd rfl q⟩
      rw [show nI w + 1 = nI (w + 1) from nI_1 w]
      exact nx
  refine j_MD_what (stp 0 0 (by omega) (stp 1 _ (by omega) (stp 2 _ (by omega) (br_t (by decide) (j_MD_what ⟨rfl, (ev_misEven hV hn h8).rt ?_⟩)))))
  have hq' := hq
  unfold nat5 at hq'
  cases hb : ba (fun e => decide (own vs N e = own vs N 0)) n with
  | true =>
    rw [hb] at hq'
    refine br_f (by decide) (j_MD_what ⟨rfl, (ev_misJust hV hM h12 hpl hp12).rt ?_⟩)
    cases hc : (decide (N = M) && ba (jb pl) N) with
    | true =>
      rw [hc] at hq'
      refine br_f (by decide) (j_MD_what ?_)
      rw [Int32.zero_or]
      exact hq'
    | false =>
      rw [hc] at hq'
      refine br_t rfl (j_MD_what ?_)
      rw [Int32.zero_or]
      exact hq'
  | false =>
    rw [hb] at hq'
    refine br_t rfl (j_MD_what ⟨rfl, (ev_misJust hV hM h12 hpl hp12).rt ?_⟩)
    cases hc : (decide (N = M) && ba (jb pl) N) with
    | true =>
      rw [hc] at hq'
      refine br_f (by decide) (j_MD_what ?_)
      rw [Int32.zero_or]
      exact hq'
    | false =>
      rw [hc] at hq'
      refine br_t rfl (j_MD_what ?_)
      rw [Int32.zero_or]
      exact hq'
end T25
