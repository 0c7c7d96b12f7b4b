/-! sheets on both: sheet, drop, item -/
section T7
variable {f g : Nat → Nat} {I : Nat → Nat → Int32} {J : Nat → Nat → Int64}
theorem Rf_227 {t : Nat} (ht : t < 4) : am_Rf f g 227 t = some (228 + 2 * t) := by
  rcases (show t = 0 ∨ t = 1 ∨ t = 2 ∨ t = 3 by omega) with rfl | rfl | rfl | rfl <;> rfl
theorem lt4 {x : Int32} : ¬ (4 ≤ x) ↔ x ≤ 3 := by
  rw [Int32.le_iff_toInt_le, Int32.le_iff_toInt_le, show (4 : Int32).toInt = 4 from rfl, show (3 : Int32).toInt = 3 from rfl]
  omega
theorem ev_isSheet (x : Int32) (σ : am_S) : am_ev am_sh m_MG_isSheet [.int x] σ (Rt (.int (b2i (decide (0 ≤ x ∧ x ≤ 3)))) σ) := by
  obtain ⟨I, J, R⟩ := σ
  refine s_MG_isSheet ⟨fun h1 => j_MG_isSheet ⟨Or.inl rfl, ?_, rfl⟩, fun h1 => ⟨fun h2 => j_MG_isSheet ⟨Or.inl rfl, ?_, rfl⟩, fun h2 => j_MG_isSheet ⟨Or.inr rfl, ?_, rfl⟩⟩⟩
  · rw [decide_eq_false (fun q => absurd h1 (Int32.not_lt.mpr q.1))]; rfl
  · rw [decide_eq_false (fun q => lt4.mpr q.2 h2)]; rfl
  · rw [decide_eq_true ⟨Int32.not_lt.mp h1, lt4.mp h2⟩]; rfl
theorem ev_isLane (x : Int32) (σ : am_S) : am_ev am_sh m_MG_isLane [.int x] σ (Rt (.int (b2i (decide (0 ≤ x ∧ x ≤ 3)))) σ) := by
  obtain ⟨I, J, R⟩ := σ
  refine s_MG_isLane ⟨fun h1 => j_MG_isLane ⟨Or.inl rfl, ?_, rfl⟩, fun h1 => ⟨fun h2 => j_MG_isLane ⟨Or.inl rfl, ?_, rfl⟩, fun h2 => j_MG_isLane ⟨Or.inr rfl, ?_, rfl⟩⟩⟩
  · rw [decide_eq_false (fun q => absurd h1 (Int32.not_lt.mpr q.1))]; rfl
  · rw [decide_eq_false (fun q => absurd h2 (Int32.not_lt.mpr q.2))]; rfl
  · rw [decide_eq_true ⟨Int32.not_lt.mp h1, Int32.not_lt.mp h2⟩]; rfl
theorem ev_misSheet (x : Int32) (σ : am_S) : am_ev am_sh m_MD_isSheet [.int x] σ (Rt (.int (b2i (decide (0 ≤ x ∧ x ≤ 3)))) σ) := by
  obtain ⟨I, J, R⟩ := σ
  exact s_MD_isSheet ((ev_in32 x 0 3 _).rt ⟨b2i_01 _, rfl, rfl⟩)
theorem s4_of {x : Int32} (h : 0 ≤ x ∧ x ≤ 3) : ∃ t, t < 4 ∧ x = nI t := by
  obtain ⟨t, ht, rfl⟩ := nI_of (x := x) (Int32.not_lt.mpr h.1)
  exact ⟨t, by have := (nI_leI (b := 3) ht (by omega)).mp h.2; omega, rfl⟩
theorem sub_int {L i : Nat} (hL : L ≤ 24) (hi : i < 2 ^ 31) : (nI L - nI i).toInt = (L : Int) - i := by
  rw [Int32.toInt_sub, nI_toInt (by omega), nI_toInt hi, Int.bmod_def]
  split <;> omega
theorem spn_why {x : Int32} {m L : Nat} (hL : L ≤ 24) (hm : m < 2 ^ 31) (h0 : 0 ≤ x) : spn x (nI m) L = decide (nI m ≤ nI L - x) := by
  unfold spn
  rw [decide_eq_decide]
  obtain ⟨i, hi, rfl⟩ := nI_of (x := x) (Int32.not_lt.mpr h0)
  have e : nI m ≤ nI L - nI i ↔ (m : Int) ≤ (L : Int) - i := by
    rw [Int32.le_iff_toInt_le, nI_toInt hm, sub_int hL hi]
  rw [e, nI_leI hi (by omega)]
  constructor
  · intro q; exact q.2.2.2
  · intro q; exact ⟨nI_pos' hi, by omega, nI_pos' hm, q⟩
def Shi (I : Nat → Nat → Int32) (t L : Nat) : Prop := L ≤ 24 ∧ I (228 + 2 * t) 2 = nI L ∧ ((I (228 + 2 * t) 0 = 0 ∧ I 251 t = -1) ∨ (I (228 + 2 * t) 0 = 1 ∧ I 252 t = nI L ∧ I (228 + 2 * t) 1 = I 251 t ∧ 0 ≤ I 251 t ∧ I 251 t ≤ 3))
theorem Shr.i {t L : Nat} (h : Shr I J t L) : Shi I t L := ⟨h.1, h.2.1, h.2.2.imp id (fun q => ⟨q.1, q.2.1, q.2.2.1, q.2.2.2.1, q.2.2.2.2.1⟩)⟩
theorem ev_why {t L m : Nat} (as x : Int32) (ht : t < 4) (hS : Shi I t L) (hm : m < 2 ^ 31) : am_ev am_sh m_MD_why [.ref 236, .int (nI t), .int as, .int x, .int (nI m)] (I, J, am_Rf f g) (Rt (.int (rfs (I (228 + 2 * t) 0) (I (228 + 2 * t) 1) L as x (nI m))) (I, J, am_Rf f g)) := by
  obtain ⟨l1, l2, l3⟩ := hS
  refine s_MD_why ⟨251, rfl, rfl, 4, t, rfl, ht, rfl, fun h1 => j_MD_why ?_, fun h1 => ?_⟩
  · rcases l3 with ⟨k1, k2⟩ | ⟨k1, k2, k3, k4, k5⟩
    · have h1 : 0 ≤ I 251 t := h1
      rw [k2] at h1
      exact absurd h1 (by decide)
    · refine ⟨251, rfl, rfl, 4, t, rfl, ht, rfl, fun h2 => j_MD_why ?_, fun h2 => ?_⟩
      · have r1 : rfs (I (228 + 2 * t) 0) (I (228 + 2 * t) 1) L as x (nI m) = if spn x (nI m) L = true then 0 else -13 := by
          unfold rfs
          rw [k1, k3, if_neg (by decide), if_neg (fun q => q h2)]
        rw [r1]
        refine ⟨fun h3 => j_MD_why (j_MD_why ⟨?_, rfl⟩), fun h3 => ⟨252, rfl, rfl, 4, t, rfl, ht, rfl, fun h4 => j_MD_why ⟨?_, rfl⟩, fun h4 => j_MD_why ⟨?_, rfl⟩⟩⟩
        · rw [if_neg]
          unfold spn
          rw [decide_eq_true_iff]
          exact fun q => absurd h3 (Int32.not_lt.mpr q.1)
        · have h4 : nI m ≤ I 252 t - x := h4
          rw [k2] at h4
          rw [spn_why l1 hm (Int32.not_lt.mp h3), decide_eq_true h4]
          rfl
        · have h4 : ¬ nI m ≤ I 252 t - x := h4
          rw [k2] at h4
          rw [spn_why l1 hm (Int32.not_lt.mp h3), decide_eq_false h4]
          rfl
      · refine ⟨?_, rfl⟩
        unfold rfs
        rw [k1, k3, if_neg (by decide), if_pos h2]
  · refine ⟨?_, rfl⟩
    rcases l3 with ⟨k1, k2⟩ | ⟨k1, k2, k3, k4, k5⟩
    · unfold rfs
      rw [if_pos k1]
    · exact absurd k4 h1
theorem Inv.sht {I' : Nat → Nat → Int32} {J' : Nat → Nat → Int64} {N n : Nat} (hR : RR I 1 (I 237)) (hf : Hf f) (hg : Hg g) (hp : Past I f N) (hI : Img I g) (ht : Tap I n) (hby : By3 I) (hc : ∀ c, ¬ Scr c → ¬ (227 ≤ c ∧ c ≤ 235) → c ≠ 251 → c ≠ 252 → I' c = I c) (hs : ∀ t, t < 4 → ∃ L, Shr I' J' t L) : Inv (I', J', am_Rf f g) := by
  have e : ∀ c, c ≤ 200 ∨ c = 203 ∨ c = 204 ∨ c = 211 ∨ c = 236 ∨ c = 237 ∨ c = 245 ∨ (248 ≤ c ∧ c ≤ 250) → I' c = I c := fun c h => hc c (by unfold Scr; omega) (by omega) (by omega) (by omega)
  refine ⟨I', J', f, g, rfl, hR.congr (fun c _ _ => e c (by omega)) (fun i _ => by rw [e 237 (by omega)]), hf, hg, ⟨N, PastC.congr hf hp (fun c _ _ => e c (by omega)) (by rw [e 236 (by omega)]) (e 248 (by omega))⟩, ?_, ⟨n, ht.congr (e 203 (by omega)) (e 204 (by omega)) (e 245 (by omega)) (by rw [e 236 (by omega)])⟩, hs, fun s hs => by rw [e 211 (by omega)]; exact hby s hs⟩
  rcases hI with ⟨i1, i2⟩ | ⟨i1, N', i2, i3, i4, i5, i6⟩
  · exact Or.inl ⟨by rw [e 0 (by omega)]; exact i1, by rw [e 236 (by omega)]; exact i2⟩
  · refine Or.inr ⟨by rw [e 0 (by omega)]; exact i1, N', i2, by rw [e 115 (by omega)]; exact i3, by rw [e 236 (by omega)]; exact i4, i5.congr (fun c c1 c2 => e c (by omega)) (fun i hi => by rw [e 249 (by omega)]), fun j hj => ?_⟩
    have := hg.lo (j := j) (by omega)
    exact (i6 j hj).congr (fun c c1 c2 => e c (by omega)) (fun i hi => by rw [e 250 (by omega)])
theorem T_drop (x : Int32) {σ : am_S} (h : Inv σ) : Both m_MG_drop m_MD_drop [.int x] σ := by
  obtain ⟨I, J, f, g, rfl, hR, hf, hg, ⟨N, hp⟩, hI, ⟨n, ht⟩, hsh, hby⟩ := h
  have inv0 : Inv (I, J, am_Rf f g) := ⟨I, J, f, g, rfl, hR, hf, hg, ⟨N, hp⟩, hI, ⟨n, ht⟩, hsh, hby⟩
  refine s_MG_drop ((ev_isSheet x _).rt ⟨fun h1 => j_MG_drop ?_, fun h1 => ⟨-1, rfl, s_MD_drop ((ev_misSheet x _).rt ⟨fun h2 => absurd h1 h2, fun h2 => ⟨rfl, inv0⟩⟩)⟩⟩)
  obtain ⟨t, ht4, rfl⟩ := s4_of (of_decide_eq_true (b2i_ne0.mp h1))
  obtain ⟨L, l1, l2, l3⟩ := hsh t ht4
  have hS := Shd_of (f := f) (g := g) ht4
  refine ⟨227, rfl, rfl, 4, t, rfl, ht4, rfl, 228 + 2 * t, Rf_227 ht4, hS.1, fun h3 => j_MG_drop ?_, fun h3 => ?_⟩
  · rcases l3 with ⟨k1, k2⟩ | ⟨k1, k2, k3, k4, k5, k6⟩
    · exact absurd k1 h3
    · refine ⟨227, rfl, rfl, 4, t, rfl, ht4, rfl, 228 + 2 * t, Rf_227 ht4, hS.1, Or.inl rfl, 227, rfl, rfl, 4, t, rfl, ht4, rfl, 228 + 2 * t, Rf_227 ht4, hS.1, nI L, congrArg (fun z => some (Value.int z)) (by rw [am_up_ne (by omega)]; exact l2), ?_⟩
      refine s_MD_drop ((ev_misSheet (nI t) _).rt ⟨fun h2 => j_MD_drop ?_, fun h2 => absurd h2 h1⟩)
      refine ⟨251, rfl, rfl, 4, t, rfl, ht4, rfl, fun h4 => j_MD_drop ?_, fun h4 => absurd (by show 0 ≤ am_up I (228 + 2 * t) 0 0 251 t; rw [up_cell (by omega)]; exact k4) h4⟩
      refine ⟨251, rfl, rfl, 4, t, rfl, ht4, rfl, 252, rfl, rfl, 4, t, rfl, ht4, rfl, congrArg (fun z => some (Value.int z)) ?_, Inv.sht hR hf hg hp hI ht hby (fun c c1 c2 c3 c4 => ?_) (fun t' ht' => ?_)⟩
      · rw [up_cell (by omega), up_cell (by omega)]; exact k2
      · rw [up_cell (by omega), up_cell (by omega)]
      · by_cases e : t' = t
        · subst e
          refine ⟨L, l1, ?_, Or.inl ⟨?_, am_up_eq⟩⟩
          · rw [up_cell (by omega), am_up_ne (by omega)]; exact l2
          · rw [up_cell (by omega), am_up_eq]
        · obtain ⟨L', a1, a2, a3⟩ := hsh t' ht'
          refine ⟨L', a1, ?_, ?_⟩
          · rw [up_cell (by omega), up_cell (by omega)]; exact a2
          · rw [up_cell (c := 228 + 2 * t') (by omega), up_cell (c := 228 + 2 * t') (by omega), up_cell (c := 252) (by omega), up_cell (c := 252) (by omega), am_up_ne (b := 251) (j := t') (by omega), up_cell (c := 251) (by omega)]
            exact a3
  · rcases l3 with ⟨k1, k2⟩ | ⟨k1, k2, k3, k4, k5, k6⟩
    · refine ⟨-11, rfl, s_MD_drop ((ev_misSheet (nI t) _).rt ⟨fun h2 => j_MD_drop ⟨251, rfl, rfl, 4, t, rfl, ht4, rfl, fun h4 => ?_, fun h4 => ⟨rfl, inv0⟩⟩, fun h2 => absurd h2 h1⟩)⟩
      have h4 : 0 ≤ I 251 t := h4
      rw [k2] at h4
      exact absurd h4 (by decide)
    · have h3 : I (228 + 2 * t) 0 = 0 := h3
      rw [k1] at h3
      exact absurd h3 (by decide)
end T7
