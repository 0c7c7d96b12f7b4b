/-! the reference: what was solved is taken; what elements bear, what groups load -/
def sgv (ov x : Int) : Int := if ov < 0 then - x else x
/-- filled so far: places ix r of the row a hold the answers -/
def Fil (I' I : Nat → Nat → Int32) (a : Nat) (ix : Nat → Nat) (V : Nat → Int) (r : Nat) : Prop := (∀ r', r' < r → I' a (ix r') = zI (V r')) ∧ (∀ j, (∀ r', r' < r → j ≠ ix r') → I' a j = I a j) ∧ ∀ b, b ≠ a → I' b = I b
theorem Fil.more {I' I : Nat → Nat → Int32} {a : Nat} {ix : Nat → Nat} {V : Nat → Int} {r : Nat} {x : Int32} (h : Fil I' I a ix V r) (hx : x = zI (V r)) (hi : ∀ r', r' < r → ix r' ≠ ix r) : Fil (am_up I' a (ix r) x) I a ix V (r + 1) := by
  obtain ⟨h1, h2, h3⟩ := h
  refine ⟨fun r' hr' => ?_, fun j hj => ?_, fun b hb => ?_⟩
  · by_cases e : r' = r
    · rw [e, am_up_eq, hx]
    · rw [am_up_ne (fun q => hi r' (by omega) q.2)]
      exact h1 r' (by omega)
  · rw [am_up_ne (fun q => hj r (by omega) q.2)]
    exact h2 j (fun r' hr' => hj r' (by omega))
  · funext j
    rw [am_up_ne (by omega), h3 b hb]
section MT
variable {f g : Nat → Nat} {I : Nat → Nat → Int32} {J : Nat → Nat → Int64} {M : Nat} {gs : Nat → Nat}
theorem ev_takes0 {z : Nat} (hz : z ≤ 7) (t : Bool) : am_ev am_sh m_MD_takes [.ref 236, .int (nI z), .int 0, .int (b2i t)] (I, J, am_Rf f g) (Rt (.int 0) (I, J, am_Rf f g)) := by
  refine s_MD_takes (br_t rfl (j_MD_takes (j_MD_takes ⟨fun _ => j_MD_takes ⟨Or.inl rfl, rfl, rfl⟩, fun _ => br_t rfl (j_MD_takes ⟨Or.inl rfl, rfl, rfl⟩)⟩)))
abbrev TkQ (f g : Nat → Nat) (I : Nat → Nat → Int32) (J : Nat → Nat → Int64) (a z : Nat) (ix : Nat → Nat) (V : Nat → Int) : am_Q := fun x σ' => ∃ y I', x = some (.int (b2i y)) ∧ σ' = (I', J, am_Rf f g) ∧ (∀ b, b ≠ a → I' b = I b) ∧ (y = true → Fil I' I a ix V z ∧ ∀ r, r < z → 0 ≤ V r) ∧ (y = false → ∃ r, r < z ∧ V r < 0)
theorem lp_mtakes {z : Nat} {mi me : Nat → Nat} {t : Bool} {ov : Int} {v : Nat → Int} (hm : Mem I M z mi me) (h12 : M ≤ 12) (h0 : ov ≠ 0) (hov : ov.natAbs ≤ 5040) (hv : ∀ r, r < z → I 238 (8 * r + 7) = zI (v r) ∧ (v r).natAbs ≤ 5040) (hi : ∀ r r', r < z → r' < z → r' < r → (if t = true then mi r' else me r') ≠ (if t = true then mi r else me r)) : ∀ m r w (I' : Nat → Nat → Int32), m + r = z → Fil I' I (if t = true then 242 else 241) (fun r => if t = true then mi r else me r) (fun r => sgv ov (v r)) r → (∀ r', r' < r → 0 ≤ sgv ov (v r')) → am_u am_sh m_MD_takes (TkQ f g I J (if t = true then 242 else 241) z (fun r => if t = true then mi r else me r) (fun r => sgv ov (v r))) (am_at am_c_MD_takes 14) 14 [some (.ref 236), some (.int (nI z)), some (.int (zI ov)), some (.int (b2i t)), some (.int 1), some (.int (nI r)), w] [] (I', J, am_Rf f g) := by
  have hz := hm.1
  intro m
  induction m with
  | zero =>
    intro r w I' hk hF hn
    obtain rfl : r = z := by omega
    exact br_t (nI_le (Nat.le_refl _) (by omega)) (j_MD_takes ⟨Or.inr rfl, true, I', rfl, rfl, hF.2.2, fun _ => ⟨hF, hn⟩, fun e => (by cases e)⟩)
  | succ m ih =>
    intro r w I' hk hF hn
    obtain ⟨v1, v2⟩ := hv r (by omega)
    have c238 : I' 238 (8 * r + 7) = zI (v r) := by rw [hF.2.2 238 (by split <;> omega), v1]
    have sab : (sgv ov (v r)).natAbs ≤ 5040 := by unfold sgv; split <;> omega
    -- behind the sign
    have tail : ∀ x : Int32, x = zI (sgv ov (v r)) → am_u am_sh m_MD_takes (TkQ f g I J (if t = true then 242 else 241) z (fun r => if t = true then mi r else me r) (fun r => sgv ov (v r))) (am_at am_c_MD_takes 59) 59 [some (.ref 236), some (.int (nI z)), some (.int (zI ov)), some (.int (b2i t)), some (.int 1), some (.int (nI r)), w] [.int x] (I', J, am_Rf f g) := by
      intro x hx
      have neg : x < 0 ↔ sgv ov (v r) < 0 := by rw [hx, ← zI_0, zI_lt (by omega) (by omega) (by omega) (by omega)]
      obtain ⟨m1, m2, m3, m4⟩ := hm.2 r (by omega)
      have hF2 := hF.more hx (fun r' hr' => hi r r' (by omega) (by omega) hr')
      -- stop
      have stop : sgv ov (v r) < 0 → ∀ w, am_u am_sh m_MD_takes (TkQ f g I J (if t = true then 242 else 241) z (fun r => if t = true then mi r else me r) (fun r => sgv ov (v r))) (am_at am_c_MD_takes 14) 14 [some (.ref 236), some (.int (nI z)), some (.int (zI ov)), some (.int (b2i t)), some (.int 0), some (.int (nI (r + 1))), w] [] (am_up I' (if t = true then 242 else 241) (if t = true then mi r else me r) x, J, am_Rf f g) := fun hneg w => ⟨fun _ => j_MD_takes ⟨Or.inl rfl, false, _, rfl, rfl, hF2.2.2, fun e => (by cases e), fun _ => ⟨r, by omega, hneg⟩⟩, fun _ => br_t rfl (j_MD_takes ⟨Or.inl rfl, false, _, rfl, rfl, hF2.2.2, fun e => (by cases e), fun _ => ⟨r, by omega, hneg⟩⟩)⟩
      have next : ¬ sgv ov (v r) < 0 → ∀ w, am_u am_sh m_MD_takes (TkQ f g I J (if t = true then 242 else 241) z (fun r => if t = true then mi r else me r) (fun r => sgv ov (v r))) (am_at am_c_MD_takes 14) 14 [some (.ref 236), some (.int (nI z)), some (.int (zI ov)), some (.int (b2i t)), some (.int 1), some (.int (nI (r + 1))), w] [] (am_up I' (if t = true then 242 else 241) (if t = true then mi r else me r) x, J, am_Rf f g) := fun hnn w => ih (r + 1) w _ (by omega) hF2 (fun r' hr' => by
        by_cases e : r' = r
        · rw [e]; omega
        · exact hn r' (by omega))
      have i239 : I' 239 r = nI (mi r) := by rw [hF.2.2 239 (by split <;> omega), m1]
      have i240 : I' 240 r = nI (me r) := by rw [hF.2.2 240 (by split <;> omega), m3]
      refine ⟨fun h1 => j_MD_takes ?_, fun h1 => j_MD_takes ?_⟩
      · have st := stop (neg.mp h1)
        cases t with
        | true =>
          refine br_f (by decide) ⟨242, rfl, rfl, 239, rfl, rfl, 7, r, rfl, by omega, rfl, 12, mi r, rfl, by omega, i239, j_MD_takes (j_MD_takes ?_)⟩
          rw [nI_1]
          exact st _
        | false =>
          refine br_t rfl (j_MD_takes ⟨241, rfl, rfl, 240, rfl, rfl, 7, r, rfl, by omega, rfl, 7, me r, rfl, by omega, i240, j_MD_takes ?_⟩)
          rw [nI_1]
          exact st _
      · have st := next (fun w => h1 (neg.mpr w))
        cases t with
        | true =>
          refine br_f (by decide) ⟨242, rfl, rfl, 239, rfl, rfl, 7, r, rfl, by omega, rfl, 12, mi r, rfl, by omega, i239, j_MD_takes (j_MD_takes ?_)⟩
          rw [nI_1]
          exact st _
        | false =>
          refine br_t rfl (j_MD_takes ⟨241, rfl, rfl, 240, rfl, rfl, 7, r, rfl, by omega, rfl, 7, me r, rfl, by omega, i240, j_MD_takes ?_⟩)
          rw [nI_1]
          exact st _
    have sg : (0 : Int32) ≤ zI ov ↔ 0 ≤ ov := by rw [← zI_0, zI_le (by omega) (by omega) (by omega) (by omega)]
    refine br_f (nI_ge (by omega) (by omega)) (br_f (by decide) ⟨fun h1 => j_MD_takes ⟨238, rfl, rfl, 56, 8 * r + 7, rfl, by omega, ix87 r, ?_⟩, fun h1 => ⟨238, rfl, rfl, 56, 8 * r + 7, rfl, by omega, ix87 r, j_MD_takes ?_⟩⟩)
    · have h1 := sg.mp h1
      refine tail (I' 238 (8 * r + 7)) ?_
      unfold sgv
      rw [if_neg (by omega), c238]
    · have h1 := mt sg.mpr h1
      refine tail (- I' 238 (8 * r + 7)) ?_
      unfold sgv
      rw [if_pos (by omega), c238, zI_neg]
theorem ev_mtakes {z : Nat} {mi me : Nat → Nat} (t : Bool) {ov : Int} {v : Nat → Int} (hm : Mem I M z mi me) (h12 : M ≤ 12) (h0 : ov ≠ 0) (hov : ov.natAbs ≤ 5040) (hv : ∀ r, r < z → I 238 (8 * r + 7) = zI (v r) ∧ (v r).natAbs ≤ 5040) (hi : ∀ r r', r < z → r' < z → r' < r → (if t = true then mi r' else me r') ≠ (if t = true then mi r else me r)) : am_ev am_sh m_MD_takes [.ref 236, .int (nI z), .int (zI ov), .int (b2i t)] (I, J, am_Rf f g) (TkQ f g I J (if t = true then 242 else 241) z (fun r => if t = true then mi r else me r) (fun r => sgv ov (v r))) := by
  refine s_MD_takes (br_f (fun e => h0 ((zI_0iff hov).mp e)) (j_MD_takes (j_MD_takes ?_)))
  exact lp_mtakes hm h12 h0 hov hv hi z 0 none I (by omega) ⟨fun r' a => by omega, fun j _ => rfl, fun b _ => rfl⟩ (fun r' a => by omega)
theorem lp_clears2 {q : am_Q} : ∀ m k (I' : Nat → Nat → Int32), m + k = 7 → (∀ j, j < 12 → I' 242 j = 0) → (∀ j, j < k → I' 241 j = 0) → (∀ b, b ≠ 241 → b ≠ 242 → I' b = I b) → (∀ I', (∀ j, j < 12 → I' 242 j = 0) → (∀ j, j < 7 → I' 241 j = 0) → (∀ b, b ≠ 241 → b ≠ 242 → I' b = I b) → q none (I', J, am_Rf f g)) → am_u am_sh m_MD_clears q (am_at am_c_MD_clears 23) 23 [some (.ref 236), some (.int (nI k))] [] (I', J, am_Rf f g) := by
  intro m
  induction m with
  | zero =>
    intro k I' hk h1 h2 h3 hq
    obtain rfl : k = 7 := by omega
    exact br_t (by decide) (j_MD_clears (hq I' h1 h2 h3))
  | succ m ih =>
    intro k I' hk h1 h2 h3 hq
    refine br_f (nI_ge (b := 7) (by omega) (by omega)) ⟨241, rfl, rfl, 7, k, rfl, by omega, rfl, j_MD_clears ?_⟩
    rw [nI_1]
    refine ih (k + 1) _ (by omega) (fun j hj => ?_) (fun j hj => ?_) (fun b b1 b2 => ?_) hq
    · rw [am_up_ne (by omega)]; exact h1 j hj
    · by_cases e : j = k
      · rw [e, am_up_eq]
      · rw [am_up_ne (by omega)]; exact h2 j (by omega)
    · funext j
      rw [am_up_ne (by omega), h3 b b1 b2]
theorem lp_clears {q : am_Q} (hq : ∀ I', (∀ j, j < 12 → I' 242 j = 0) → (∀ j, j < 7 → I' 241 j = 0) → (∀ b, b ≠ 241 → b ≠ 242 → I' b = I b) → q none (I', J, am_Rf f g)) : ∀ m k (I' : Nat → Nat → Int32), m + k = 12 → (∀ j, j < k → I' 242 j = 0) → (∀ b, b ≠ 241 → b ≠ 242 → I' b = I b) → am_u am_sh m_MD_clears q (am_at am_c_MD_clears 2) 2 [some (.ref 236), some (.int (nI k))] [] (I', J, am_Rf f g) := by
  intro m
  induction m with
  | zero =>
    intro k I' hk h1 h3
    obtain rfl : k = 12 := by omega
    exact br_t (by decide) (j_MD_clears (j_MD_clears (lp_clears2 7 0 I' (by omega) h1 (fun j hj => by omega) h3 hq)))
  | succ m ih =>
    intro k I' hk h1 h3
    refine br_f (nI_ge (b := 12) (by omega) (by omega)) ⟨242, rfl, rfl, 12, k, rfl, by omega, rfl, j_MD_clears ?_⟩
    rw [nI_1]
    refine ih (k + 1) _ (by omega) (fun j hj => ?_) (fun b b1 b2 => ?_)
    · by_cases e : j = k
      · rw [e, am_up_eq]
      · rw [am_up_ne (by omega)]; exact h1 j (by omega)
    · funext j
      rw [am_up_ne (by omega), h3 b b1 b2]
theorem ev_clears : am_ev am_sh m_MD_clears [.ref 236] (I, J, am_Rf f g) (fun x σ' => x = none ∧ ∃ I', σ' = (I', J, am_Rf f g) ∧ (∀ j, j < 12 → I' 242 j = 0) ∧ (∀ j, j < 7 → I' 241 j = 0) ∧ ∀ b, b ≠ 241 → b ≠ 242 → I' b = I b) := s_MD_clears (j_MD_clears (lp_clears (fun I' a b c => ⟨rfl, I', rfl, a, b, c⟩) 12 0 I (by omega) (fun j hj => by omega) (fun b _ _ => rfl)))
/-- what the group k has of elements' shares, as far as e -/
theorem lp_bears1 {k : Nat} {x1 x2 : Int32} {E : Nat → Int} {q : am_Q} (hG : Gm I M gs) (hk : k < M) (hE : ∀ e, e < 7 → I 241 e = zI (E e)) (K : am_run am_sh m_MD_bears q 66 [some (.ref 236), some (.int x1), some (.int x2), some (.int (nI k)), some (.int (zI (zs (fun e => zb (gs k) e * E e) 7))), some (.int (nI 7))] [] (I, J, am_Rf f g)) : ∀ m e, m + e = 7 → am_u am_sh m_MD_bears q (am_at am_c_MD_bears 24) 24 [some (.ref 236), some (.int x1), some (.int x2), some (.int (nI k)), some (.int (zI (zs (fun e => zb (gs k) e * E e) e))), some (.int (nI e))] [] (I, J, am_Rf f g) := by
  have h12 := hG.2.1
  have gg := hG.2.2 k hk
  intro m
  induction m with
  | zero =>
    intro e he
    obtain rfl : e = 7 := by omega
    exact br_t (by decide) K
  | succ m ih =>
    intro e he
    refine br_f (nI_ge (b := 7) (by omega) (by omega)) ⟨rfl, (ev_mat (by omega)).rt ((ev_htb2 (s := gs k) (e := e) gg.1 rfl (by omega) (by omega) _).rt ?_)⟩
    have nx := ih (e + 1) (by omega)
    rw [zs_s, zb_tb] at nx
    cases hb : tb (gs k) e with
    | true =>
      rw [hb, if_pos rfl, Int.one_mul] at nx
      refine br_f (by decide) ⟨241, rfl, rfl, 7, e, rfl, by omega, rfl, j_MD_bears (j_MD_bears ?_)⟩
      rw [nI_1, hE e (by omega), zI_add]
      exact nx
    | false =>
      rw [hb, if_neg (by decide), Int.zero_mul, Int.add_zero] at nx
      refine br_t rfl (j_MD_bears (j_MD_bears ?_))
      rw [nI_1, Int32.add_zero]
      exact nx
theorem lp_bears {ov : Int} {E : Nat → Int} (hG : Gm I M gs) (hE : ∀ e, e < 7 → I 241 e = zI (E e)) (hb : ∀ k, k < M → (zs (fun e => zb (gs k) e * E e) 7).natAbs ≤ 100000) (hov : ov.natAbs ≤ 5040) : ∀ m k w4 w5, m + k = M → (∀ k', k' < k → ov ≤ zs (fun e => zb (gs k') e * E e) 7) → am_u am_sh m_MD_bears (fun x σ' => ∃ y, x = some (.int (b2i y)) ∧ σ' = (I, J, am_Rf f g) ∧ (y = true ↔ ∀ k, k < M → ov ≤ zs (fun e => zb (gs k) e * E e) 7)) (am_at am_c_MD_bears 4) 4 [some (.ref 236), some (.int (zI ov)), some (.int 1), some (.int (nI k)), w4, w5] [] (I, J, am_Rf f g) := by
  have h12 := hG.2.1
  intro m
  induction m with
  | zero =>
    intro k w4 w5 hk h0
    obtain rfl : k = M := by omega
    exact ⟨237, rfl, rfl, 116, 1, rfl, by omega, rfl, br_t (by rw [hG.1]; exact nI_le (Nat.le_refl _) (by omega)) (j_MD_bears ⟨Or.inr rfl, true, rfl, rfl, fun _ => h0, fun _ => rfl⟩)⟩
  | succ m ih =>
    intro k w4 w5 hk h0
    have bk := hb k (by omega)
    refine ⟨237, rfl, rfl, 116, 1, rfl, by omega, rfl, br_f (by rw [hG.1]; exact nI_ge (by omega) (by omega)) (br_f (by decide) (j_MD_bears (lp_bears1 hG (show k < M by omega) hE (j_MD_bears ?_) 7 0 (by omega))))⟩
    have cmp : zI (zs (fun e => zb (gs k) e * E e) 7) < zI ov ↔ zs (fun e => zb (gs k) e * E e) 7 < ov := zI_lt (by omega) (by omega) (by omega) (by omega)
    refine ⟨fun h1 => j_MD_bears (j_MD_bears ?_), fun h1 => j_MD_bears (j_MD_bears ?_)⟩
    · rw [nI_1]
      have h1 := cmp.mp h1
      have fin : ∃ y, (some (.int 0) : Option Value) = some (.int (b2i y)) ∧ (I, J, am_Rf f g) = (I, J, am_Rf f g) ∧ (y = true ↔ ∀ k, k < M → ov ≤ zs (fun e => zb (gs k) e * E e) 7) := ⟨false, rfl, rfl, fun e => (by cases e), fun e => (by have := e k (by omega); omega)⟩
      exact ⟨237, rfl, rfl, 116, 1, rfl, by omega, rfl, fun _ => j_MD_bears ⟨Or.inl rfl, fin⟩, fun _ => br_t rfl (j_MD_bears ⟨Or.inl rfl, fin⟩)⟩
    · rw [nI_1]
      refine ih (k + 1) _ _ (by omega) (fun k' hk' => ?_)
      by_cases e : k' = k
      · rw [e]
        have := mt cmp.mpr h1
        omega
      · exact h0 k' (by omega)
theorem ev_bears {ov : Int} {E : Nat → Int} (hG : Gm I M gs) (hE : ∀ e, e < 7 → I 241 e = zI (E e)) (hb : ∀ k, k < M → (zs (fun e => zb (gs k) e * E e) 7).natAbs ≤ 100000) (hov : ov.natAbs ≤ 5040) : am_ev am_sh m_MD_bears [.ref 236, .int (zI ov)] (I, J, am_Rf f g) (fun x σ' => ∃ y, x = some (.int (b2i y)) ∧ σ' = (I, J, am_Rf f g) ∧ (y = true ↔ ∀ k, k < M → ov ≤ zs (fun e => zb (gs k) e * E e) 7)) := s_MD_bears (j_MD_bears (lp_bears hG hE hb hov M 0 none none (by omega) (fun k' a => by omega)))
theorem lp_loadOf {e : Nat} {W : Nat → Int} (hG : Gm I M gs) (he : e < 7) (hW : ∀ k, k < M → I 242 k = zI (W k)) : ∀ m k, m + k = M → am_u am_sh m_MD_loadOf (Rt (.int (zI (zs (fun k => zb (gs k) e * W k) M))) (I, J, am_Rf f g)) (am_at am_c_MD_loadOf 4) 4 [some (.ref 236), some (.int (nI e)), some (.int (zI (zs (fun k => zb (gs k) e * W k) k))), some (.int (nI k))] [] (I, J, am_Rf f g) := by
  have h12 := hG.2.1
  intro m
  induction m with
  | zero =>
    intro k hk
    obtain rfl : k = M := by omega
    exact ⟨237, rfl, rfl, 116, 1, rfl, by omega, rfl, br_t (by rw [hG.1]; exact nI_le (Nat.le_refl _) (by omega)) (j_MD_loadOf ⟨rfl, rfl⟩)⟩
  | succ m ih =>
    intro k hk
    have gg := hG.2.2 k (by omega)
    refine ⟨237, rfl, rfl, 116, 1, rfl, by omega, rfl, br_f (by rw [hG.1]; exact nI_ge (by omega) (by omega)) ⟨rfl, (ev_mat (by omega)).rt ((ev_htb2 (s := gs k) (e := e) gg.1 rfl (by omega) (by omega) _).rt ?_)⟩⟩
    have nx := ih (k + 1) (by omega)
    rw [zs_s, zb_tb (gs k) e] at nx
    cases hb : tb (gs k) e with
    | true =>
      rw [hb, if_pos rfl, Int.one_mul] at nx
      refine br_f (by decide) ⟨242, rfl, rfl, 12, k, rfl, by omega, rfl, j_MD_loadOf (j_MD_loadOf ?_)⟩
      rw [nI_1, hW k (by omega), zI_add]
      exact nx
    | false =>
      rw [hb, if_neg (by decide), Int.zero_mul, Int.add_zero] at nx
      refine br_t rfl (j_MD_loadOf (j_MD_loadOf ?_))
      rw [nI_1, Int32.add_zero]
      exact nx
theorem ev_loadOf {e : Nat} {W : Nat → Int} (hG : Gm I M gs) (he : e < 7) (hW : ∀ k, k < M → I 242 k = zI (W k)) : am_ev am_sh m_MD_loadOf [.ref 236, .int (nI e)] (I, J, am_Rf f g) (Rt (.int (zI (zs (fun k => zb (gs k) e * W k) M))) (I, J, am_Rf f g)) := s_MD_loadOf (j_MD_loadOf (lp_loadOf hG he hW M 0 (by omega)))
end MT
