/-! what on both -/
section T24
variable {f g : Nat → Nat} {I : Nat → Nat → Int32} {J : Nat → Nat → Int64} {A N : Nat} {vs : Nat → Nat} {v : Nat → Int32}
theorem bl_eq {a b : Bool} (h : a = true ↔ b = true) : a = b := by cases a <;> cases b <;> simp at h ⊢
theorem any_tw (hv : ∀ k, k < N → v k = nI (vs k) ∧ vs k < 128) : any2 v N = ba (fun i => ba (fun k => Nat.beq i k || tw 0 (vs i) (vs k)) N) N := by
  have e : ∀ i k, i < N → k < N → (!decide (v i &&& v k = 0)) = tw 0 (vs i) (vs k) := fun i k hi hk => by
    unfold tw
    rw [if_pos rfl, (hv i hi).1, (hv k hk).1, nI_and]
  have sy : ∀ i k, tw 0 (vs i) (vs k) = tw 0 (vs k) (vs i) := fun i k => by
    unfold tw
    rw [if_pos rfl, if_pos rfl, Nat.and_comm]
  apply bl_eq
  unfold any2
  rw [ba_iff, ba_iff]
  constructor
  · intro h i hi
    rw [ba_iff]
    intro k hk
    rcases Nat.lt_trichotomy i k with q | q | q
    · have := ba_iff.mp (h k hk) i q
      rw [e k i hk hi, sy] at this
      rw [this, Bool.or_true]
    · rw [q, beq_rf]; rfl
    · have := ba_iff.mp (h i hi) k q
      rw [e i k hi hk] at this
      rw [this, Bool.or_true]
  · intro h i hi
    rw [ba_iff]
    intro k hk
    have := ba_iff.mp (h i hi) k (by omega)
    rw [nbq (by omega), Bool.false_or] at this
    rw [e i k hi (by omega)]
    exact this
theorem non_tw (hv : ∀ k, k < N → v k = nI (vs k) ∧ vs k < 128) : non2 v N = ba (fun i => ba (fun k => Nat.beq i k || tw 1 (vs i) (vs k)) N) N := by
  have e : ∀ i k, i < N → k < N → (!decide (v i &&& (v k ^^^ (-1)) = 0)) = tw 1 (vs i) (vs k) := fun i k hi hk => by
    show _ = !sb (vs i) (vs k)
    rw [(hv i hi).1, (hv k hk).1]
    congr 1
    have := sb_tab _ (hv i hi).2 _ (hv k hk).2
    cases hb : sb (vs i) (vs k) with
    | true => exact decide_eq_true (this.mpr hb)
    | false => exact decide_eq_false (fun q => by rw [this.mp q] at hb; cases hb)
  apply bl_eq
  unfold non2
  rw [ba_iff, ba_iff]
  constructor
  · intro h i hi
    rw [ba_iff]
    intro k hk
    have := ba_iff.mp (h k hk) i hi
    rw [e i k hi hk] at this
    exact this
  · intro h k hk
    rw [ba_iff]
    intro i hi
    have := ba_iff.mp (h i hi) k hk
    rw [e i k hi hk]
    exact this
theorem one_tw (hN : 1 ≤ N) (hv : ∀ k, k < N → v k = nI (vs k) ∧ vs k < 128) : one2 v N = ba (fun i => ba (fun k => Nat.beq i k || tw 2 (vs i) (vs k)) N) N := by
  have e : ∀ i, i < N → (bc (v i) = bc (v 0) ↔ pc7 (vs i) = pc7 (vs 0)) := fun i hi => by
    have h0 := hv 0 (by omega)
    have h1 := hv i hi
    have p0 := pc7_le _ h0.2
    have p1 := pc7_le _ h1.2
    rw [h0.1, h1.1, bc_tab _ h0.2, bc_tab _ h1.2]
    exact nI_eq (by omega) (by omega)
  apply bl_eq
  unfold one2
  rw [ba_iff, ba_iff]
  constructor
  · intro h i hi
    rw [ba_iff]
    intro k hk
    have h1 := (e i hi).mp (of_decide_eq_true (h i hi))
    have h2 := (e k hk).mp (of_decide_eq_true (h k hk))
    have : tw 2 (vs i) (vs k) = true := decide_eq_true (h1.trans h2.symm)
    rw [this, Bool.or_true]
  · intro h i hi
    refine decide_eq_true ((e i hi).mpr ?_)
    by_cases q : i = 0
    · rw [q]
    · have := ba_iff.mp (h i hi) 0 (by omega)
      rw [nbq q, Bool.false_or] at this
      exact of_decide_eq_true this
theorem shr1_tab : ∀ e, e < 8 → ∀ s, s < 128 → nI s >>> (nI e &&& 31) &&& 1 = nI (if tb s e = true then 1 else 0) := by decide +kernel
theorem tmf_own {e : Nat} (he : e < 8) : ∀ N, (∀ k, k < N → v k = nI (vs k) ∧ vs k < 128) → fo (tmf v (nI e)) 0 N = nI (own vs N e)
  | 0, _ => rfl
  | N + 1, hv => by
    rw [fo_s, tmf_own he N (fun k hk => hv k (by omega))]
    unfold tmf own
    rw [(hv N (by omega)).1, shr1_tab e he _ (hv N (by omega)).2, nI_add]
    congr 1
theorem evn_own {n : Nat} (h8 : n < 8) (h12 : N ≤ 12) (hv : ∀ k, k < N → v k = nI (vs k) ∧ vs k < 128) : evn v N n = ba (fun e => decide (own vs N e = own vs N 0)) n := by
  unfold evn ba
  congr 1
  refine bx_congr (fun e he => ?_)
  have o1 := own_le vs N e
  have o2 := own_le vs N 0
  show (!decide (fo (tmf v (nI e)) 0 N = fo (tmf v (nI 0)) 0 N)) = !decide (own vs N e = own vs N 0)
  rw [tmf_own (by omega) N hv, tmf_own (by omega) N hv]
  congr 1
  rw [decide_eq_decide]
  exact nI_eq (by omega) (by omega)
theorem jb_some {pl : Nat → Option Nat} {k p : Nat} (h : pl k = some p) : jb pl k = !tb (fo (sn (fun j => (pl j).getD 0)) 0 k) p := by
  unfold jb
  rw [h]
theorem jb_none {pl : Nat → Option Nat} {k : Nat} (h : pl k = none) : jb pl k = false := by
  unfold jb
  rw [h]
theorem jst_jb {G : Nat → Int32} {M : Nat} (h12 : N ≤ 12) (hM12 : M ≤ 12) : jst G M v N = (decide (N = M) && ba (jb (fun k => plc G M (v k))) N) := by
  have hp12 : ∀ k p, plc G M (v k) = some p → p < 12 := fun k p h => by have := (fi_some h).1; omega
  have hg12 : ∀ k, (plc G M (v k)).getD 0 < 12 := fun k => by
    cases h : plc G M (v k) with
    | none => show 0 < 12; omega
    | some p => exact hp12 k p h
  have hlt := fun k => sn_lt (pl := fun j => (plc G M (v j)).getD 0) k (fun j _ => hg12 j)
  have hfo : ∀ n, (∀ k, k < n → (plc G M (v k)).isSome = true) → fo (fnd G M v) 0 n = nI (fo (sn (fun j => (plc G M (v j)).getD 0)) 0 n) := by
    intro n
    induction n with
    | zero => intro _; rfl
    | succ n ih =>
      intro h
      rw [fo_s, fo_s, ih (fun k hk => h k (by omega))]
      have hs := h n (by omega)
      cases hp : plc G M (v n) with
      | none => rw [hp] at hs; cases hs
      | some p =>
        show nI _ ||| (1 : Int32) <<< (oi (plc G M (v n)) &&& 31) = nI (_ ||| 2 ^ (plc G M (v n)).getD 0)
        rw [hp]
        show nI _ ||| (1 : Int32) <<< (nI p &&& 31) = nI (_ ||| 2 ^ p)
        rw [shl_tab p (by have := hp12 n p hp; omega), nI_or]
  have hcn : ∀ n, pc12 (fo (sn (fun j => (plc G M (v j)).getD 0)) 0 n) = cn (fun k => !tb (fo (sn (fun j => (plc G M (v j)).getD 0)) 0 k) ((plc G M (v k)).getD 0)) n := by
    intro n
    induction n with
    | zero => show pc12 0 = 0; decide
    | succ n ih =>
      rw [fo_s]
      show pc12 (fo (sn _) 0 n ||| 2 ^ _) = _
      rw [pc12_or (hlt n) (hg12 n), ih]
      cases hb : tb (fo (sn (fun j => (plc G M (v j)).getD 0)) 0 n) ((plc G M (v n)).getD 0) with
      | true => rw [cn_no (by show (!tb _ _) = false; rw [hb]; rfl), if_pos rfl]; rfl
      | false => rw [cn_yes (by show (!tb _ _) = true; rw [hb]; rfl), if_neg (by decide)]
  have call : ∀ (P : Nat → Bool) n, cn P n = n ↔ ∀ k, k < n → P k = true := by
    intro P n
    induction n with
    | zero => exact ⟨fun _ k hk => by omega, fun _ => rfl⟩
    | succ n ih =>
      have hle := cn_le P n
      cases hp : P n with
      | true =>
        rw [cn_yes hp]
        constructor
        · intro h k hk
          by_cases e : k = n
          · rw [e]; exact hp
          · exact ih.mp (by omega) k (by omega)
        · intro h
          rw [ih.mpr (fun k hk => h k (by omega))]
      | false =>
        rw [cn_no hp]
        constructor
        · intro h; omega
        · intro h
          have := h n (by omega)
          rw [hp] at this
          cases this
  unfold jst
  by_cases hall : ∀ k, k < N → (plc G M (v k)).isSome = true
  · rw [ba_iff.mpr hall, Bool.true_and]
    congr 1
    rw [hfo N hall, bc12 _ (hlt N), hcn N]
    apply bl_eq
    rw [ba_iff, decide_eq_true_iff]
    have hle := cn_le (fun k => !tb (fo (sn (fun j => (plc G M (v j)).getD 0)) 0 k) ((plc G M (v k)).getD 0)) N
    rw [nI_eq (by omega) (by omega), call]
    constructor
    · intro h k hk
      have := h k hk
      have hs := hall k hk
      cases hp : plc G M (v k) with
      | none => rw [hp] at hs; cases hs
      | some p =>
        rw [hp] at this
        rw [jb_some (pl := fun k => plc G M (v k)) hp]
        exact this
    · intro h k hk
      have := h k hk
      have hs := hall k hk
      cases hp : plc G M (v k) with
      | none => rw [hp] at hs; cases hs
      | some p =>
        rw [jb_some (pl := fun k => plc G M (v k)) hp] at this
        exact this
  · have hx : ∃ k, k < N ∧ (plc G M (v k)).isSome = false := by
      by_cases q : ∃ k, k < N ∧ (plc G M (v k)).isSome = false
      · exact q
      · refine absurd (fun k hk => ?_) hall
        cases h : (plc G M (v k)).isSome with
        | true => rfl
        | false => exact absurd ⟨k, hk, h⟩ q
    obtain ⟨k, hk, hn⟩ := hx
    rw [ba_no hk hn, Bool.false_and, Bool.false_and]
    have : jb (fun k => plc G M (v k)) k = false := by
      cases hp : plc G M (v k) with
      | none => exact jb_none (pl := fun k => plc G M (v k)) hp
      | some p => rw [hp] at hn; cases hn
    rw [ba_no hk this, Bool.and_false]
end T24
