/-! the game of probing: what it is worth -/
def ov (hs : Nat → Bool) (n u d : Nat) : Bool := hs u || !hs ((2 ^ n - 1) ^^^ d)
def opn (n u d e : Nat) : Bool := decide (e < n) && !tb u e && !tb d e
/-- the least of some numbers -/
def fm (O : Nat → Bool) (Y : Nat → Nat) (e x : Nat) : Nat := if O e = true then (if Y e < x then Y e else x) else x
def py (T : Nat → Nat → Nat) (u d e : Nat) : Nat := 1 + max (T (u ||| 2 ^ e) d) (T u (d ||| 2 ^ e))
def pv (hs : Nat → Bool) (n : Nat) : Nat → Nat → Nat → Nat
  | 0, _, _ => 0
  | k + 1, u, d => if ov hs n u d = true then 0 else fo (fm (opn n u d) (py (pv hs n k) u d)) 7 7
def pV (hs : Nat → Bool) (n u d : Nat) : Nat := pv hs n (n - (pc7 u + pc7 d)) u d
theorem pc7_or {s p : Nat} (hs : s < 128) (hp : p < 7) (h : tb s p = false) : pc7 (s ||| 2 ^ p) = pc7 s + 1 ∧ s ||| 2 ^ p < 128 := by
  have hl : s ||| 2 ^ p < 128 := Nat.or_lt_two_pow (n := 7) hs (Nat.pow_lt_pow_right (by omega) hp)
  have := pc12_or (s := s) (p := p) (by omega) (by omega)
  rw [pc12_7 _ hl, pc12_7 _ hs, h, if_neg (by decide)] at this
  exact ⟨this, hl⟩
theorem full_tab : ∀ n, n < 8 → ∀ u, u < 2 ^ n → ∀ d, d < 2 ^ n → Nat.beq (u &&& d) 0 = true → (n ≤ pc7 u + pc7 d → (2 ^ n - 1) ^^^ d = u) := by decide +kernel
theorem open_tab : ∀ n, n < 8 → ∀ u, u < 2 ^ n → ∀ d, d < 2 ^ n → Nat.beq (u &&& d) 0 = true → (pc7 u + pc7 d < n → bx (opn n u d) 7 = true) := by decide +kernel
theorem fm_congr {O : Nat → Bool} {Y Z : Nat → Nat} {a n : Nat} (h : ∀ e, e < n → O e = true → Y e = Z e) : fo (fm O Y) a n = fo (fm O Z) a n := by
  refine fo_congr (fun e he x => ?_)
  unfold fm
  by_cases q : O e = true
  · rw [if_pos q, if_pos q, h e he q]
  · rw [if_neg q, if_neg q]
theorem fm_le {O : Nat → Bool} {Y : Nat → Nat} {a e : Nat} (hO : O e = true) : ∀ n, e < n → fo (fm O Y) a n ≤ Y e
  | 0, h => by omega
  | n + 1, h => by
    rw [fo_s]
    by_cases q : e = n
    · subst q
      unfold fm
      rw [if_pos hO]
      split <;> omega
    · have := fm_le (a := a) (Y := Y) hO n (by omega)
      generalize fo (fm O Y) a n = x at this
      unfold fm
      split
      · split <;> omega
      · exact this
theorem fm_a {O : Nat → Bool} {Y : Nat → Nat} {a : Nat} : ∀ n, fo (fm O Y) a n ≤ a
  | 0 => Nat.le_refl _
  | n + 1 => by
    rw [fo_s]
    have := fm_a (O := O) (Y := Y) (a := a) n
    generalize fo (fm O Y) a n = x at this
    unfold fm
    split
    · split <;> omega
    · exact this
theorem fm_at {O : Nat → Bool} {Y : Nat → Nat} {a : Nat} : ∀ n, fo (fm O Y) a n = a ∨ ∃ e, e < n ∧ O e = true ∧ Y e = fo (fm O Y) a n
  | 0 => Or.inl rfl
  | n + 1 => by
    have ih := fm_at (O := O) (Y := Y) (a := a) n
    rw [fo_s]
    generalize fo (fm O Y) a n = x at ih
    unfold fm
    by_cases q : O n = true
    · rw [if_pos q]
      by_cases q2 : Y n < x
      · rw [if_pos q2]
        exact Or.inr ⟨n, by omega, q, rfl⟩
      · rw [if_neg q2]
        exact ih.imp id (fun ⟨e, e1, e2, e3⟩ => ⟨e, by omega, e2, e3⟩)
    · rw [if_neg q]
      exact ih.imp id (fun ⟨e, e1, e2, e3⟩ => ⟨e, by omega, e2, e3⟩)
theorem pv_s {hs : Nat → Bool} {n k u d : Nat} : pv hs n (k + 1) u d = if ov hs n u d = true then 0 else fo (fm (opn n u d) (py (pv hs n k) u d)) 7 7 := rfl
theorem opn_iff {n u d e : Nat} : opn n u d e = true ↔ e < n ∧ tb u e = false ∧ tb d e = false := by
  unfold opn
  rw [Bool.and_eq_true, Bool.and_eq_true, decide_eq_true_iff, Bool.not_eq_true', Bool.not_eq_true', and_assoc]
theorem pV_eq {hs : Nat → Bool} {n u d : Nat} (h8 : n < 8) (hu : u < 2 ^ n) (hd : d < 2 ^ n) (hx : u &&& d = 0) : pV hs n u d = if ov hs n u d = true then 0 else fo (fm (opn n u d) (py (pV hs n) u d)) 7 7 := by
  have h7 := pow_le7 h8
  have hb : Nat.beq (u &&& d) 0 = true := by rw [hx]; rfl
  rcases Nat.lt_or_ge (pc7 u + pc7 d) n with h | h
  · obtain ⟨k, hk⟩ : ∃ k, n - (pc7 u + pc7 d) = k + 1 := ⟨n - (pc7 u + pc7 d) - 1, by omega⟩
    have e0 : pV hs n u d = pv hs n (k + 1) u d := by unfold pV; rw [hk]
    rw [e0, pv_s]
    congr 1
    refine fm_congr (fun e he hO => ?_)
    obtain ⟨o1, o2, o3⟩ := opn_iff.mp hO
    have a1 := pc7_or (s := u) (p := e) (by omega) he o2
    have a2 := pc7_or (s := d) (p := e) (by omega) he o3
    have e1 : pV hs n (u ||| 2 ^ e) d = pv hs n k (u ||| 2 ^ e) d := by unfold pV; rw [a1.1, show n - (pc7 u + 1 + pc7 d) = k by omega]
    have e2 : pV hs n u (d ||| 2 ^ e) = pv hs n k u (d ||| 2 ^ e) := by unfold pV; rw [a2.1, show n - (pc7 u + (pc7 d + 1)) = k by omega]
    unfold py
    rw [e1, e2]
  · have e := full_tab n h8 u hu d hd hb h
    have : ov hs n u d = true := by
      unfold ov
      rw [e]
      cases hs u <;> rfl
    rw [if_pos this]
    unfold pV
    rw [show n - (pc7 u + pc7 d) = 0 by omega]
    rfl
theorem or_dis {u d e : Nat} (hx : u &&& d = 0) (h : tb d e = false) : (u ||| 2 ^ e) &&& d = 0 := by
  apply Nat.eq_of_testBit_eq
  intro i
  have q := congrArg (fun z => z.testBit i) hx
  simp only [Nat.testBit_and, Nat.zero_testBit] at q
  rw [tb_bit] at h
  simp only [Nat.testBit_and, Nat.testBit_or, Nat.testBit_two_pow, Nat.zero_testBit]
  by_cases qe : e = i
  · subst qe; rw [h, Bool.and_false]
  · rw [decide_eq_false qe, Bool.or_false]; exact q
theorem or_dis2 {u d e : Nat} (hx : u &&& d = 0) (h : tb u e = false) : u &&& (d ||| 2 ^ e) = 0 := by
  rw [Nat.and_comm]
  exact or_dis (by rw [Nat.and_comm]; exact hx) h
theorem py_le {hs : Nat → Bool} {n k u d e : Nat} (h8 : n < 8) (ih : ∀ u d, u < 2 ^ n → d < 2 ^ n → u &&& d = 0 → n - (pc7 u + pc7 d) = k → pV hs n u d ≤ k) (hu : u < 2 ^ n) (hd : d < 2 ^ n) (hx : u &&& d = 0) (hk : n - (pc7 u + pc7 d) = k + 1) (hO : opn n u d e = true) : py (pV hs n) u d e ≤ k + 1 := by
  have h7 := pow_le7 h8
  obtain ⟨o1, o2, o3⟩ := opn_iff.mp hO
  have a1 := pc7_or (s := u) (p := e) (by omega) (by omega) o2
  have a2 := pc7_or (s := d) (p := e) (by omega) (by omega) o3
  have b1 := ih (u ||| 2 ^ e) d (or_lt hu o1) hd (or_dis hx o3) (by omega)
  have b2 := ih u (d ||| 2 ^ e) hu (or_lt hd o1) (or_dis2 hx o2) (by omega)
  unfold py
  omega
theorem pV_le {hs : Nat → Bool} {n : Nat} (h8 : n < 8) : ∀ k u d, u < 2 ^ n → d < 2 ^ n → u &&& d = 0 → n - (pc7 u + pc7 d) = k → pV hs n u d ≤ k := by
  intro k
  induction k with
  | zero =>
    intro u d hu hd hx hk
    unfold pV
    rw [hk]
    exact Nat.le_refl _
  | succ k ih =>
    intro u d hu hd hx hk
    rw [pV_eq h8 hu hd hx]
    split
    · omega
    · have hb : Nat.beq (u &&& d) 0 = true := by rw [hx]; rfl
      obtain ⟨e, he, hO⟩ := bx_iff.mp (open_tab n h8 u hu d hd hb (by omega))
      exact Nat.le_trans (fm_le hO 7 he) (py_le h8 ih hu hd hx hk hO)
theorem pV_le7 {hs : Nat → Bool} {n u d : Nat} (h8 : n < 8) (hu : u < 2 ^ n) (hd : d < 2 ^ n) (hx : u &&& d = 0) : pV hs n u d ≤ 7 := by
  have := pV_le (hs := hs) h8 _ u d hu hd hx rfl
  omega
/-- some probe is worth what the state is -/
theorem pV_at {hs : Nat → Bool} {n u d : Nat} (h8 : n < 8) (hu : u < 2 ^ n) (hd : d < 2 ^ n) (hx : u &&& d = 0) (ho : ov hs n u d = false) : ∃ e, e < n ∧ opn n u d e = true ∧ py (pV hs n) u d e = pV hs n u d := by
  have hb : Nat.beq (u &&& d) 0 = true := by rw [hx]; rfl
  have e := pV_eq (hs := hs) h8 hu hd hx
  rw [ho, if_neg (by decide)] at e
  have hlt : pc7 u + pc7 d < n := by
    rcases Nat.lt_or_ge (pc7 u + pc7 d) n with h | h
    · exact h
    · have e2 := full_tab n h8 u hu d hd hb h
      unfold ov at ho
      rw [e2] at ho
      cases hq : hs u <;> rw [hq] at ho <;> cases ho
  rcases fm_at (O := opn n u d) (Y := py (pV hs n) u d) (a := 7) 7 with q | ⟨e', e1, e2, e3⟩
  · obtain ⟨e', he, hO⟩ := bx_iff.mp (open_tab n h8 u hu d hd hb hlt)
    refine ⟨e', (opn_iff.mp hO).1, hO, ?_⟩
    have l1 := fm_le (Y := py (pV hs n) u d) (a := 7) hO 7 he
    obtain ⟨k, hk⟩ : ∃ k, n - (pc7 u + pc7 d) = k + 1 := ⟨n - (pc7 u + pc7 d) - 1, by omega⟩
    have l2 := py_le (hs := hs) h8 (pV_le h8 k) hu hd hx hk hO
    omega
  · exact ⟨e', (opn_iff.mp e2).1, e2, by rw [e3, ← e]⟩
theorem py_ge {hs : Nat → Bool} {n u d e : Nat} (h8 : n < 8) (hu : u < 2 ^ n) (hd : d < 2 ^ n) (hx : u &&& d = 0) (ho : ov hs n u d = false) (hO : opn n u d e = true) : pV hs n u d ≤ py (pV hs n) u d e := by
  rw [pV_eq h8 hu hd hx, ho, if_neg (by decide)]
  exact fm_le hO 7 (by have := (opn_iff.mp hO).1; omega)
