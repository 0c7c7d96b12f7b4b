/-! no basis comes twice; how many there are; a last one is reached -/
section SX
variable {n : Nat} {col : Nat → Nat → Int} {h : Nat → Int} {V : Nat → Prop} {B : Nat → Nat → Nat} {s l : Nat → Nat} {T : Nat}
theorem Run.enters (R : Run n col h V B s l T) {k u : Nat} (hk : k < T) (h1 : ¬ Bas n (B k) u) (h2 : Bas n (B (k + 1)) u) : s k = u := by
  rw [(R.2 k hk).2, bas_step (R.ok (k := k) (by omega)) (R.2 k hk).1.1] at h2
  rcases h2 with q | q
  · exact q.symm
  · exact absurd q.1 h1
theorem Run.leaves (R : Run n col h V B s l T) {k u : Nat} (hk : k < T) (h1 : Bas n (B k) u) (h2 : ¬ Bas n (B (k + 1)) u) : B k (l k) = u := by
  rw [(R.2 k hk).2, bas_step (R.ok (k := k) (by omega)) (R.2 k hk).1.1] at h2
  by_cases q : u = B k (l k)
  · exact q.symm
  · exact absurd (Or.inr ⟨h1, q⟩) h2
theorem Run.in_next (R : Run n col h V B s l T) {k : Nat} (hk : k < T) : Bas n (B (k + 1)) (s k) := by
  rw [(R.2 k hk).2, bas_step (R.ok (k := k) (by omega)) (R.2 k hk).1.1]
  exact Or.inl rfl
theorem Run.bland (R : Run n col h V B s l T) {i j : Nat} (hij : i < j) (hj : j ≤ T) (he : ∀ u, Bas n (B i) u ↔ Bas n (B j) u) : False := by
  -- all turns between are idle
  have idle : ∀ k, i ≤ k → k < j → sP n col (B k) (l k) h = 0 := by
    rcases R.mono (i := i) (k := j) (by omega) hj with q | q
    · exfalso
      have t := psi_tell (B := B i) (B' := B j) (R.ok (k := i) (by omega)).2.1 h
      rw [zs_0 (fun r hr => by rw [psi_bas ((he _).mp ⟨r, hr, rfl⟩), Int.mul_zero]), Int.zero_add] at t
      rw [Int.mul_comm (sP n col (B j) n h), t] at q
      omega
    · exact q.2
  obtain ⟨k0, a0, b0, hmax⟩ := greatest (f := s) hij
  have P0 := (R.2 k0 (by omega)).1
  have n0 : ¬ Bas n (B k0) (s k0) := ent_nbas P0
  -- t goes somewhere
  obtain ⟨k1, a1, b1, e1⟩ : ∃ k1, i ≤ k1 ∧ k1 < j ∧ B k1 (l k1) = s k0 := by
    by_cases q : Bas n (B i) (s k0)
    · obtain ⟨k, k1, k2, k3, k4⟩ := fall (P := fun k => Bas n (B k) (s k0)) a0 q n0
      exact ⟨k, k1, by omega, R.leaves (by omega) k3 k4⟩
    · obtain ⟨k, k1, k2, k3, k4⟩ := fall (P := fun k => Bas n (B k) (s k0)) (show k0 + 1 ≤ j by omega) (R.in_next (by omega)) (fun w => q ((he _).mpr w))
      exact ⟨k, by omega, k2, R.leaves (by omega) k3 k4⟩
  have P1 := (R.2 k1 (by omega)).1
  have O0 := R.ok (k := k0) (by omega)
  have O1 := R.ok (k := k1) (by omega)
  -- what is in at k1 and out at k0 comes somewhere
  have fick : ∀ u, Bas n (B k1) u → ¬ Bas n (B k0) u → u ≤ s k0 := by
    intro u h1 h2
    have come : ∀ a b, i ≤ a → b ≤ j → a ≤ b → ¬ Bas n (B a) u → Bas n (B b) u → u ≤ s k0 := by
      intro a b ia bj ab na nb
      obtain ⟨k, c1, c2, c3, c4⟩ := rise (P := fun k => Bas n (B k) u) ab na nb
      rw [← R.enters (by omega) c3 c4]
      exact hmax k (by omega) (by omega)
    rcases Nat.lt_or_ge k0 k1 with q | q
    · exact come k0 k1 a0 (by omega) (by omega) h2 h1
    · by_cases w : Bas n (B j) u
      · exact come k0 j a0 (by omega) (by omega) h2 w
      · exact come i k1 (by omega) (by omega) a1 (fun z => w ((he _).mp z)) h1
  have tell := psi_tell (B := B k1) (B' := B k0) O1.2.1 (col (s k1))
  have c1 := P1.2.2.1
  have d0 := O0.2.2.1
  have d1 := O1.2.2.1
  have s1ne : s k1 ≠ s k0 := fun e => ent_nbas P1 ⟨l k1, P1.1, e1.trans e.symm⟩
  have ps : 0 ≤ sP n col (B k0) n (col (s k1)) := by
    by_cases q : 0 ≤ sP n col (B k0) n (col (s k1))
    · exact q
    · have x1 := P0.2.2.2.1 (s k1) P1.2.1 (by omega)
      have x2 := hmax k1 a1 b1
      omega
  have hpos : 0 < zs (fun r => sP n col (B k1) r (col (s k1)) * sP n col (B k0) n (col (B k1 r))) n := by
    have x1 := Int.mul_nonneg (Int.le_of_lt d1) ps
    have x2 := Int.mul_neg_of_neg_of_pos c1 d0
    omega
  obtain ⟨r, hr, hF⟩ := zs_pos hpos
  have nb : ¬ Bas n (B k0) (B k1 r) := fun q => by
    rw [psi_bas q, Int.mul_zero] at hF
    omega
  have ule := fick _ ⟨r, hr, rfl⟩ nb
  have une : B k1 r ≠ s k0 := fun q => by
    have : r = l k1 := bs_inj O1.2.1 hr P1.1 (q.trans e1.symm)
    rw [this, e1] at hF
    have := Int.mul_neg_of_pos_of_neg P1.2.2.2.2.1 P0.2.2.1
    omega
  have pu : 0 ≤ sP n col (B k0) n (col (B k1 r)) := by
    by_cases q : 0 ≤ sP n col (B k0) n (col (B k1 r))
    · exact q
    · have := P0.2.2.2.1 (B k1 r) (O1.1 r hr) (by omega)
      omega
  have ar : 0 < sP n col (B k1) r (col (s k1)) := by
    by_cases q : 0 < sP n col (B k1) r (col (s k1))
    · exact q
    · have := Int.mul_nonneg (show 0 ≤ - sP n col (B k1) r (col (s k1)) by omega) pu
      rw [Int.neg_mul] at this
      omega
  have z0 : Zr n col h (B k0) (B k1 r) := fun r' hr' e => absurd ⟨r', hr', e⟩ nb
  have z1 : Zr n col h (B k1) (B k1 r) := (R.zr (i := i) hj idle a1 (by omega)).mpr ((R.zr (i := i) hj idle a0 (by omega)).mp z0)
  have last := (P1.2.2.2.2.2 r hr ar).2 (by rw [z1 r hr rfl, idle k1 a1 b1, Int.zero_mul, Int.zero_mul])
  omega
/-- some row bears: the one that goes -/
theorem bears1 {B : Nat → Nat} {s : Nat} (hB : Ok n col h V B) (hV : V s) (h1 : ∀ u, V u → ∀ k, k < n → 0 ≤ col u k) (h2 : ∀ u, V u → ∃ k, k < n ∧ 0 < col u k) : ∃ r, r < n ∧ 0 < sP n col B r (col s) := by
  obtain ⟨k, hk, hc⟩ := h2 s hV
  have t := hB.2.1.2 (col s) k (by omega)
  have t2 : zs (fun r => dt (n + 1) (vs (bs n col B) r (col s)) * bs n col B r k) (n + 1) = zs (fun r => sP n col B r (col s) * col (B r) k) n := by
    rw [zs_s, bs_last, show e1v n k = 0 from if_neg (by omega), Int.mul_zero, Int.add_zero]
    exact zs_congr (fun r hr => by rw [bs_row hr]; rfl)
  rw [t2] at t
  have hp : 0 < zs (fun r => sP n col B r (col s) * col (B r) k) n := by
    rw [← t]
    exact Int.mul_pos hB.2.2.1 hc
  obtain ⟨r, hr, hF⟩ := zs_pos hp
  refine ⟨r, hr, ?_⟩
  by_cases q : 0 < sP n col B r (col s)
  · exact q
  · have := Int.mul_nonneg (show 0 ≤ - sP n col B r (col s) by omega) (h1 _ (hB.1 r hr) k hk)
    rw [Int.neg_mul] at this
    omega
end SX
/-! masks -/
def msk (p : Nat → Bool) : Nat → Nat
  | 0 => 0
  | N + 1 => msk p N + (if p N = true then 2 ^ N else 0)
theorem msk_lt (p : Nat → Bool) : ∀ N, msk p N < 2 ^ N
  | 0 => Nat.zero_lt_one
  | N + 1 => by
    have := msk_lt p N
    unfold msk
    rw [Nat.pow_succ]
    split <;> omega
theorem msk_inj {p q : Nat → Bool} : ∀ {N : Nat}, msk p N = msk q N → ∀ u, u < N → p u = q u
  | 0, _, u, hu => by omega
  | N + 1, e, u, hu => by
    have h1 := msk_lt p N
    have h2 := msk_lt q N
    unfold msk at e
    have hN : p N = q N := by
      cases hp : p N <;> cases hq : q N <;> rw [hp, hq] at e <;> simp at e <;> first | rfl | omega
    by_cases w : u = N
    · rw [w]; exact hN
    · refine msk_inj (N := N) ?_ u (by omega)
      rw [hN] at e
      omega
def pcb : Nat → Nat → Nat
  | 0, _ => 0
  | N + 1, x => if x < 2 ^ N then pcb N x else pcb N (x - 2 ^ N) + 1
theorem pcb_msk (p : Nat → Bool) : ∀ N, pcb N (msk p N) = cn p N
  | 0 => rfl
  | N + 1 => by
    have h1 := msk_lt p N
    have ih := pcb_msk p N
    unfold pcb msk cn
    cases hp : p N with
    | false => simp [h1, ih]
    | true => simp [show ¬ (msk p N + 2 ^ N < 2 ^ N) by omega, ih]
def bn : Nat → Nat → Nat
  | 0, _ => 1
  | N + 1, 0 => bn N 0
  | N + 1, j + 1 => bn N (j + 1) + bn N j
theorem cn_add (P : Nat → Bool) (a : Nat) : ∀ b, cn P (a + b) = cn P a + cn (fun x => P (a + x)) b
  | 0 => rfl
  | b + 1 => by
    show cn P (a + b) + (if P (a + b) = true then 1 else 0) = cn P a + (cn (fun x => P (a + x)) b + (if P (a + b) = true then 1 else 0))
    rw [cn_add P a b]
    omega
theorem pcb_s (N x : Nat) : pcb (N + 1) (2 ^ N + x) = pcb N x + 1 := by
  show (if 2 ^ N + x < 2 ^ N then _ else pcb N (2 ^ N + x - 2 ^ N) + 1) = _
  rw [if_neg (by omega), show 2 ^ N + x - 2 ^ N = x by omega]
theorem cn_pcb : ∀ N j, cn (fun x => decide (pcb N x ≤ j)) (2 ^ N) = bn N j
  | 0, j => by
    show 0 + (if decide (pcb 0 0 ≤ j) = true then 1 else 0) = 1
    rw [if_pos (decide_eq_true (show pcb 0 0 ≤ j from Nat.zero_le _))]
  | N + 1, j => by
    rw [Nat.pow_succ, Nat.mul_two, cn_add]
    have e1 : cn (fun x => decide (pcb (N + 1) x ≤ j)) (2 ^ N) = bn N j := by
      rw [← cn_pcb N j]
      exact cn_congr (fun k hk => by simp [pcb, hk])
    rw [e1]
    cases j with
    | zero =>
      have : cn (fun x => decide (pcb (N + 1) (2 ^ N + x) ≤ 0)) (2 ^ N) = 0 := by
        have z : ∀ b, cn (fun x => decide (pcb (N + 1) (2 ^ N + x) ≤ 0)) b = 0 := by
          intro b
          induction b with
          | zero => rfl
          | succ b ih =>
            unfold cn
            rw [ih, pcb_s]
            simp
        exact z _
      rw [this]
      rfl
    | succ j =>
      show bn N (j + 1) + _ = bn N (j + 1) + bn N j
      rw [← cn_pcb N j]
      congr 1
      exact cn_congr (fun k hk => by rw [pcb_s]; simp)
theorem bn_19 : bn 19 7 = 94184 := by decide +kernel
theorem cn_true {P Q : Nat → Bool} {N c : Nat} (hc : c < N) (hP : P c = true) (hQ : ∀ x, Q x = (P x && !decide (x = c))) : cn P N = cn Q N + 1 := by
  induction N with
  | zero => omega
  | succ N ih =>
    unfold cn
    by_cases e : c = N
    · subst e
      have : cn P c = cn Q c := cn_congr (fun k hk => by rw [hQ]; simp [show ¬ k = c by omega])
      rw [this, hQ c, hP]
      simp
    · rw [ih (by omega), hQ N]
      simp [show ¬ N = c by omega]
      omega
/-- no more than there are -/
theorem pigeon : ∀ (T : Nat) (P : Nat → Bool) (N : Nat) (f : Nat → Nat), (∀ i, i < T → f i < N ∧ P (f i) = true) → (∀ i j, i < j → j < T → f i ≠ f j) → T ≤ cn P N
  | 0, _, _, _, _, _ => Nat.zero_le _
  | T + 1, P, N, f, h1, h2 => by
    have ih := pigeon T (fun x => P x && !decide (x = f T)) N f (fun i hi => ⟨(h1 i (by omega)).1, by simp [(h1 i (by omega)).2, h2 i T hi (by omega)]⟩) (fun i j a b => h2 i j a (by omega))
    rw [cn_true (h1 T (by omega)).1 (h1 T (by omega)).2 (fun x => rfl)]
    omega
theorem cn_or2 (P Q : Nat → Bool) : ∀ N, cn (fun x => P x || Q x) N ≤ cn P N + cn Q N
  | 0 => Nat.le_refl _
  | N + 1 => by
    have := cn_or2 P Q N
    unfold cn
    cases P N <;> cases Q N <;> simp <;> omega
theorem cn_one (c : Nat) : ∀ N, cn (fun x => decide (c = x)) N ≤ (if c < N then 1 else 0)
  | 0 => Nat.zero_le _
  | N + 1 => by
    have := cn_one c N
    unfold cn
    by_cases e : c = N
    · subst e
      simp at this ⊢
      omega
    · simp [e]
      split at this <;> split <;> omega
theorem cn_img (B : Nat → Nat) (N : Nat) : ∀ n, cn (fun u => bx (fun r => decide (B r = u)) n) N ≤ n
  | 0 => by
    have z : ∀ b, cn (fun _ => bx (fun r => decide (B r = 0)) 0) b = 0 := by
      intro b
      induction b with
      | zero => rfl
      | succ b ih => unfold cn; rw [ih]; rfl
    exact Nat.le_of_eq (z N)
  | n + 1 => by
    have a := cn_img B N n
    have b := cn_or2 (fun u => bx (fun r => decide (B r = u)) n) (fun u => decide (B n = u)) N
    have c := cn_one (B n) N
    show cn (fun u => bx (fun r => decide (B r = u)) n || decide (B n = u)) N ≤ n + 1
    split at c <;> omega
section SX
variable {n : Nat} {col : Nat → Nat → Int} {h : Nat → Int} {V : Nat → Prop} {B : Nat → Nat → Nat} {s l : Nat → Nat} {T : Nat}
theorem Run.short (R : Run n col h V B s l T) (hn : n ≤ 7) (hV : ∀ u, V u → u < 19) : T < 94184 := by
  have hA : ∀ k, k < T + 1 → msk (fun u => bx (fun r => decide (B k r = u)) n) 19 < 2 ^ 19 ∧ decide (pcb 19 (msk (fun u => bx (fun r => decide (B k r = u)) n) 19) ≤ 7) = true := by
    intro k hk
    refine ⟨msk_lt _ 19, decide_eq_true ?_⟩
    rw [pcb_msk]
    have := cn_img (B k) 19 n
    omega
  have hB : ∀ i j, i < j → j < T + 1 → msk (fun u => bx (fun r => decide (B i r = u)) n) 19 ≠ msk (fun u => bx (fun r => decide (B j r = u)) n) 19 := by
    intro i j hij hj e
    refine R.bland hij (by omega) (fun u => ?_)
    have key : ∀ k, k ≤ T → (Bas n (B k) u ↔ u < 19 ∧ bx (fun r => decide (B k r = u)) n = true) := by
      intro k hk
      rw [bx_iff]
      constructor
      · rintro ⟨r, hr, e⟩
        exact ⟨by rw [← e]; exact hV _ ((R.ok hk).1 r hr), r, hr, decide_eq_true e⟩
      · rintro ⟨_, r, hr, e⟩
        exact ⟨r, hr, of_decide_eq_true e⟩
    rw [key i (by omega), key j (by omega)]
    constructor
    · rintro ⟨a, b⟩
      exact ⟨a, by rw [← msk_inj e u a]; exact b⟩
    · rintro ⟨a, b⟩
      exact ⟨a, by rw [msk_inj e u a]; exact b⟩
  have := pigeon (T + 1) (fun x => decide (pcb 19 x ≤ 7)) (2 ^ 19) (fun k => msk (fun u => bx (fun r => decide (B k r = u)) n) 19) hA hB
  rw [cn_pcb, bn_19] at this
  omega
end SX
