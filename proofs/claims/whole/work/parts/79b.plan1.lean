/-! what a plan weighs, on both -/
/-- the plan's weight on the group k -/
def pwk (ps pw : Nat → Nat) (gs : Nat → Nat) (m k : Nat) : Int := zs (fun i => if ps i = gs k then (pw i : Int) else 0) m
section PL
variable {f g : Nat → Nat} {I : Nat → Nat → Int32} {J : Nat → Nat → Int64} {M : Nat} {gs ps pw : Nat → Nat}
theorem pwk_one {T : Nat → Bool} (hd : ∀ i j, i < M → j < M → gs i = gs j → i = j) (m : Nat) : zs (fun k => (if T (gs k) = true then 1 else 0) * (if ps m = gs k then (pw m : Int) else 0)) M = if (∃ k, k < M ∧ gs k = ps m) ∧ T (ps m) = true then (pw m : Int) else 0 := by
  by_cases q : ∃ k, k < M ∧ gs k = ps m
  · obtain ⟨k0, h1, h2⟩ := id q
    rw [zs_one (s := k0) h1 (fun i hi hn => by rw [if_neg (c := ps m = gs i) (fun e => hn (hd i k0 hi h1 (by rw [← e, h2]))), Int.mul_zero])]
    rw [if_pos (c := ps m = gs k0) h2.symm, h2]
    by_cases w : T (ps m) = true
    · rw [if_pos w, if_pos ⟨q, w⟩, Int.one_mul]
    · rw [if_neg w, if_neg (fun e => w e.2), Int.zero_mul]
  · rw [if_neg (fun e => q e.1)]
    exact zs_0 (fun k hk => by rw [if_neg (c := ps m = gs k) (fun e => q ⟨k, hk, e.symm⟩), Int.mul_zero])
theorem fi_grp {x : Int32} {s : Nat} (hx : x = nI s) (hs : s < 128) (hg : ∀ k, k < M → I 2 k = nI (gs k) ∧ gs k < 128) : ¬ fi (fun j => decide (I (1 + 1) j = x)) M = none ↔ ∃ k, k < M ∧ gs k = s := by
  rw [fi_none]
  constructor
  · intro h
    refine Classical.byContradiction (fun q => h (fun k hk => decide_eq_false (fun e => q ⟨k, hk, ?_⟩)))
    have e : I 2 k = x := e
    rw [(hg k hk).1, hx, nI_eq (by have := (hg k hk).2; omega) (by omega)] at e
    exact e
  · rintro ⟨k, hk, e⟩ h
    have := of_decide_eq_false (h k hk)
    refine this ?_
    show I 2 k = x
    rw [(hg k hk).1, hx, e]
theorem wof_sum {p : Nat} {el : Int32} {T : Nat → Bool} (hd : ∀ i j, i < M → j < M → gs i = gs j → i = j) (hg : ∀ k, k < M → I 2 k = nI (gs k) ∧ gs k < 128) (hp : ∀ i, i < 12 → I (1 + 5 + p) i = nI (ps i) ∧ ps i < 128 ∧ I (1 + 10 + p) i = nI (pw i)) (hT : ∀ i, i < 12 → (∃ k, k < M ∧ gs k = ps i) → (¬ nI (ps i) &&& el = 0 ↔ T (ps i) = true)) : ∀ m, m ≤ 12 → fo (wof I 1 M p el) 0 m = zI (zs (fun k => (if T (gs k) = true then 1 else 0) * pwk ps pw gs m k) M) := by
  intro m
  induction m with
  | zero =>
    intro _
    rw [zs_0 (fun k _ => by show _ * (0 : Int) = 0; exact Int.mul_zero _)]
    rfl
  | succ m ih =>
    intro hm
    have hpm := hp m (by omega)
    have e : zs (fun k => (if T (gs k) = true then 1 else 0) * pwk ps pw gs (m + 1) k) M = zs (fun k => (if T (gs k) = true then 1 else 0) * pwk ps pw gs m k) M + (if (∃ k, k < M ∧ gs k = ps m) ∧ T (ps m) = true then (pw m : Int) else 0) := by
      rw [← pwk_one hd m, ← zs_add]
      refine zs_congr (fun k _ => ?_)
      unfold pwk
      rw [zs_s, Int.mul_add]
    rw [e, fo_s, ih (by omega)]
    unfold wof
    have fg := fi_grp hpm.1 hpm.2.1 hg
    by_cases c : (∃ k, k < M ∧ gs k = ps m) ∧ T (ps m) = true
    · rw [if_pos c, if_pos ⟨by rw [hpm.1]; exact (hT m (by omega) c.1).mpr c.2, fg.mpr c.1⟩, hpm.2.2, ← zI_add, zI_nat]
    · rw [if_neg c, Int.add_zero, if_neg]
      rintro ⟨q1, q2⟩
      have g1 := fg.mp q2
      rw [hpm.1] at q1
      exact c ⟨g1, (hT m (by omega) g1).mp q1⟩
theorem pwk_abs {m k : Nat} (hm : m ≤ 12) (hw : ∀ i, i < 12 → pw i ≤ 99) : (pwk ps pw gs m k).natAbs ≤ 1188 := by
  have := zs_abs (F := fun i => if ps i = gs k then (pw i : Int) else 0) (B := 99) m (fun i hi => by
    have := hw i (by omega)
    show (if ps i = gs k then (pw i : Int) else 0).natAbs ≤ 99
    split
    · omega
    · decide)
  unfold pwk
  omega
theorem pwk_nn (m k : Nat) : 0 ≤ pwk ps pw gs m k := zs_nn (fun i _ => by
  show 0 ≤ (if ps i = gs k then (pw i : Int) else 0)
  split
  · omega
  · decide)
/-- the greatest, none below 0 -/
def mxf (L : Nat → Int) : Nat → Int
  | 0 => 0
  | e + 1 => if mxf L e < L e then L e else mxf L e
theorem mxf_nn (L : Nat → Int) : ∀ n, 0 ≤ mxf L n
  | 0 => Int.le_refl _
  | n + 1 => by
    have := mxf_nn L n
    unfold mxf
    split <;> omega
theorem mxf_le {L : Nat → Int} {B : Int} (h0 : 0 ≤ B) : ∀ n, (∀ e, e < n → L e ≤ B) → mxf L n ≤ B
  | 0, _ => h0
  | n + 1, h => by
    have a := mxf_le h0 n (fun e he => h e (by omega))
    have b := h n (by omega)
    unfold mxf
    split <;> omega
theorem mxf_cut {L : Nat → Int} {a : Nat} : ∀ {b : Nat}, a ≤ b → (∀ e, a ≤ e → e < b → L e = 0) → mxf L b = mxf L a := by
  intro b
  induction b with
  | zero => intro h _; rw [show a = 0 by omega]
  | succ b ih =>
    intro h h0
    by_cases e : a = b + 1
    · rw [e]
    · have := mxf_nn L b
      have q := h0 b (by omega) (by omega)
      show (if mxf L b < L b then L b else mxf L b) = _
      rw [if_neg (by omega)]
      exact ih (by omega) (fun u h1 h2 => h0 u h1 (by omega))
theorem lp_weighs1 {p k : Nat} {s : Int32} {q : am_Q} (hG : Gm I M gs) (hk : k < M) (hp4 : p < 4) (hp : ∀ i, i < 12 → I 237 (16 + 25 * p + 1 + i) = nI (ps i) ∧ ps i < 128 ∧ I 237 (16 + 25 * p + 13 + i) = nI (pw i)) (K : ∀ (I' : Nat → Nat → Int32) w, I' 242 k = zI (pwk ps pw gs 12 k) → (∀ j, j ≠ k → I' 242 j = I 242 j) → (∀ b, b ≠ 242 → I' b = I b) → am_run am_sh m_MD_weighs q 88 [some (.ref 236), some (.int (nI p)), some (.int s), some (.int (nI k)), w] [] (I', J, am_Rf f g)) : ∀ m i (I' : Nat → Nat → Int32), m + i = 12 → I' 242 k = zI (pwk ps pw gs i k) → (∀ j, j ≠ k → I' 242 j = I 242 j) → (∀ b, b ≠ 242 → I' b = I b) → am_u am_sh m_MD_weighs q (am_at am_c_MD_weighs 21) 21 [some (.ref 236), some (.int (nI p)), some (.int s), some (.int (nI k)), some (.int (nI (i + 1)))] [] (I', J, am_Rf f g) := by
  have h12 := hG.2.1
  have gg := hG.2.2 k hk
  intro m
  induction m with
  | zero =>
    intro i I' hm h1 h2 h3
    obtain rfl : i = 12 := by omega
    exact br_t (by decide) (K I' _ h1 h2 h3)
  | succ m ih =>
    intro i I' hm h1 h2 h3
    have e237 := h3 237 (by omega)
    have hpi := hp i (by omega)
    have sv : I' 237 (16 + 25 * p + 1 + i) = nI (ps i) := by rw [e237]; exact hpi.1
    have wv : I' 237 (16 + 25 * p + 13 + i) = nI (pw i) := by rw [e237]; exact hpi.2.2
    have nx : ∀ x : Int32, x = zI (pwk ps pw gs (i + 1) k) → am_u am_sh m_MD_weighs q (am_at am_c_MD_weighs 21) 21 [some (.ref 236), some (.int (nI p)), some (.int s), some (.int (nI k)), some (.int (nI (i + 1 + 1)))] [] (am_up I' 242 k x, J, am_Rf f g) := fun x hx => ih (i + 1) _ (by omega) (by rw [am_up_eq, hx]) (fun j hj => by rw [am_up_ne (by omega)]; exact h2 j hj) (fun b hb => by rw [up_cell hb, h3 b hb])
    have pe : pwk ps pw gs (i + 1) k = pwk ps pw gs i k + (if ps i = gs k then (pw i : Int) else 0) := rfl
    refine br_f (nI_nlt (a := 12) (by omega) (by omega)) ⟨242, rfl, rfl, 12, k, rfl, by omega, rfl, 237, rfl, rfl, 116, 16 + 25 * p + 1 + i, rfl, by omega, ?_, rfl, (ev_mat (by omega)).rt ⟨fun hq => j_MD_weighs ⟨12, k, rfl, by omega, rfl, j_MD_weighs ?_⟩, fun hq => ⟨237, rfl, rfl, 116, 16 + 25 * p + 13 + i, rfl, by omega, ?_, j_MD_weighs ⟨12, k, rfl, by omega, rfl, j_MD_weighs ?_⟩⟩⟩⟩
    · show nI 16 + nI 25 * nI p + nI (i + 1) = _
      rw [nI_mul, nI_add, nI_add]
      congr 1
      omega
    · have hq : ¬ I' 237 (16 + 25 * p + 1 + i) = I' 237 (4 + k) := hq
      rw [sv, e237, gg.1, nI_eq (by omega) (by omega)] at hq
      rw [nI_1]
      refine nx _ ?_
      rw [pe, if_neg hq, Int.add_zero, h1, Int32.add_zero]
    · show nI 16 + nI 25 * nI p + nI 12 + nI (i + 1) = _
      rw [nI_mul, nI_add, nI_add, nI_add]
      congr 1
      omega
    · have hq : I' 237 (16 + 25 * p + 1 + i) = I' 237 (4 + k) := hq
      rw [sv, e237, gg.1, nI_eq (by omega) (by omega)] at hq
      rw [nI_1]
      refine nx _ ?_
      rw [pe, if_pos hq, h1, wv, ← zI_nat, zI_add]
theorem lp_weighs {p : Nat} (hG : Gm I M gs) (hp4 : p < 4) (hp : ∀ i, i < 12 → I 237 (16 + 25 * p + 1 + i) = nI (ps i) ∧ ps i < 128 ∧ I 237 (16 + 25 * p + 13 + i) = nI (pw i)) : ∀ m k w (I' : Nat → Nat → Int32), m + k = M → (∀ j, j < k → I' 242 j = zI (pwk ps pw gs 12 j)) → (∀ j, k ≤ j → j < 12 → I' 242 j = 0) → (∀ b, b ≠ 241 → b ≠ 242 → I' b = I b) → am_u am_sh m_MD_weighs (fun x σ' => ∃ I', x = some (.int (zI (zs (pwk ps pw gs 12) M))) ∧ σ' = (I', J, am_Rf f g) ∧ (∀ j, j < M → I' 242 j = zI (pwk ps pw gs 12 j)) ∧ ∀ b, b ≠ 241 → b ≠ 242 → I' b = I b) (am_at am_c_MD_weighs 8) 8 [some (.ref 236), some (.int (nI p)), some (.int (zI (zs (pwk ps pw gs 12) k))), some (.int (nI k)), w] [] (I', J, am_Rf f g) := by
  have h12 := hG.2.1
  intro m
  induction m with
  | zero =>
    intro k w I' hm h1 h2 h3
    obtain rfl : k = M := by omega
    exact ⟨237, rfl, rfl, 116, 1, rfl, by omega, rfl, br_t (by rw [h3 237 (by omega) (by omega), hG.1]; exact nI_le (Nat.le_refl _) (by omega)) (j_MD_weighs ⟨I', rfl, rfl, h1, h3⟩)⟩
  | succ m ih =>
    intro k w I' hm h1 h2 h3
    have e237 := h3 237 (by omega) (by omega)
    refine ⟨237, rfl, rfl, 116, 1, rfl, by omega, rfl, br_f (by rw [e237, hG.1]; exact nI_ge (by omega) (by omega)) (j_MD_weighs (lp_weighs1 (I := I') (ps := ps) (pw := pw) (hG.of e237) (show k < M by omega) hp4 (by rw [e237]; exact hp) (fun I1 w a1 a2 a3 => j_MD_weighs ⟨242, rfl, rfl, 12, k, rfl, by omega, rfl, j_MD_weighs ?_⟩) 12 0 I' (by omega) (h2 k (Nat.le_refl _) (by omega)) (fun j _ => rfl) (fun b _ => rfl)))⟩
    rw [nI_1, a1, zI_add, ← zs_s]
    refine ih (k + 1) _ I1 (by omega) (fun j hj => ?_) (fun j b1 b2 => ?_) (fun b b1 b2 => by rw [a3 b b2, h3 b b1 b2])
    · by_cases e : j = k
      · rw [e]; exact a1
      · rw [a2 j e]; exact h1 j (by omega)
    · rw [a2 j (by omega)]; exact h2 j (by omega) b2
theorem ev_weighs {p : Nat} (hG : Gm I M gs) (hp4 : p < 4) (hp : ∀ i, i < 12 → I 237 (16 + 25 * p + 1 + i) = nI (ps i) ∧ ps i < 128 ∧ I 237 (16 + 25 * p + 13 + i) = nI (pw i)) : am_ev am_sh m_MD_weighs [.ref 236, .int (nI p)] (I, J, am_Rf f g) (fun x σ' => ∃ I', x = some (.int (zI (zs (pwk ps pw gs 12) M))) ∧ σ' = (I', J, am_Rf f g) ∧ (∀ j, j < M → I' 242 j = zI (pwk ps pw gs 12 j)) ∧ ∀ b, b ≠ 241 → b ≠ 242 → I' b = I b) := by
  refine s_MD_weighs ⟨rfl, ev_clears.mono ?_⟩
  rintro r σ' ⟨rfl, I1, rfl, c1, c2, c3⟩
  have e237 := c3 237 (by omega) (by omega)
  refine j_MD_weighs ((lp_weighs (I := I) hG hp4 hp M 0 none I1 (by omega) (fun j hj => by omega) (fun j _ hj => c1 j hj) c3))
end PL
