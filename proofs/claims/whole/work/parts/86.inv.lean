/-! what the interpreter's checks say: one at a time -/
theorem ac_si_of {st : List Value} {K : Int32 → List Value → Option ac_W} {w' : ac_W} (h : ac_si st K = some w') : ∃ x s, st = .int x :: s ∧ K x s = some w' := by
  cases st with
  | nil => exact absurd (show (none : Option ac_W) = some w' from h) (by simp)
  | cons v s =>
    cases v with
    | int x => exact ⟨x, s, rfl, h⟩
    | _ => exact absurd (show (none : Option ac_W) = some w' from h) (by simp)
theorem ac_sr_of {st : List Value} {K : Nat → List Value → Option ac_W} {w' : ac_W} (h : ac_sr st K = some w') : ∃ x s, st = .ref x :: s ∧ K x s = some w' := by
  cases st with
  | nil => exact absurd (show (none : Option ac_W) = some w' from h) (by simp)
  | cons v s =>
    cases v with
    | ref x => exact ⟨x, s, rfl, h⟩
    | _ => exact absurd (show (none : Option ac_W) = some w' from h) (by simp)
theorem ac_li_of {o : Option (Option Value)} {K : Int32 → Option ac_W} {w' : ac_W} (h : ac_li o K = some w') : ∃ x, o = some (some (.int x)) ∧ K x = some w' := by
  cases o with
  | none => exact absurd (show (none : Option ac_W) = some w' from h) (by simp)
  | some o =>
    cases o with
    | none => exact absurd (show (none : Option ac_W) = some w' from h) (by simp)
    | some v =>
      cases v with
      | int x => exact ⟨x, rfl, h⟩
      | _ => exact absurd (show (none : Option ac_W) = some w' from h) (by simp)
theorem ac_lr_of {o : Option (Option Value)} {K : Nat → Option ac_W} {w' : ac_W} (h : ac_lr o K = some w') : ∃ x, o = some (some (.ref x)) ∧ K x = some w' := by
  cases o with
  | none => exact absurd (show (none : Option ac_W) = some w' from h) (by simp)
  | some o =>
    cases o with
    | none => exact absurd (show (none : Option ac_W) = some w' from h) (by simp)
    | some v =>
      cases v with
      | ref x => exact ⟨x, rfl, h⟩
      | _ => exact absurd (show (none : Option ac_W) = some w' from h) (by simp)
theorem ac_vi_of {v : Value} {K : Int32 → Option ac_W} {w' : ac_W} (h : ac_vi v K = some w') : ∃ x, v = .int x ∧ K x = some w' := by
  cases v with
  | int x => exact ⟨x, rfl, h⟩
  | _ => exact absurd (show (none : Option ac_W) = some w' from h) (by simp)
theorem ac_op_of {β : Type} {o : Option β} {K : β → Option ac_W} {w' : ac_W} (h : ac_op o K = some w') : ∃ x, o = some x ∧ K x = some w' := by
  cases o with
  | none => exact absurd (show (none : Option ac_W) = some w' from h) (by simp)
  | some x => exact ⟨x, rfl, h⟩
theorem ac_if_of {b : Bool} {x : Option ac_W} {w' : ac_W} (h : ac_if b x = some w') : b = true ∧ x = some w' := by
  cases b with
  | true => exact ⟨rfl, h⟩
  | false => exact absurd (show (none : Option ac_W) = some w' from h) (by simp)
theorem ac_at_sub {c : List am_E} {a : Nat} : ∀ e ∈ am_at c a, e ∈ c := by
  induction c with
  | nil =>
    intro e h
    exact h
  | cons x r ih =>
    intro e h
    unfold am_at at h
    cases hb : Nat.beq x.1 a with
    | true =>
      rw [hb] at h
      exact h
    | false =>
      rw [hb] at h
      exact List.mem_cons_of_mem _ (ih e h)
theorem ac_isC_pl {a : Nat} (h : ac_isC a = true) : ac_pl a := by
  unfold ac_isC at h
  obtain ⟨c, hc, hb⟩ := List.any_eq_true.mp h
  have e : c = a := Nat.eq_of_beq_eq_true hb
  subst e
  simp only [List.mem_cons, List.not_mem_nil, or_false] at hc
  rcases hc with rfl | rfl | rfl | rfl | rfl | rfl | rfl | rfl | rfl | rfl | rfl | rfl
  · exact ac_p_Hi_init
  · exact ac_p_Ho_init
  · exact ac_p_Pa_init
  · exact ac_p_Pl_init
  · exact ac_p_Pr_init
  · exact ac_p_Re_init
  · exact ac_p_Ro_init
  · exact ac_p_Sh_init
  · exact ac_p_St_init
  · exact ac_p_Ta_init
  · exact ac_p_MG_init
  · exact ac_p_MD_init
theorem ac_in {h : am_H} {t k : Nat} {i : Int32} {K : Nat → Prop} {c : Nat × Nat} (h1 : h[t]? = some c) (h2 : Nat.beq c.1 k = true) (h3 : i = nI i.toNatClampNeg) (h4 : Nat.ble (i.toNatClampNeg + 1) c.2 = true) (hK : K i.toNatClampNeg) : am_in h t k i K := by
  obtain ⟨c1, c2⟩ := c
  have e : c1 = k := Nat.eq_of_beq_eq_true h2
  subst e
  exact ⟨c2, i.toNatClampNeg, h1, Nat.le_of_ble_eq_true h4, h3, hK⟩
theorem ac_kn_of {n i : Nat} {x : Nat × Nat} (h : ac_kn n i = some x) : (am_sh.take n)[i]? = some x ∧ i < n ∧ am_sh[i]? = some x := by
  unfold ac_kn at h
  cases hb : Nat.ble (i + 1) n with
  | true =>
    rw [hb] at h
    have hi : i < n := Nat.le_of_ble_eq_true hb
    exact ⟨by rw [ac_tk hi]; exact h, hi, h⟩
  | false =>
    rw [hb] at h
    exact absurd (show (none : Option (Nat × Nat)) = some x from h) (by simp)
theorem ac_small {n k N : Nat} (h : am_sh[n]? = some (k, N)) : N ≤ 1000000 := by
  have h0 : am_sh.all (fun x => Nat.ble x.2 1000000) = true := by decide +kernel
  exact Nat.le_of_ble_eq_true (List.all_eq_true.mp h0 _ (List.mem_of_getElem? h))
theorem ac_rows_ne {n i : Nat} {z : List (Nat × Nat × Nat)} (h : i ≠ n) : ∀ N, ac_R (ac_rows n N z) i = ac_R z i
  | 0 => rfl
  | m + 1 => by
    funext k
    show (if i = n ∧ k = m then some (n + 1 + m) else ac_R (ac_rows n m z) i k) = _
    rw [if_neg (fun q => h q.1), ac_rows_ne h m]
theorem ac_rows_at {n : Nat} {z : List (Nat × Nat × Nat)} : ∀ N j, j < N → ac_R (ac_rows n N z) n j = some (n + 1 + j)
  | 0, j, h => absurd h (Nat.not_lt_zero j)
  | m + 1, j, hj => by
    show (if n = n ∧ j = m then some (n + 1 + m) else ac_R (ac_rows n m z) n j) = _
    by_cases e : j = m
    · subst e
      rw [if_pos ⟨rfl, rfl⟩]
    · rw [if_neg (fun q => e q.2)]
      exact ac_rows_at m j (by omega)
theorem ac_aty_ok {ty : ArrayType} (h : 12 ≤ ac_aty ty) {σ : am_S} {n N : Nat} (hI : ∀ j, σ.1 n j = 0) (hJ : ∀ j, σ.2.1 n j = 0) : Cond.arrayClass (newarray.typeOf ty) ∈ am_TS ∧ (∀ cy : Nat → ClassId, (am_tys cy)[ac_aty ty - 12]? = some (cy (ac_aty ty), newarray.typeOf ty)) ∧ componentBytes (newarray.typeOf ty) ≤ 8 ∧ ∀ (cy : Nat → ClassId) (α : Nat → Nat), ∃ a0 : vp_A, am_cell cy α σ n (ac_aty ty, N) = .inl (cy (ac_aty ty), a0) ∧ vp_cell (cy (ac_aty ty)) a0 = arrV (cy (ac_aty ty)) N (fun _ => defaultValue (newarray.typeOf ty)) := by
  cases ty with
  | byte =>
    refine ⟨am_w_in (c := 0) (i := 190) (by decide +kernel), fun cy => rfl, by decide, fun cy α => ⟨(N, .inl (σ.1 n)), am_cell_I (Or.inl rfl), ?_⟩⟩
    show arrV _ N (fun j => .int (σ.1 n j)) = _
    exact ac_arrV (fun j _ => by rw [hI]; rfl)
  | char =>
    refine ⟨am_w_in (c := 0) (i := 123) (by decide +kernel), fun cy => rfl, by decide, fun cy α => ⟨(N, .inl (σ.1 n)), am_cell_I (Or.inr (Or.inl rfl)), ?_⟩⟩
    show arrV _ N (fun j => .int (σ.1 n j)) = _
    exact ac_arrV (fun j _ => by rw [hI]; rfl)
  | int =>
    refine ⟨am_w_in (c := 0) (i := 56) (by decide +kernel), fun cy => rfl, by decide, fun cy α => ⟨(N, .inl (σ.1 n)), am_cell_I (Or.inr (Or.inr (Or.inl rfl))), ?_⟩⟩
    show arrV _ N (fun j => .int (σ.1 n j)) = _
    exact ac_arrV (fun j _ => by rw [hI]; rfl)
  | long =>
    refine ⟨am_w_in (c := 1) (i := 16) (by decide +kernel), fun cy => rfl, by decide, fun cy α => ⟨(N, .inr (.inl (σ.2.1 n))), am_cell_J, ?_⟩⟩
    show arrV _ N (fun j => .long (σ.2.1 n j)) = _
    exact ac_arrV (fun j _ => by rw [hJ]; rfl)
  | boolean =>
    refine ⟨am_w_in (c := 0) (i := 165) (by decide +kernel), fun cy => rfl, by decide, fun cy α => ⟨(N, .inl (σ.1 n)), am_cell_I (Or.inr (Or.inr (Or.inr rfl))), ?_⟩⟩
    show arrV _ N (fun j => .int (σ.1 n j)) = _
    exact ac_arrV (fun j _ => by rw [hI]; rfl)
  | _ => exact absurd h (by decide)
theorem ac_ob1 : Cond.instanceMethod Lib.objectInit ∈ am_TS := am_w_in (c := 0) (i := 26) (by decide +kernel)
theorem ac_ob2 : Cond.code Lib.objectInit ⟨#[0xb1]⟩ 1 none ∈ am_TS := am_w_in (c := 0) (i := 27) (by decide +kernel)
