/-! the law: its places unfold by themselves; both objects are made -/
def al_u (X : al_T) (L : Nat) (xs : Nat → Int32) : List am_E → am_G
  | [], _, _, _, _ => False
  | e :: r, pc, ls, st, σ => am_step am_sh L xs (some .boolean) (match am_hd r with
    | true => al_run X 255
    | false => al_u X L xs r) (al_run X 255) (am_ev am_sh) (fun r _ => r = some (.int 1)) e pc ls st σ
theorem al_tk : am_sh.take 255 = am_sh := List.take_of_length_le (by rw [ac_sh_len]; exact Nat.le_refl _)
theorem al_sound {X : al_T} {L : Nat} {xs : Nat → Int32} (A : al_ok X L xs) : ∀ cd : List am_E, (∀ x ∈ cd, x ∈ am_c_La_law.drop 8) → ∀ (pc : Nat) (ls : am_L) (st : List Value) (σ : am_S), al_u X L xs cd pc ls st σ → al_run X 255 pc ls st σ := by
  intro cd
  induction cd with
  | nil => intro _ _ _ _ _ Y; exact Y.elim
  | cons x r ih =>
    intro hc pc ls st σ Y
    obtain ⟨t, hd, hk⟩ := al_d8 x (hc x List.mem_cons_self)
    refine al_plain A (Nat.le_refl _) hd hk (go := match am_hd r with | true => al_run X 255 | false => al_u X L xs r) (fun pc ls st σ g => ?_) (by rw [al_tk]; exact Y)
    cases hb : am_hd r with
    | true =>
      rw [hb] at g
      exact g
    | false =>
      rw [hb] at g
      exact ih (fun x hx => hc x (List.mem_cons_of_mem _ hx)) pc ls st σ g
theorem al_jmp {X : al_T} {L : Nat} {xs : Nat → Int32} (A : al_ok X L xs) {pc : Nat} {ls : am_L} {st : List Value} {σ : am_S} (Y : al_u X L xs (am_at (am_c_La_law.drop 8) pc) pc ls st σ) : al_run X 255 pc ls st σ := al_sound A _ (fun _ hx => am_at_mem hx) pc ls st σ Y
def al_lo1 (n : Nat) : Value → Bool
  | .ref i => Nat.ble (i + 1) n || Nat.ble 255 i
  | _ => true
def al_loL (n : Nat) (ls : am_L) : Bool := ls.all (fun v => match v with
  | some v => al_lo1 n v
  | none => true)
theorem al_lo1_of {n i : Nat} (h : al_lo1 n (.ref i) = true) : i < n ∨ 255 ≤ i := by
  have h2 : (Nat.ble (i + 1) n || Nat.ble 255 i) = true := h
  rw [Bool.or_eq_true] at h2
  exact h2.elim (fun q => Or.inl (Nat.le_of_ble_eq_true q)) (fun q => Or.inr (Nat.le_of_ble_eq_true q))
theorem al_loL_of {n : Nat} {ls : am_L} (h : al_loL n ls = true) : al_lowL n ls := fun i hi => al_lo1_of (List.all_eq_true.mp h _ hi)
theorem al_loS_of {n : Nat} {st : List Value} (h : st.all (al_lo1 n) = true) : al_lowS n st := fun i hi => al_lo1_of (List.all_eq_true.mp h _ hi)
theorem al_swap {X : al_T} {n pc : Nat} {ls : am_L} {st : List Value} {I : Nat → Nat → Int32} {J : Nat → Nat → Int64} {R R' : Nat → Nat → Option Nat} (hR : ∀ i x, i < n → am_sh[i]? = some x → al_agr R R' i x) (Y : al_run X n pc ls st (I, J, R')) : al_run X n pc ls st (I, J, R) := by
  obtain ⟨p, l, e, s, m, below, meth, c, b, D, cy, adV, β⟩ := X
  intro α H locs rl hag hh hS hl
  exact Y α H locs rl hag (al_hr_eq hR hh) hS hl
theorem al_begin0 {X : al_T} {L : Nat} {xs : Nat → Int32} (A : al_ok X L xs) {w1 w2 : ac_W} (ev1 : ac_ev m_MG_init 1 236 0 (ac_sg (1, [], [])) (fun s => s = ac_sg w1)) (lo1 : ac_lo 236 [] [] w1 = true) (ev2 : ac_ev m_MD_init 237 255 236 (ac_sg (237, w1.2)) (fun s => s = ac_sg w2)) (Y : al_run X 255 16 [some (.ref am_SC), some (.ref 0), some (.ref 236), none] [] (ac_sg w2)) : al_run X 0 0 [some (.ref am_SC), none, none, none] [] (ac_sg (0, [], [])) := by
  obtain ⟨-, -, l3, l4, l5⟩ := ac_lo_of lo1
  refine al_new A (n := 0) (ci := 10) (N := 11) (index := 7) (C := RX10) (T := TX10) (by decide +kernel) rfl (am_w_in (c := 0) (i := 20) (by decide +kernel)) (by decide +kernel) (fun _ => rfl) (fun _ => rfl) (fun i k j hi _ => absurd hi (Nat.not_lt_zero i)) (al_loL_of rfl) (al_loS_of rfl) ?_
  refine al_plain A (n := 1) (by omega) (x := (3, .dup, 1, 0, 0, 0, .null, [])) (t := (0, 0)) (by decide +kernel) (by decide +kernel) (go := al_run X 1) (fun _ _ _ _ g => g) ?_
  show al_run X 1 4 [some (.ref am_SC), none, none, none] [.ref 0, .ref 0] (ac_sg (1, [], []))
  refine al_call A (z := m_MG_init) (n := 1) (n2 := 236) (i := 0) (idx := 9) (q2 := fun s => s = ac_sg w1) (by decide +kernel) (am_w_in (c := 0) (i := 22) (by decide +kernel)) (by decide +kernel) (by decide +kernel) (by decide +kernel) (by decide +kernel) (by decide +kernel) (by omega) (by omega) (by decide) (al_loL_of rfl) (al_loS_of rfl) ev1 (fun σ' e => ?_)
  subst e
  refine al_plain A (n := 236) (by omega) (x := (7, .astore_n 1, 1, 0, 0, 0, .null, [])) (t := (0, 0)) (by decide +kernel) (by decide +kernel) (go := al_run X 236) (fun _ _ _ _ g => g) ?_
  show al_run X 236 8 [some (.ref am_SC), some (.ref 0), none, none] [] (ac_sg w1)
  refine al_new A (n := 236) (ci := 11) (N := 27) (index := 10) (C := RX11) (T := TX11) (by decide +kernel) rfl (am_w_in (c := 3) (i := 139) (by decide +kernel)) (by decide +kernel) (fun j => l4 236 j (Nat.le_refl _)) (fun j => l5 236 j (Nat.le_refl _)) l3 (al_loL_of rfl) (al_loS_of rfl) ?_
  refine al_plain A (n := 237) (by omega) (x := (11, .dup, 1, 0, 0, 0, .null, [])) (t := (0, 0)) (by decide +kernel) (by decide +kernel) (go := al_run X 237) (fun _ _ _ _ g => g) ?_
  show al_run X 237 12 [some (.ref am_SC), some (.ref 0), none, none] [.ref 236, .ref 236] (ac_sg (237, w1.2))
  refine al_call A (z := m_MD_init) (n := 237) (n2 := 255) (i := 236) (idx := 12) (q2 := fun s => s = ac_sg w2) (by decide +kernel) (am_w_in (c := 3) (i := 141) (by decide +kernel)) (by decide +kernel) (by decide +kernel) (by decide +kernel) (by decide +kernel) (by decide +kernel) (by omega) (by omega) (by decide) (al_loL_of rfl) (al_loS_of rfl) ev2 (fun σ' e => ?_)
  subst e
  refine al_plain A (n := 255) (by omega) (x := (15, .astore_n 2, 1, 0, 0, 0, .null, [])) (t := (0, 0)) (by decide +kernel) (by decide +kernel) (go := al_run X 255) (fun _ _ _ _ g => g) ?_
  exact Y
theorem al_mk {f y i n n2 : Nat} {w0 w : ac_W} (hp : ac_pl y) (h : ac_go f y (am_code y) 0 (am_fill [.ref i] (am_max y)) [] w0 = some w) (h0 : w0.1 = n) (h2 : w.1 = n2) : ac_ev y n n2 i (ac_sg w0) (fun s => s = ac_sg w) := by
  subst h0
  subst h2
  exact ac_ev_of (y := y) hp.1 hp.2.1 hp.2.2.2.1 hp.2.2.2.2.1 ((ac_go_sound f y (am_code y) 0 (am_fill [.ref i] (am_max y)) [] w0 w hp (fun e he => he) h).2 w0.1 (Nat.le_refl _))
theorem al_evs : ∃ w1 w2 : ac_W, ac_ev m_MG_init 1 236 0 (ac_sg (1, [], [])) (fun s => s = ac_sg w1) ∧ ac_lo 236 [] [] w1 = true ∧ ac_ev m_MD_init 237 255 236 (ac_sg (237, w1.2)) (fun s => s = ac_sg w2) ∧ ac_finI w2.2.1 = true ∧ ac_finR w2.2.2 = true := by
  obtain ⟨w1, a1, a2, a3⟩ := ac_c1_of ac_r1
  obtain ⟨w2, b1, b2, b3, b4⟩ := ac_c2_of ac_r2
  have b5 : ac_n2 ac_o1 = some w2 := by
    unfold ac_o2 at b1
    exact b1
  exact ⟨w1, w2, al_mk ac_p_MG_init (ac_o1_eq a1) rfl a2, a3, al_mk ac_p_MD_init (ac_n2_eq a1 b5) rfl b2, b3, b4⟩
theorem al_begin {X : al_T} {L : Nat} {xs : Nat → Int32} (A : al_ok X L xs) (Y : ∀ σ, Inv σ → al_run X 255 16 [some (.ref am_SC), some (.ref 0), some (.ref 236), none] [] σ) : al_run X 0 0 [some (.ref am_SC), none, none, none] [] (ac_sg (0, [], [])) := by
  obtain ⟨w1, w2, h1, h2, h3, h4, h5⟩ := al_evs
  refine al_begin0 A h1 h2 h3 ?_
  exact al_swap (ac_finR_of h5) (Y _ (ac_inv h4))
