/-! what the interpreter reaches, the machine reaches -/
def ac_SD (y pc : Nat) (ls : am_L) (st : List Value) (w w' : ac_W) : Prop := w.1 ≤ w'.1 ∧ ∀ n0, n0 ≤ w.1 → ac_run y n0 w'.1 (fun s => s = ac_sg w') w.1 pc ls st (ac_sg w)
def ac_GS (go : ac_GO) : Prop := ∀ (y : Nat) (cd : List am_E) (pc : Nat) (ls : am_L) (st : List Value) (w w' : ac_W), ac_pl y → (∀ e ∈ cd, e ∈ am_code y) → go y cd pc ls st w = some w' → ac_SD y pc ls st w w'
theorem ac_pln {y pc : Nat} {ls : am_L} {st : List Value} {w w' : ac_W} (hp : ac_pl y) {x : am_E} {t : Nat × Nat} (hd : decode (am_bytes y) x.1 = .ok (x.2.1, x.2.2.1)) (hk : am_ok (am_name y).cls (am_fr y) (am_lo y) x t = true) (hle : w.1 ≤ w'.1) (X : ∀ n0, n0 ≤ w.1 → am_step (am_sh.take w.1) 0 (fun _ => 0) (am_ret y) (ac_run y n0 w'.1 (fun s => s = ac_sg w') w.1) (ac_run y n0 w'.1 (fun s => s = ac_sg w') w.1) (fun _ _ _ _ => False) (fun r σ => r = none ∧ w.1 = w'.1 ∧ σ = ac_sg w') x pc ls st (ac_sg w)) : ac_SD y pc ls st w w' := ⟨hle, fun n0 h0 => ac_plain hp.2.2.1 hle (ac_sl_le hle) hd hk (X n0 h0)⟩
set_option maxHeartbeats 8000000 in
theorem ac_one_sound {go : ac_GO} (hgo : ac_GS go) {y : Nat} {e : am_E} {r : List am_E} {pc : Nat} {ls : am_L} {st : List Value} {w w' : ac_W} (hp : ac_pl y) (he : e ∈ am_code y) (hr : ∀ e ∈ r, e ∈ am_code y) (hone : ac_one go y e r pc ls st w = some w') : ac_SD y pc ls st w w' := by
  obtain ⟨p, ins, len, a, d, k, v, sw⟩ := e
  obtain ⟨n, u, z⟩ := w
  obtain ⟨t, hd, hk⟩ := hp.2.2.2.2.2.2.2 _ he
  clear he
  dsimp only at hd
  obtain ⟨hbq, h⟩ := ac_if_of hone
  clear hone
  have e0 : p = pc := Nat.eq_of_beq_eq_true hbq
  subst e0
  cases ins with
  | iconst c =>
    have g := hgo _ _ _ _ _ _ _ hp hr h
    refine ac_pln (x := (p, .iconst c, len, a, d, k, v, sw)) (t := t) hp hd hk g.1 (fun n0 h0 => ?_)
    show am_step (am_sh.take n) 0 (fun _ => 0) (am_ret y) _ _ _ _ (p, .iconst c, len, a, d, k, v, sw) p ls st (ac_I u, fun _ _ => 0, ac_R z)
    unfold am_step
    dsimp only
    rw [hbq]
    exact g.2 n0 h0
  | bipush c =>
    have g := hgo _ _ _ _ _ _ _ hp hr h
    refine ac_pln (x := (p, .bipush c, len, a, d, k, v, sw)) (t := t) hp hd hk g.1 (fun n0 h0 => ?_)
    show am_step (am_sh.take n) 0 (fun _ => 0) (am_ret y) _ _ _ _ (p, .bipush c, len, a, d, k, v, sw) p ls st (ac_I u, fun _ _ => 0, ac_R z)
    unfold am_step
    dsimp only
    rw [hbq]
    exact g.2 n0 h0
  | sipush c =>
    have g := hgo _ _ _ _ _ _ _ hp hr h
    refine ac_pln (x := (p, .sipush c, len, a, d, k, v, sw)) (t := t) hp hd hk g.1 (fun n0 h0 => ?_)
    show am_step (am_sh.take n) 0 (fun _ => 0) (am_ret y) _ _ _ _ (p, .sipush c, len, a, d, k, v, sw) p ls st (ac_I u, fun _ _ => 0, ac_R z)
    unfold am_step
    dsimp only
    rw [hbq]
    exact g.2 n0 h0
  | aload_n i =>
    obtain ⟨x, hx, hh1⟩ := ac_lr_of h
    have g := hgo _ _ _ _ _ _ _ hp hr hh1
    refine ac_pln (x := (p, .aload_n i, len, a, d, k, v, sw)) (t := t) hp hd hk g.1 (fun n0 h0 => ?_)
    show am_step (am_sh.take n) 0 (fun _ => 0) (am_ret y) _ _ _ _ (p, .aload_n i, len, a, d, k, v, sw) p ls st (ac_I u, fun _ _ => 0, ac_R z)
    unfold am_step
    dsimp only
    rw [hbq]
    exact ac_lget_of (v := .ref x) (g.2 n0 h0) hx
  | iload_n i =>
    obtain ⟨x, hx, hh2⟩ := ac_li_of h
    have g := hgo _ _ _ _ _ _ _ hp hr hh2
    refine ac_pln (x := (p, .iload_n i, len, a, d, k, v, sw)) (t := t) hp hd hk g.1 (fun n0 h0 => ?_)
    show am_step (am_sh.take n) 0 (fun _ => 0) (am_ret y) _ _ _ _ (p, .iload_n i, len, a, d, k, v, sw) p ls st (ac_I u, fun _ _ => 0, ac_R z)
    unfold am_step
    dsimp only
    rw [hbq]
    exact ac_lget_of (v := .int x) (g.2 n0 h0) hx
  | iload i =>
    obtain ⟨x, hx, hh3⟩ := ac_li_of h
    have g := hgo _ _ _ _ _ _ _ hp hr hh3
    refine ac_pln (x := (p, .iload i, len, a, d, k, v, sw)) (t := t) hp hd hk g.1 (fun n0 h0 => ?_)
    show am_step (am_sh.take n) 0 (fun _ => 0) (am_ret y) _ _ _ _ (p, .iload i, len, a, d, k, v, sw) p ls st (ac_I u, fun _ _ => 0, ac_R z)
    unfold am_step
    dsimp only
    rw [hbq]
    exact ac_lget_of (v := .int x) (g.2 n0 h0) hx
  | istore_n i =>
    obtain ⟨x, s, rfl, hh4⟩ := ac_si_of h
    obtain ⟨hb, hh5⟩ := ac_if_of hh4
    rw [Bool.and_eq_true] at hb
    have g := hgo _ _ _ _ _ _ _ hp hr hh5
    refine ac_pln (x := (p, .istore_n i, len, a, d, k, v, sw)) (t := t) hp hd hk g.1 (fun n0 h0 => ?_)
    show am_step (am_sh.take n) 0 (fun _ => 0) (am_ret y) _ _ _ _ (p, .istore_n i, len, a, d, k, v, sw) p ls (.int x :: s) (ac_I u, fun _ _ => 0, ac_R z)
    unfold am_step
    dsimp only
    rw [hbq]
    exact ac_lset_of hb.1 (Nat.le_of_ble_eq_true hb.2) (g.2 n0 h0)
  | istore i =>
    obtain ⟨x, s, rfl, hh6⟩ := ac_si_of h
    obtain ⟨hb, hh7⟩ := ac_if_of hh6
    rw [Bool.and_eq_true] at hb
    have g := hgo _ _ _ _ _ _ _ hp hr hh7
    refine ac_pln (x := (p, .istore i, len, a, d, k, v, sw)) (t := t) hp hd hk g.1 (fun n0 h0 => ?_)
    show am_step (am_sh.take n) 0 (fun _ => 0) (am_ret y) _ _ _ _ (p, .istore i, len, a, d, k, v, sw) p ls (.int x :: s) (ac_I u, fun _ _ => 0, ac_R z)
    unfold am_step
    dsimp only
    rw [hbq]
    exact ac_lset_of hb.1 (Nat.le_of_ble_eq_true hb.2) (g.2 n0 h0)
  | iinc i c =>
    obtain ⟨x, hx, hh8⟩ := ac_li_of h
    obtain ⟨zz, rfl, hh9⟩ := ac_vi_of hh8
    obtain ⟨hb, hh10⟩ := ac_if_of hh9
    rw [Bool.and_eq_true] at hb
    have g := hgo _ _ _ _ _ _ _ hp hr hh10
    refine ac_pln (x := (p, .iinc i c, len, a, d, k, .int zz, sw)) (t := t) hp hd hk g.1 (fun n0 h0 => ?_)
    show am_step (am_sh.take n) 0 (fun _ => 0) (am_ret y) _ _ _ _ (p, .iinc i c, len, a, d, k, .int zz, sw) p ls st (ac_I u, fun _ _ => 0, ac_R z)
    unfold am_step
    dsimp only
    rw [hbq]
    refine ac_lget_of (v := .int x) ?_ hx
    exact ac_lset_of hb.1 (Nat.le_of_ble_eq_true hb.2) (g.2 n0 h0)
  | iadd =>
    obtain ⟨y2, s, rfl, hh11⟩ := ac_si_of h
    obtain ⟨x, s, rfl, hh12⟩ := ac_si_of hh11
    have g := hgo _ _ _ _ _ _ _ hp hr hh12
    refine ac_pln (x := (p, .iadd, len, a, d, k, v, sw)) (t := t) hp hd hk g.1 (fun n0 h0 => ?_)
    show am_step (am_sh.take n) 0 (fun _ => 0) (am_ret y) _ _ _ _ (p, .iadd, len, a, d, k, v, sw) p ls (.int y2 :: .int x :: s) (ac_I u, fun _ _ => 0, ac_R z)
    unfold am_step
    dsimp only
    rw [hbq]
    exact g.2 n0 h0
  | imul =>
    obtain ⟨y2, s, rfl, hh13⟩ := ac_si_of h
    obtain ⟨x, s, rfl, hh14⟩ := ac_si_of hh13
    have g := hgo _ _ _ _ _ _ _ hp hr hh14
    refine ac_pln (x := (p, .imul, len, a, d, k, v, sw)) (t := t) hp hd hk g.1 (fun n0 h0 => ?_)
    show am_step (am_sh.take n) 0 (fun _ => 0) (am_ret y) _ _ _ _ (p, .imul, len, a, d, k, v, sw) p ls (.int y2 :: .int x :: s) (ac_I u, fun _ _ => 0, ac_R z)
    unfold am_step
    dsimp only
    rw [hbq]
    exact g.2 n0 h0
  | ior =>
    obtain ⟨y2, s, rfl, hh15⟩ := ac_si_of h
    obtain ⟨x, s, rfl, hh16⟩ := ac_si_of hh15
    have g := hgo _ _ _ _ _ _ _ hp hr hh16
    refine ac_pln (x := (p, .ior, len, a, d, k, v, sw)) (t := t) hp hd hk g.1 (fun n0 h0 => ?_)
    show am_step (am_sh.take n) 0 (fun _ => 0) (am_ret y) _ _ _ _ (p, .ior, len, a, d, k, v, sw) p ls (.int y2 :: .int x :: s) (ac_I u, fun _ _ => 0, ac_R z)
    unfold am_step
    dsimp only
    rw [hbq]
    exact g.2 n0 h0
  | ishl =>
    obtain ⟨y2, s, rfl, hh17⟩ := ac_si_of h
    obtain ⟨x, s, rfl, hh18⟩ := ac_si_of hh17
    have g := hgo _ _ _ _ _ _ _ hp hr hh18
    refine ac_pln (x := (p, .ishl, len, a, d, k, v, sw)) (t := t) hp hd hk g.1 (fun n0 h0 => ?_)
    show am_step (am_sh.take n) 0 (fun _ => 0) (am_ret y) _ _ _ _ (p, .ishl, len, a, d, k, v, sw) p ls (.int y2 :: .int x :: s) (ac_I u, fun _ _ => 0, ac_R z)
    unfold am_step
    dsimp only
    rw [hbq]
    exact g.2 n0 h0
  | dup =>
    obtain ⟨x, s, rfl, hh19⟩ := ac_sr_of h
    have g := hgo _ _ _ _ _ _ _ hp hr hh19
    refine ac_pln (x := (p, .dup, len, a, d, k, v, sw)) (t := t) hp hd hk g.1 (fun n0 h0 => ?_)
    show am_step (am_sh.take n) 0 (fun _ => 0) (am_ret y) _ _ _ _ (p, .dup, len, a, d, k, v, sw) p ls (.ref x :: s) (ac_I u, fun _ _ => 0, ac_R z)
    unfold am_step
    dsimp only
    rw [hbq]
    exact g.2 n0 h0
  | if_icmp c off =>
    cases c with
    | ge =>
      obtain ⟨y2, s, rfl, hh20⟩ := ac_si_of h
      obtain ⟨x, s, rfl, hh21⟩ := ac_si_of hh20
      cases hc : decide (y2 ≤ x) with
      | true =>
        rw [hc] at hh21
        have g := hgo _ _ _ _ _ _ _ hp ac_at_sub hh21
        refine ac_pln (x := (p, .if_icmp .ge off, len, a, d, k, v, sw)) (t := t) hp hd hk g.1 (fun n0 h0 => ?_)
        show am_step (am_sh.take n) 0 (fun _ => 0) (am_ret y) _ _ _ _ (p, .if_icmp .ge off, len, a, d, k, v, sw) p ls (.int y2 :: .int x :: s) (ac_I u, fun _ _ => 0, ac_R z)
        unfold am_step
        dsimp only
        rw [hbq]
        exact ⟨fun _ => g.2 n0 h0, fun hn => absurd (of_decide_eq_true hc) hn⟩
      | false =>
        rw [hc] at hh21
        have g := hgo _ _ _ _ _ _ _ hp hr hh21
        refine ac_pln (x := (p, .if_icmp .ge off, len, a, d, k, v, sw)) (t := t) hp hd hk g.1 (fun n0 h0 => ?_)
        show am_step (am_sh.take n) 0 (fun _ => 0) (am_ret y) _ _ _ _ (p, .if_icmp .ge off, len, a, d, k, v, sw) p ls (.int y2 :: .int x :: s) (ac_I u, fun _ _ => 0, ac_R z)
        unfold am_step
        dsimp only
        rw [hbq]
        exact ⟨fun hn => absurd hn (of_decide_eq_false hc), fun _ => g.2 n0 h0⟩
    | _ => exact absurd (show (none : Option ac_W) = some w' from h) (by simp)
  | goto off =>
    have g := hgo _ _ _ _ _ _ _ hp ac_at_sub h
    refine ac_pln (x := (p, .goto off, len, a, d, k, v, sw)) (t := t) hp hd hk g.1 (fun n0 h0 => ?_)
    show am_step (am_sh.take n) 0 (fun _ => 0) (am_ret y) _ _ _ _ (p, .goto off, len, a, d, k, v, sw) p ls st (ac_I u, fun _ _ => 0, ac_R z)
    unfold am_step
    dsimp only
    rw [hbq]
    exact g.2 n0 h0
  | getfield ix =>
    obtain ⟨i, s, rfl, hh22⟩ := ac_sr_of h
    obtain ⟨hb, hh23⟩ := ac_if_of hh22
    rw [Bool.and_eq_true, decide_eq_true_eq] at hb
    obtain ⟨hb1, hb2⟩ := hb
    obtain ⟨j, hj, hh24⟩ := ac_op_of hh23
    have e2 : k = 2 := Nat.eq_of_beq_eq_true hb2
    subst e2
    have g := hgo _ _ _ _ _ _ _ hp hr hh24
    refine ac_pln (x := (p, .getfield ix, len, a, d, 2, v, sw)) (t := t) hp hd hk g.1 (fun n0 h0 => ?_)
    show am_step (am_sh.take n) 0 (fun _ => 0) (am_ret y) _ _ _ _ (p, .getfield ix, len, a, d, 2, v, sw) p ls (.ref i :: s) (ac_I u, fun _ _ => 0, ac_R z)
    unfold am_step
    dsimp only
    rw [hbq]
    exact ⟨j, (ac_kn_of hb1).1, hj, g.2 n0 h0⟩
  | putfield ix =>
    cases st with
    | nil => exact absurd (show (none : Option ac_W) = some w' from h) (by simp)
    | cons v0 s =>
      cases v0 with
      | int x =>
        obtain ⟨i, s, rfl, hh25⟩ := ac_sr_of h
        obtain ⟨hb, hh26⟩ := ac_if_of hh25
        have g := hgo _ _ _ _ _ _ _ hp hr hh26
        simp only [Bool.and_eq_true, Bool.or_eq_true, decide_eq_true_eq] at hb
        obtain ⟨hb1, hb2 | ⟨hb2, hb3⟩⟩ := hb
        · have e2 : k = 0 := Nat.eq_of_beq_eq_true hb2
          subst e2
          refine ac_pln (x := (p, .putfield ix, len, a, d, 0, v, sw)) (t := t) hp hd hk g.1 (fun n0 h0 => ?_)
          show am_step (am_sh.take n) 0 (fun _ => 0) (am_ret y) _ _ _ _ (p, .putfield ix, len, a, d, 0, v, sw) p ls (.int x :: .ref i :: s) (ac_I u, fun _ _ => 0, ac_R z)
          unfold am_step
          dsimp only
          rw [hbq]
          exact ⟨(ac_kn_of hb1).1, g.2 n0 h0⟩
        · have e2 : k = 1 := Nat.eq_of_beq_eq_true hb2
          subst e2
          refine ac_pln (x := (p, .putfield ix, len, a, d, 1, v, sw)) (t := t) hp hd hk g.1 (fun n0 h0 => ?_)
          show am_step (am_sh.take n) 0 (fun _ => 0) (am_ret y) _ _ _ _ (p, .putfield ix, len, a, d, 1, v, sw) p ls (.int x :: .ref i :: s) (ac_I u, fun _ _ => 0, ac_R z)
          unfold am_step
          dsimp only
          rw [hbq]
          exact ⟨(ac_kn_of hb1).1, hb3, g.2 n0 h0⟩
      | ref o =>
        obtain ⟨i, s, rfl, hh27⟩ := ac_sr_of h
        obtain ⟨hb, hh28⟩ := ac_if_of hh27
        have g := hgo _ _ _ _ _ _ _ hp hr hh28
        simp only [Bool.and_eq_true, decide_eq_true_eq] at hb
        obtain ⟨hb1, hb2⟩ := hb
        have e2 : k = 2 := Nat.eq_of_beq_eq_true hb2
        subst e2
        simp only [ac_ok, Bool.and_eq_true, decide_eq_true_eq] at hk
        obtain ⟨rfl, hk⟩ := hk
        cases hcl : am_cl[a]? with
        | none =>
          rw [hcl] at hk
          exact absurd hk (by simp)
        | some x =>
          obtain ⟨C, T, N⟩ := x
          rw [hcl] at hk
          simp only [Bool.and_eq_true, decide_eq_true_eq] at hk
          obtain ⟨⟨⟨h1, h2⟩, h3⟩, h4⟩ := hk
          refine ⟨g.1, fun n0 h0 => ?_⟩
          show ac_run y n0 w'.1 _ n p ls _ (ac_I u, fun _ _ => 0, ac_R z)
          exact ac_r_putr hd hcl h1 (am_w_in h2) h4 h3 (ac_kn_of hb1).2.2 (ac_kn_of hb1).2.1 (g.2 n0 h0)
      | _ => exact absurd (show (none : Option ac_W) = some w' from h) (by simp)
  | iaload =>
    obtain ⟨i, s, rfl, hh29⟩ := ac_si_of h
    obtain ⟨t0, s, rfl, hh30⟩ := ac_sr_of hh29
    obtain ⟨c, hc, hh31⟩ := ac_op_of hh30
    obtain ⟨hb, hh32⟩ := ac_if_of hh31
    simp only [Bool.and_eq_true, decide_eq_true_eq] at hb
    obtain ⟨⟨⟨b1, b2⟩, b3⟩, b4⟩ := hb
    have e2 : k = 0 := Nat.eq_of_beq_eq_true b4
    subst e2
    have g := hgo _ _ _ _ _ _ _ hp hr hh32
    refine ac_pln (x := (p, .iaload, len, a, d, 0, v, sw)) (t := t) hp hd hk g.1 (fun n0 h0 => ?_)
    show am_step (am_sh.take n) 0 (fun _ => 0) (am_ret y) _ _ _ _ (p, .iaload, len, a, d, 0, v, sw) p ls (.int i :: .ref t0 :: s) (ac_I u, fun _ _ => 0, ac_R z)
    unfold am_step
    dsimp only
    rw [hbq]
    exact ac_in (ac_kn_of hc).1 b1 b2 b3 (g.2 n0 h0)
  | iastore =>
    obtain ⟨x, s, rfl, hh33⟩ := ac_si_of h
    obtain ⟨i, s, rfl, hh34⟩ := ac_si_of hh33
    obtain ⟨t0, s, rfl, hh35⟩ := ac_sr_of hh34
    obtain ⟨c, hc, hh36⟩ := ac_op_of hh35
    obtain ⟨hb, hh37⟩ := ac_if_of hh36
    simp only [Bool.and_eq_true, decide_eq_true_eq] at hb
    obtain ⟨⟨b1, b2⟩, b3⟩ := hb
    have g := hgo _ _ _ _ _ _ _ hp hr hh37
    refine ac_pln (x := (p, .iastore, len, a, d, k, v, sw)) (t := t) hp hd hk g.1 (fun n0 h0 => ?_)
    show am_step (am_sh.take n) 0 (fun _ => 0) (am_ret y) _ _ _ _ (p, .iastore, len, a, d, k, v, sw) p ls (.int x :: .int i :: .ref t0 :: s) (ac_I u, fun _ _ => 0, ac_R z)
    unfold am_step
    dsimp only
    rw [hbq]
    exact ac_in (ac_kn_of hc).1 b1 b2 b3 (g.2 n0 h0)
  | aastore =>
    obtain ⟨o, s, rfl, hh38⟩ := ac_sr_of h
    obtain ⟨i, s, rfl, hh39⟩ := ac_si_of hh38
    obtain ⟨t0, s, rfl, hh40⟩ := ac_sr_of hh39
    obtain ⟨c, hc, hh41⟩ := ac_op_of hh40
    obtain ⟨hb, hh42⟩ := ac_if_of hh41
    simp only [Bool.and_eq_true, decide_eq_true_eq] at hb
    obtain ⟨⟨⟨b1, b2⟩, b3⟩, b4⟩ := hb
    have g := hgo _ _ _ _ _ _ _ hp hr hh42
    refine ac_pln (x := (p, .aastore, len, a, d, k, v, sw)) (t := t) hp hd hk g.1 (fun n0 h0 => ?_)
    show am_step (am_sh.take n) 0 (fun _ => 0) (am_ret y) _ _ _ _ (p, .aastore, len, a, d, k, v, sw) p ls (.ref o :: .int i :: .ref t0 :: s) (ac_I u, fun _ _ => 0, ac_R z)
    unfold am_step
    dsimp only
    rw [hbq]
    exact ac_in (ac_kn_of hc).1 b1 b2 b3 ⟨(ac_kn_of b4).1, g.2 n0 h0⟩
  | new ix =>
    obtain ⟨hb, hh43⟩ := ac_if_of h
    simp only [Bool.and_eq_true, decide_eq_true_eq] at hb
    obtain ⟨b1, b2⟩ := hb
    have g := hgo _ _ _ _ _ _ _ hp hr hh43
    obtain ⟨l1, l2, l3, l4, l5⟩ := ac_lo_of b2
    simp only [ac_ok, Bool.and_eq_true, decide_eq_true_eq] at hk
    obtain ⟨rfl, hk⟩ := hk
    cases hcl : am_cl[a]? with
    | none =>
      rw [hcl] at hk
      exact absurd hk (by simp)
    | some x =>
      obtain ⟨C, T, N⟩ := x
      rw [hcl] at hk
      exact ⟨Nat.le_trans (Nat.le_succ n) g.1, fun n0 h0 => ac_r_new (N := N) hd hcl (am_w_in hk) (ac_mk hcl).1 (ac_mk hcl).2 b1 h0 g.1 (fun j => l4 n j (Nat.le_refl n)) (fun j => l5 n j (Nat.le_refl n)) (fun j hj => ac_dv (am_ft_ok hcl).1 j (by rw [(am_ft_ok hcl).2.1]; exact hj)) l3 l1 l2 (g.2 n0 (Nat.le_succ_of_le h0))⟩
  | newarray ty =>
    obtain ⟨x, s, rfl, hh44⟩ := ac_si_of h
    obtain ⟨c, hc, hh45⟩ := ac_op_of hh44
    obtain ⟨hb, hh46⟩ := ac_if_of hh45
    simp only [Bool.and_eq_true, decide_eq_true_eq] at hb
    obtain ⟨⟨b1, b2⟩, b3⟩ := hb
    have g := hgo _ _ _ _ _ _ _ hp hr hh46
    obtain ⟨l1, l2, l3, l4, l5⟩ := ac_lo_of b3
    obtain ⟨c1, N⟩ := c
    have e1 : c1 = a := Nat.eq_of_beq_eq_true b1
    subst e1
    simp only [ac_ok, Bool.and_eq_true, decide_eq_true_eq] at hk
    obtain ⟨⟨rfl, rfl⟩, hk⟩ := hk
    obtain ⟨q1, q2, q3, q4⟩ := ac_aty_ok (N := N) hk (σ := ac_sg (n, u, z)) (n := n) (fun j => l4 n j (Nat.le_refl n)) (fun _ => rfl)
    have hN := ac_small hc
    exact ⟨Nat.le_trans (Nat.le_succ n) g.1, fun n0 h0 => ac_r_newa (N := N) hd q1 q2 hk hc h0 g.1 b2 (by omega) (Nat.le_trans (Nat.mul_le_mul hN q3) (by decide)) q4 l3 l1 l2 (g.2 n0 (Nat.le_succ_of_le h0))⟩
  | anewarray ix =>
    obtain ⟨x, s, rfl, hh47⟩ := ac_si_of h
    obtain ⟨c, hc, hh48⟩ := ac_op_of hh47
    obtain ⟨hb, hh49⟩ := ac_if_of hh48
    simp only [Bool.and_eq_true, decide_eq_true_eq] at hb
    obtain ⟨⟨b1, b2⟩, b3⟩ := hb
    have g := hgo _ _ _ _ _ _ _ hp hr hh49
    obtain ⟨l1, l2, l3, l4, l5⟩ := ac_lo_of b3
    obtain ⟨c1, N⟩ := c
    have e1 : c1 = a := Nat.eq_of_beq_eq_true b1
    subst e1
    have hN := ac_small hc
    simp only [ac_ok, Bool.and_eq_true, Bool.or_eq_true, decide_eq_true_eq] at hk
    obtain ⟨rfl, ⟨rfl, hk⟩ | ⟨rfl, hk⟩⟩ := hk
    · exact ⟨Nat.le_trans (Nat.le_succ n) g.1, fun n0 h0 => ac_r_anew (N := N) (C := RX7) hd (am_w_in hk) (fun A s hs => (hs.2 A).1) (fun cy => rfl) (by decide) hc h0 g.1 b2 (by omega) (fun j => l5 n j (Nat.le_refl n)) l3 l1 l2 (g.2 n0 (Nat.le_succ_of_le h0))⟩
    · exact ⟨Nat.le_trans (Nat.le_succ n) g.1, fun n0 h0 => ac_r_anew (N := N) (C := RX8) hd (am_w_in hk) (fun A s hs => (hs.2 A).2.1) (fun cy => rfl) (by decide) hc h0 g.1 b2 (by omega) (fun j => l5 n j (Nat.le_refl n)) l3 l1 l2 (g.2 n0 (Nat.le_succ_of_le h0))⟩
  | multianewarray ix dd =>
    obtain ⟨y2, s, rfl, hh50⟩ := ac_si_of h
    obtain ⟨x, s, rfl, hh51⟩ := ac_si_of hh50
    obtain ⟨c, hc, hh52⟩ := ac_op_of hh51
    obtain ⟨b, hc2, hh53⟩ := ac_op_of hh52
    obtain ⟨hb, hh54⟩ := ac_if_of hh53
    simp only [Bool.and_eq_true, decide_eq_true_eq] at hb
    obtain ⟨⟨⟨⟨b1, b2⟩, b3⟩, b4⟩, b5⟩ := hb
    have g := hgo _ _ _ _ _ _ _ hp hr hh54
    obtain ⟨l1, l2, l3, l4, l5⟩ := ac_lo_of b4
    obtain ⟨c1, N⟩ := c
    obtain ⟨c2, K⟩ := b
    have e1 : c1 = 19 := Nat.eq_of_beq_eq_true b1
    subst e1
    have hN := ac_small hc
    have hK := ac_small hc2
    simp only [ac_ok, Bool.and_eq_true, decide_eq_true_eq] at hk
    obtain ⟨⟨rfl, rfl⟩, hk⟩ := hk
    have g1 : n + 1 + N ≤ w'.1 := g.1
    have hrow : ∀ j, j < N → am_sh[n + 1 + j]? = some (14, K) := fun j hj => of_decide_eq_true (List.all_eq_true.mp b5 j (List.mem_range.mpr hj))
    exact ⟨by show n ≤ w'.1; omega, fun n0 h0 => ac_r_mna (N := N) (K := K) (σ' := ac_sg (n + 1 + N, u, ac_rows n N z)) hd (am_w_in hk) (am_w_in (c := 0) (i := 56) (by decide +kernel)) hc hrow h0 g1 b2 b3 (by omega) (by omega) (fun i hi => ⟨rfl, rfl, ac_rows_ne (by omega) N⟩) (fun j _ i => l4 (n + 1 + j) i (by omega)) (fun j hj => ac_rows_at N j hj) l3 l1 l2 (g.2 n0 (by show n0 ≤ n + 1 + N; have : n0 ≤ n := h0; omega))⟩
  | invokespecial ix =>
    obtain ⟨i, s, rfl, hh55⟩ := ac_sr_of h
    obtain ⟨hw, hh56⟩ := ac_if_of hh55
    have hw2 := Nat.le_of_ble_eq_true hw
    cases hb1 : Nat.beq k 1 with
    | true =>
      rw [hb1] at hh56
      have g := hgo _ _ _ _ _ _ _ hp hr hh56
      have e2 : k = 1 := Nat.eq_of_beq_eq_true hb1
      subst e2
      simp only [ac_ok, Bool.and_eq_true, decide_eq_true_eq] at hk
      obtain ⟨rfl, ⟨k1, k2⟩, k3⟩ := hk
      exact ⟨g.1, fun n0 h0 => ac_r_obj hd (am_w_in k1) ac_ob1 ac_ob2 k2 k3 hw2 (g.2 n0 h0)⟩
    | false =>
      rw [hb1] at hh56
      obtain ⟨hb, hh57⟩ := ac_if_of hh56
      obtain ⟨w2, h2, hh58⟩ := ac_op_of hh57
      rw [Bool.and_eq_true, Bool.and_eq_true] at hb
      obtain ⟨⟨b1, b2⟩, b3⟩ := hb
      have hpl := ac_isC_pl b3
      have g1 := hgo _ _ _ _ _ _ _ hpl (fun e he => he) h2
      have g2 := hgo _ _ _ _ _ _ _ hp hr hh58
      have ev := ac_ev_of (y := a) hpl.1 hpl.2.1 hpl.2.2.2.1 hpl.2.2.2.2.1 (g1.2 n (Nat.le_refl n))
      match k, hb1, hk with
      | 0, _, hk =>
        simp only [ac_ok, ac_call, Bool.and_eq_true, decide_eq_true_eq] at hk
        obtain ⟨rfl, k0, ⟨⟨⟨k1, k2⟩, k3⟩, k4⟩, k5⟩ := hk
        exact ⟨Nat.le_trans g1.1 g2.1, fun n0 h0 => ac_r_call (host := "MeetingGroups") hd (Or.inl (am_w_in k0)) k1 k2 k3 k4 k5 h0 g1.1 g2.1 hw2 (ac_loL_of b1) (ac_loS_of b2) ev (fun σ' e => by subst e; exact g2.2 n0 (Nat.le_trans h0 g1.1))⟩
      | 1, hb1, _ => exact absurd hb1 (by decide)
      | k + 2, _, hk =>
        simp only [ac_ok, ac_call, Bool.and_eq_true, decide_eq_true_eq] at hk
        obtain ⟨rfl, k0, ⟨⟨⟨k1, k2⟩, k3⟩, k4⟩, k5⟩ := hk
        exact ⟨Nat.le_trans g1.1 g2.1, fun n0 h0 => ac_r_call (host := "MeetingGroups") hd (Or.inr k0) k1 k2 k3 k4 k5 h0 g1.1 g2.1 hw2 (ac_loL_of b1) (ac_loS_of b2) ev (fun σ' e => by subst e; exact g2.2 n0 (Nat.le_trans h0 g1.1))⟩
  | return_ =>
    cases st with
    | nil =>
      have e3 : (n, u, z) = w' := Option.some.inj h
      subst e3
      have hret := hp.2.2.2.2.2.2.1
      refine ac_pln (x := (p, .return_, len, a, d, k, v, sw)) (t := t) hp hd hk (Nat.le_refl _) (fun n0 h0 => ?_)
      show am_step (am_sh.take n) 0 (fun _ => 0) (am_ret y) _ _ _ _ (p, .return_, len, a, d, k, v, sw) p ls [] (ac_I u, fun _ _ => 0, ac_R z)
      unfold am_step
      dsimp only
      rw [hbq, hret]
      exact ⟨rfl, rfl, rfl⟩
    | cons v0 s => exact absurd (show (none : Option ac_W) = some w' from h) (by simp)
  | _ => exact absurd (show (none : Option ac_W) = some w' from h) (by simp)
theorem ac_go_sound : ∀ f, ac_GS (ac_go f)
  | 0 => fun y cd pc ls st w w' _ _ h => absurd (show (none : Option ac_W) = some w' from h) (by simp)
  | f + 1 => fun y cd pc ls st w w' hp hc h => by
    cases cd with
    | nil => exact absurd (show (none : Option ac_W) = some w' from h) (by simp)
    | cons e r => exact ac_one_sound (ac_go_sound f) hp (hc e List.mem_cons_self) (fun e he => hc e (List.mem_cons_of_mem _ he)) h
