/-! the reference: liars, sets turned, standing, free sets, fractions -/
theorem sm_tab : ∀ e, e < 31 → ((nI e &&& 31).toBitVec.smod 32).toNat = e := by decide +kernel
theorem has_nat {s e : Nat} (hs : s < 2 ^ 31) (he : e < 31) : (nI s >>> (nI e &&& 31) &&& 1 = 1) ↔ s / 2 ^ e % 2 = 1 := by
  rw [pk_shrN hs _ e (sm_tab e he), pk_andN (n := s / 2 ^ e) (Nat.lt_of_le_of_lt (Nat.div_le_self _ _) (by omega)) 1 (by decide)]
  have h2 : s / 2 ^ e % 2 ^ 1 < 2 := Nat.mod_lt _ (by decide)
  rw [show (1 : Int32) = nI 1 from rfl, nI_eq (by omega) (by omega)]
/-- an element of a set -/
def tb (s e : Nat) : Bool := decide (s / 2 ^ e % 2 = 1)
theorem has_tb {s e : Nat} (hs : s < 2 ^ 31) (he : e < 31) : decide (nI s >>> (nI e &&& 31) &&& 1 = 1) = tb s e := by
  unfold tb
  by_cases h : s / 2 ^ e % 2 = 1
  · rw [decide_eq_true h, decide_eq_true ((has_nat hs he).mpr h)]
  · rw [decide_eq_false h, decide_eq_false (fun q => h ((has_nat hs he).mp q))]
theorem and_tab : ∀ s, s < 128 → ∀ e, e < 7 → decide (nI s &&& nI (2 ^ e) = 0) = !tb s e := by decide +kernel
section REF3
variable {f g : Nat → Nat} {I : Nat → Nat → Int32} {J : Nat → Nat → Int64} {M : Nat} {gs : Nat → Nat}
theorem ev_htb {s e : Nat} (hs : s < 2 ^ 31) (he : e < 31) (σ : am_S) : am_ev am_sh m_MD_has [.int (nI s), .int (nI e)] σ (Rt (.int (b2i (tb s e))) σ) := by
  have h := ev_has (nI s) (nI e) σ
  rw [has_tb hs he] at h
  exact h
def lif (o : Nat) (C : Int32) (b : Nat) (x : Int32) : Int32 := if nI (o * b + 1) ≤ C then nI b else x
theorem lp_liars {n o F : Nat} {C : Int32} (hG : Gm I M gs) (hn : I 237 0 = nI n) (h8 : n < 8) (ho : o ≤ 2) (hF : fo (mff n (hlm gs M)) (nI (n + 1)) (2 ^ n) - 1 = nI F) (hF7 : F ≤ 7) (hC : fo (cog gs) (-4) M = C) (h0 : 0 < C) : ∀ k b s, k + b = F + 1 → s = fo (lif o C) (-4) b → am_u am_sh m_MD_liars (Rt (.int (fo (lif o C) (-4) (F + 1))) (I, J, am_Rf f g)) (am_at am_c_MD_liars 5) 5 [some (.ref 236), some (.int (nI o)), some (.int s), some (.int (nI b))] [] (I, J, am_Rf f g) := by
  intro k
  induction k with
  | zero =>
    intro b s hb hs
    obtain rfl : b = F + 1 := by omega
    rw [hs]
    refine ⟨rfl, (ev_mfaults hG hn h8).rt (br_t ?_ (j_MD_liars ⟨rfl, rfl⟩))⟩
    rw [hF]
    exact nI_lt (by omega) (by omega)
  | succ k ih =>
    intro b s hb hs
    refine ⟨rfl, (ev_mfaults hG hn h8).rt (br_f ?_ ⟨rfl, (ev_mcommon hG).rt (br_f ?_ ⟨rfl, (ev_mcommon hG).rt ?_⟩)⟩)⟩
    · rw [hF]
      exact nI_nlt (by omega) (by omega)
    · rw [hC]
      exact Int32.not_le.mpr h0
    · rw [hC, pk_mul, nI_1]
      refine ⟨fun h1 => j_MD_liars (j_MD_liars ?_), fun h1 => j_MD_liars (j_MD_liars ?_)⟩
      · rw [show nI b + 1 = nI (b + 1) from nI_1 b]
        refine ih (b + 1) _ (by omega) ?_
        rw [fo_s, ← hs]
        unfold lif
        rw [if_neg (Int32.not_le.mpr h1)]
      · rw [show nI b + 1 = nI (b + 1) from nI_1 b]
        refine ih (b + 1) _ (by omega) ?_
        rw [fo_s, ← hs]
        unfold lif
        rw [if_pos (Int32.not_lt.mp h1)]
theorem ev_liars {n o F : Nat} {C : Int32} (hG : Gm I M gs) (hn : I 237 0 = nI n) (h8 : n < 8) (ho : o ≤ 2) (hF : fo (mff n (hlm gs M)) (nI (n + 1)) (2 ^ n) - 1 = nI F) (hF7 : F ≤ 7) (hC : fo (cog gs) (-4) M = C) (h0 : 0 < C) : am_ev am_sh m_MD_liars [.ref 236, .int (nI o)] (I, J, am_Rf f g) (Rt (.int (fo (lif o C) (-4) (F + 1))) (I, J, am_Rf f g)) := s_MD_liars (j_MD_liars (lp_liars hG hn h8 ho hF hF7 hC h0 (F + 1) 0 _ (by omega) rfl))
theorem ev_liars0 {n : Nat} {o : Int32} (hG : Gm I M gs) (hn : I 237 0 = nI n) (h8 : n < 8) (hC : fo (cog gs) (-4) M ≤ 0) : am_ev am_sh m_MD_liars [.ref 236, .int o] (I, J, am_Rf f g) (Rt (.int (-4)) (I, J, am_Rf f g)) := by
  refine s_MD_liars (j_MD_liars ?_)
  refine ⟨rfl, (ev_mfaults hG hn h8).rt ⟨fun _ => j_MD_liars ⟨rfl, rfl⟩, fun _ => ⟨rfl, (ev_mcommon hG).rt (br_t hC (j_MD_liars ⟨rfl, rfl⟩))⟩⟩⟩
def trn (hs : Nat → Bool) (e s : Nat) : Bool := !tb s e && (!hs s && hs (s ||| 2 ^ e))
theorem lp_turns {n e : Nat} (hG : Gm I M gs) (hn : I 237 0 = nI n) (h8 : n < 8) (he : e < n) : ∀ k s c, k + s = 2 ^ n → c = nI (cn (trn (hlm gs M) e) s) → am_u am_sh m_MD_turns (Rt (.int (nI (cn (trn (hlm gs M) e) (2 ^ n)))) (I, J, am_Rf f g)) (am_at am_c_MD_turns 4) 4 [some (.ref 236), some (.int (nI e)), some (.int c), some (.int (nI s))] [] (I, J, am_Rf f g) := by
  have hT := pow_le7 h8
  intro k
  induction k with
  | zero =>
    intro s c hs hc
    obtain rfl : s = 2 ^ n := by omega
    rw [hc]
    exact ⟨rfl, (ev_mall hn h8).rt (br_t (nI_lt (by omega) (by omega)) (j_MD_turns ⟨rfl, rfl⟩))⟩
  | succ k ih =>
    intro s c hs' hc
    have step : ∀ x, c + x = nI (cn (trn (hlm gs M) e) (s + 1)) → am_u am_sh m_MD_turns (Rt (.int (nI (cn (trn (hlm gs M) e) (2 ^ n)))) (I, J, am_Rf f g)) (am_at am_c_MD_turns 46) 46 [some (.ref 236), some (.int (nI e)), some (.int c), some (.int (nI s))] [.int x, .int c] (I, J, am_Rf f g) := by
      intro x hx
      refine j_MD_turns ?_
      rw [show nI s + 1 = nI (s + 1) from nI_1 s, hx]
      exact ih (s + 1) _ (by omega) rfl
    have no : trn (hlm gs M) e s = false → am_run am_sh m_MD_turns (Rt (.int (nI (cn (trn (hlm gs M) e) (2 ^ n)))) (I, J, am_Rf f g)) 45 [some (.ref 236), some (.int (nI e)), some (.int c), some (.int (nI s))] [.int c] (I, J, am_Rf f g) := by
      intro q
      refine j_MD_turns (step 0 ?_)
      rw [cn_no q, ← hc, Int32.add_zero]
    have ho := or_lt (n := n) (s := s) (e := e) (by omega) he
    refine ⟨rfl, (ev_mall hn h8).rt (br_f (nI_nlt (by omega) (by omega)) ((ev_htb (by omega) (by omega) _).rt ⟨fun h1 => no ?_, fun h1 => ⟨rfl, (ev_mh hG (by omega)).rt ⟨fun h2 => no ?_, fun h2 => ⟨rfl, ?_⟩⟩⟩⟩))⟩
    · unfold trn
      rw [b2i_ne0.mp h1]
      rfl
    · unfold trn
      rw [b2i_ne0.mp h2]
      simp
    · show am_ev am_sh m_MD_holds [.ref 236, .int (nI s ||| (1 : Int32) <<< (nI e &&& 31))] _ _
      rw [shl_tab e (by omega), nI_or]
      refine (ev_mh hG (by omega)).rt ⟨fun h3 => no ?_, fun h3 => ?_⟩
      · unfold trn
        rw [b2i_eq0.mp h3]
        simp
      · refine j_MD_turns (step 1 ?_)
        rw [cn_yes (by unfold trn; rw [b2i_eq0.mp h1, b2i_eq0.mp h2, b2i_ne0.mp h3]; rfl), hc, nI_1]
theorem ev_turns {n e : Nat} (hG : Gm I M gs) (hn : I 237 0 = nI n) (h8 : n < 8) (he : e < n) : am_ev am_sh m_MD_turns [.ref 236, .int (nI e)] (I, J, am_Rf f g) (Rt (.int (nI (cn (trn (hlm gs M) e) (2 ^ n)))) (I, J, am_Rf f g)) := s_MD_turns (j_MD_turns (lp_turns hG hn h8 he (2 ^ n) 0 _ (by omega) rfl))
def mfr (gs : Nat → Nat) (M s : Nat) : Bool := !hlm gs M s && ba (fun k => !decide (nI (gs k &&& s) = 0)) M
theorem lp_misFree {s : Nat} (hG : Gm I M gs) (hs : s < 128) : ∀ n k c, n + k = M → c = b2i (!hlm gs M s && ba (fun k => !decide (nI (gs k &&& s) = 0)) k) → am_u am_sh m_MD_isFree (Rt (.int (b2i (mfr gs M s))) (I, J, am_Rf f g)) (am_at am_c_MD_isFree 16) 16 [some (.ref 236), some (.int (nI s)), some (.int c), some (.int (nI k))] [] (I, J, am_Rf f g) := by
  obtain ⟨hM, h12, hg⟩ := hG
  intro n
  induction n with
  | zero =>
    intro k c hk hc
    obtain rfl : k = M := by omega
    rw [hc]
    exact ⟨237, rfl, rfl, 116, 1, rfl, by omega, rfl, br_t (by rw [hM]; exact Int32.le_refl _) (j_MD_isFree ⟨b2i_01 _, rfl, rfl⟩)⟩
  | succ n ih =>
    intro k c hk hc
    have step : ∀ c', c' = b2i (!hlm gs M s && ba (fun k => !decide (nI (gs k &&& s) = 0)) (k + 1)) → am_u am_sh m_MD_isFree (Rt (.int (b2i (mfr gs M s))) (I, J, am_Rf f g)) (am_at am_c_MD_isFree 45) 45 [some (.ref 236), some (.int (nI s)), some (.int c), some (.int (nI k))] [.int c'] (I, J, am_Rf f g) := by
      intro c' hc'
      refine j_MD_isFree ?_
      rw [show nI k + 1 = nI (k + 1) from nI_1 k]
      exact ih (k + 1) c' (by omega) hc'
    refine ⟨237, rfl, rfl, 116, 1, rfl, by omega, rfl, br_f (by rw [hM]; exact nI_ge (by omega) (by omega)) ⟨fun h1 => j_MD_isFree (step _ ?_), fun h1 => ⟨rfl, (ev_mat (by omega)).rt ?_⟩⟩⟩
    · rw [hc] at h1
      rw [ba_s, ← Bool.and_assoc, b2i_eq0.mp h1]
      rfl
    · rw [hc] at h1
      have h1 := b2i_ne0.mp h1
      refine ⟨fun h2 => j_MD_isFree (step _ ?_), fun h2 => j_MD_isFree (step _ ?_)⟩ <;> rw [(hg k (by omega)).1, nI_and] at h2
      · rw [ba_s, ← Bool.and_assoc, decide_eq_true h2]
        simp [b2i]
      · rw [ba_s, ← Bool.and_assoc, h1, decide_eq_false h2]
        rfl
theorem ev_misFree {s : Nat} (hG : Gm I M gs) (hs : s < 128) : am_ev am_sh m_MD_isFree [.ref 236, .int (nI s)] (I, J, am_Rf f g) (Rt (.int (b2i (mfr gs M s))) (I, J, am_Rf f g)) := by
  refine s_MD_isFree ⟨rfl, (ev_mh hG hs).rt ⟨fun h1 => j_MD_isFree ?_, fun h1 => j_MD_isFree ?_⟩⟩
  · refine j_MD_isFree (lp_misFree hG hs M 0 _ rfl ?_)
    rw [b2i_ne0.mp h1]
    rfl
  · refine j_MD_isFree (lp_misFree hG hs M 0 _ rfl ?_)
    rw [b2i_eq0.mp h1]
    rfl
end REF3
