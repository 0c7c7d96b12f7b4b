/-! what: even, and just the groups -/
theorem tb_bit (s e : Nat) : tb s e = s.testBit e := by
  unfold tb
  rw [Nat.testBit_eq_decide_div_mod_eq]
theorem tb_or (s p e : Nat) : tb (s ||| 2 ^ p) e = (tb s e || decide (p = e)) := by
  rw [tb_bit, tb_bit, Nat.testBit_or, Nat.testBit_two_pow]
theorem cn_or {P : Nat → Bool} {p : Nat} : ∀ n, p < n → cn (fun e => P e || decide (p = e)) n = cn P n + (if P p = true then 0 else 1) := by
  have lo : ∀ n, n ≤ p → cn (fun e => P e || decide (p = e)) n = cn P n := fun n hn => cn_congr (fun k hk => by rw [decide_eq_false (by omega), Bool.or_false])
  intro n
  induction n with
  | zero => intro h; omega
  | succ n ih =>
    intro h
    by_cases e : p = n
    · subst e
      rw [cn_yes (by show (P p || decide (p = p)) = true; rw [decide_eq_true rfl, Bool.or_true]), lo p (Nat.le_refl _)]
      cases hp : P p with
      | true => rw [cn_yes hp, if_pos rfl]
      | false => rw [cn_no hp, if_neg (by decide)]
    · have := ih (by omega)
      have e2 : (P n || decide (p = n)) = P n := by rw [decide_eq_false e, Bool.or_false]
      cases hp : P n with
      | true => rw [cn_yes (by show (P n || decide (p = n)) = true; rw [e2, hp]), cn_yes hp, this]; omega
      | false => rw [cn_no (by show (P n || decide (p = n)) = false; rw [e2, hp]), cn_no hp, this]
theorem pc12_t : ∀ a, a < 64 → ∀ b, b < 64 → pc12 (64 * a + b) = cn (tb (64 * a + b)) 12 := by decide +kernel
theorem pc12_cn (x : Nat) (hx : x < 4096) : pc12 x = cn (tb x) 12 := by
  have := pc12_t (x / 64) (by omega) (x % 64) (by omega)
  rw [show 64 * (x / 64) + x % 64 = x by omega] at this
  exact this
theorem pc12_or {s p : Nat} (hs : s < 4096) (hp : p < 12) : pc12 (s ||| 2 ^ p) = pc12 s + (if tb s p = true then 0 else 1) := by
  have hlt : s ||| 2 ^ p < 4096 := Nat.or_lt_two_pow (n := 12) hs (Nat.pow_lt_pow_right (by omega) hp)
  rw [pc12_cn _ hlt, pc12_cn _ hs, ← cn_or (P := tb s) 12 hp]
  exact cn_congr (fun k _ => tb_or s p k)
section T23
variable {f g : Nat → Nat} {I : Nat → Nat → Int32} {J : Nat → Nat → Int64} {A N : Nat} {vs : Nat → Nat}
def own (vs : Nat → Nat) (N e : Nat) : Nat := cn (fun k => tb (vs k) e) N
theorem lp_even2 {e : Nat} {w3 w4 : Int32} {q : am_Q} (hV : Vr J A N vs) (he : e < 8) (hq : am_run am_sh m_MD_isEven q 62 [some (.ref 236), some (.int (nI A)), some (.int (nI N)), some (.int w3), some (.int w4), some (.int (nI e)), some (.int (nI (own vs N e))), some (.int (nI N))] [] (I, J, am_Rf f g)) : ∀ m k c, m + k = N → c = nI (own vs k e) → am_u am_sh m_MD_isEven q (am_at am_c_MD_isEven 25) 25 [some (.ref 236), some (.int (nI A)), some (.int (nI N)), some (.int w3), some (.int w4), some (.int (nI e)), some (.int c), some (.int (nI k))] [] (I, J, am_Rf f g) := by
  have hN := hV.2.1
  intro m
  induction m with
  | zero =>
    intro k c hk hc
    obtain rfl : k = N := by omega
    subst hc
    exact br_t (nI_le (by omega) (by omega)) hq
  | succ m ih =>
    intro k c hk hc
    have hv := hV.2.2 k (by omega)
    refine br_f (nI_ge (by omega) (by omega)) ⟨rfl, (ev_row hV (by omega)).rt ((ev_htb (by omega) (by omega) _).rt ?_)⟩
    cases hb : tb (vs k) e with
    | true =>
      refine br_f (by decide) (j_MD_isEven (j_MD_isEven ?_))
      show am_u _ _ _ _ _ [_, _, _, _, _, _, some (.int (c + 1)), some (.int (nI k + 1))] _ _
      rw [nI_1 k]
      refine ih (k + 1) _ (by omega) ?_
      unfold own at hc ⊢
      rw [cn_yes (P := fun k => tb (vs k) e) hb, hc, nI_1]
    | false =>
      refine br_t rfl (j_MD_isEven (j_MD_isEven ?_))
      show am_u _ _ _ _ _ [_, _, _, _, _, _, some (.int (c + 0)), some (.int (nI k + 1))] _ _
      rw [nI_1 k, Int32.add_zero]
      refine ih (k + 1) _ (by omega) ?_
      unfold own at hc ⊢
      rw [cn_no (P := fun k => tb (vs k) e) hb, hc]
theorem own_le (vs : Nat → Nat) (N e : Nat) : own vs N e ≤ N := cn_le _ _
theorem lp_meven {n : Nat} {q : am_Q} (hV : Vr J A N vs) (hn : I 237 0 = nI n) (h8 : n < 8) (hq : q (some (.int (b2i (ba (fun e => decide (own vs N e = own vs N 0)) n)))) (I, J, am_Rf f g)) : ∀ m e v3 v4 w6 w7, m + e = n → v3 = b2i (ba (fun e => decide (own vs N e = own vs N 0)) e) → (0 < e → v4 = nI (own vs N 0)) → am_u am_sh m_MD_isEven q (am_at am_c_MD_isEven 8) 8 [some (.ref 236), some (.int (nI A)), some (.int (nI N)), some (.int v3), some (.int v4), some (.int (nI e)), w6, w7] [] (I, J, am_Rf f g) := by
  have hN := hV.2.1
  intro m
  induction m with
  | zero =>
    intro e v3 v4 w6 w7 hk h3 h4
    obtain rfl : e = n := by omega
    subst h3
    exact ⟨237, rfl, rfl, 116, 0, rfl, by omega, rfl, br_t (by rw [hn]; exact nI_le (by omega) (by omega)) (j_MD_isEven ⟨b2i_01 _, hq⟩)⟩
  | succ m ih =>
    intro e v3 v4 w6 w7 hk h3 h4
    refine ⟨237, rfl, rfl, 116, 0, rfl, by omega, rfl, br_f (by rw [hn]; exact nI_ge (by omega) (by omega)) (j_MD_isEven (lp_even2 hV (by omega) (j_MD_isEven ?_) N 0 _ (by omega) rfl))⟩
    have o1 := own_le vs N e
    have o2 := own_le vs N 0
    -- behind the first
    have tail : am_u am_sh m_MD_isEven q (am_at am_c_MD_isEven 74) 74 [some (.ref 236), some (.int (nI A)), some (.int (nI N)), some (.int v3), some (.int v4), some (.int (nI e)), some (.int (nI (own vs N e))), some (.int (nI N))] [.int (nI (own vs N 0))] (I, J, am_Rf f g) := by
      have nx : ∀ v', v' = b2i (ba (fun e => decide (own vs N e = own vs N 0)) (e + 1)) → am_u am_sh m_MD_isEven q (am_at am_c_MD_isEven 8) 8 [some (.ref 236), some (.int (nI A)), some (.int (nI N)), some (.int v'), some (.int (nI (own vs N 0))), some (.int (nI e + 1)), some (.int (nI (own vs N e))), some (.int (nI N))] [] (I, J, am_Rf f g) := fun v' hv' => by
        rw [nI_1]
        exact ih (e + 1) _ _ _ _ (by omega) hv' (fun _ => rfl)
      refine ⟨fun h1 => j_MD_isEven (j_MD_isEven (nx _ ?_)), fun h1 => ⟨fun h2 => j_MD_isEven (j_MD_isEven (nx _ ?_)), fun h2 => j_MD_isEven (j_MD_isEven (nx _ ?_))⟩⟩
      · rw [h3, b2i_eq0] at h1
        rw [ba_s, h1]
        rfl
      · rw [ba_s, decide_eq_false (fun q => h2 (by rw [q])), Bool.and_false]
        rfl
      · rw [h3, b2i_ne0] at h1
        rw [ba_s, h1, decide_eq_true ((nI_eq (by omega) (by omega)).mp h2)]
        rfl
    refine ⟨fun h1 => j_MD_isEven ?_, fun h1 => j_MD_isEven ?_⟩
    · have e0 : 0 < e := by
        rcases Nat.eq_zero_or_pos e with q | q
        · exact absurd (by rw [q]; rfl) h1
        · exact q
      rw [← h4 e0] at tail
      exact tail
    · have e0 : e = 0 := (nI_eq (by omega) (by omega)).mp h1
      rw [show own vs N 0 = own vs N e by rw [e0]] at tail
      exact tail
theorem ev_misEven {n : Nat} (hV : Vr J A N vs) (hn : I 237 0 = nI n) (h8 : n < 8) : am_ev am_sh m_MD_isEven [.ref 236, .int (nI A), .int (nI N)] (I, J, am_Rf f g) (Rt (.int (b2i (ba (fun e => decide (own vs N e = own vs N 0)) n))) (I, J, am_Rf f g)) :=
  s_MD_isEven (j_MD_isEven (lp_meven hV hn h8 ⟨rfl, rfl⟩ n 0 _ 0 _ _ (by omega) rfl (fun h => by omega)))
/-- places found up to k -/
def sn (pl : Nat → Nat) (k s : Nat) : Nat := s ||| 2 ^ pl k
def jb (pl : Nat → Option Nat) (k : Nat) : Bool := match pl k with
  | none => false
  | some p => !tb (fo (sn (fun j => (pl j).getD 0)) 0 k) p
theorem sn_lt {pl : Nat → Nat} : ∀ N, (∀ k, k < N → pl k < 12) → fo (sn pl) 0 N < 4096
  | 0, _ => by show (0 : Nat) < 4096; omega
  | N + 1, h => by
    rw [fo_s]
    exact Nat.or_lt_two_pow (n := 12) (sn_lt N (fun k hk => h k (by omega))) (Nat.pow_lt_pow_right (by omega) (h N (by omega)))
theorem lp_mjust {M : Nat} {pl : Nat → Option Nat} {q : am_Q} (hV : Vr J A N vs) (hM : I 237 1 = nI M) (h12 : M ≤ 12) (hpl : ∀ k, k < N → fo (lst (fun j => I 237 (4 + j)) (nI (vs k))) (-4) M = oi4 (pl k)) (hp12 : ∀ k p, pl k = some p → p < 12) (hq : q (some (.int (b2i (decide (N = M) && ba (jb pl) N)))) (I, J, am_Rf f g)) : ∀ m k s w6, m + k = N → (decide (N = M) && ba (jb pl) k) = true → s = nI (fo (sn (fun j => (pl j).getD 0)) 0 k) → am_u am_sh m_MD_isJust q (am_at am_c_MD_isJust 22) 22 [some (.ref 236), some (.int (nI A)), some (.int (nI N)), some (.int 1), some (.int s), some (.int (nI k)), w6] [] (I, J, am_Rf f g) := by
  have hN := hV.2.1
  intro m
  induction m with
  | zero =>
    intro k s w6 hk hj hs
    obtain rfl : k = N := by omega
    rw [hj] at hq
    exact br_t (nI_le (by omega) (by omega)) (j_MD_isJust ⟨Or.inr rfl, hq⟩)
  | succ m ih =>
    intro k s w6 hk hj hs
    have hg12 : ∀ j, (pl j).getD 0 < 12 := fun j => by
      cases h : pl j with
      | none => show 0 < 12; omega
      | some p => exact hp12 j p h
    have hlt := sn_lt (pl := fun j => (pl j).getD 0) k (fun j _ => hg12 j)
    -- once it isn't, it stays so
    have stop : (jb pl k = false) → ∀ s' w6, am_run am_sh m_MD_isJust q 22 [some (.ref 236), some (.int (nI A)), some (.int (nI N)), some (.int 0), some (.int s'), some (.int (nI k + 1)), w6] [] (I, J, am_Rf f g) := by
      intro hjb s' w6
      have e : (decide (N = M) && ba (jb pl) N) = false := by rw [ba_no (by omega) hjb, Bool.and_false]
      rw [e] at hq
      refine j_MD_isJust ⟨fun _ => j_MD_isJust ⟨Or.inl rfl, hq⟩, fun _ => br_t rfl (j_MD_isJust ⟨Or.inl rfl, hq⟩)⟩
    refine br_f (nI_ge (by omega) (by omega)) (br_f (by decide) ⟨rfl, (ev_row hV (by omega)).rt ⟨rfl, (ev_find hM h12).rt ?_⟩⟩)
    rw [hpl k (by omega)]
    cases hp : pl k with
    | none =>
      refine br_t (by decide) (j_MD_isJust (br_t rfl (j_MD_isJust (stop ?_ _ _))))
      unfold jb
      rw [hp]
    | some p =>
      have hp2 := hp12 k p hp
      refine br_f (nI_pos (n := p) (by omega)) ?_
      show am_ev am_sh m_MD_has [.int s, .int (nI p)] _ _
      rw [hs]
      refine (ev_htb (by omega) (by omega) _).rt ?_
      cases hb : tb (fo (sn (fun j => (pl j).getD 0)) 0 k) p with
      | true =>
        refine ⟨fun _ => j_MD_isJust (br_t rfl (j_MD_isJust (stop ?_ _ _))), fun q => absurd q (by decide)⟩
        unfold jb
        rw [hp]
        show (!tb _ p) = false
        rw [hb]
        rfl
      | false =>
        refine ⟨fun q => absurd rfl q, fun _ => j_MD_isJust (br_f (by decide) (j_MD_isJust (j_MD_isJust ?_)))⟩
        show am_u _ _ _ _ _ [_, _, _, some (.int 1), some (.int (nI (fo (sn (fun j => (pl j).getD 0)) 0 k) ||| (1 : Int32) <<< (nI p &&& 31))), some (.int (nI k + 1)), _] _ _
        rw [shl_tab p (by omega), nI_or, nI_1]
        refine ih (k + 1) _ _ (by omega) ?_ ?_
        · rw [ba_s, ← Bool.and_assoc, hj]
          unfold jb
          rw [hp]
          show (!tb _ p) = true
          rw [hb]
          rfl
        · rw [fo_s]
          show nI _ = nI (fo (sn fun j => (pl j).getD 0) 0 k ||| 2 ^ (pl k).getD 0)
          rw [hp]
          rfl
theorem ev_misJust {M : Nat} {pl : Nat → Option Nat} (hV : Vr J A N vs) (hM : I 237 1 = nI M) (h12 : M ≤ 12) (hpl : ∀ k, k < N → fo (lst (fun j => I 237 (4 + j)) (nI (vs k))) (-4) M = oi4 (pl k)) (hp12 : ∀ k p, pl k = some p → p < 12) : am_ev am_sh m_MD_isJust [.ref 236, .int (nI A), .int (nI N)] (I, J, am_Rf f g) (Rt (.int (b2i (decide (N = M) && ba (jb pl) N))) (I, J, am_Rf f g)) := by
  have hN := hV.2.1
  refine s_MD_isJust ⟨237, rfl, rfl, 116, 1, rfl, by omega, rfl, fun h1 => j_MD_isJust (j_MD_isJust ?_), fun h1 => j_MD_isJust (j_MD_isJust ?_)⟩
  · have e : decide (N = M) = false := decide_eq_false (fun e => h1 (by show nI N = I 237 1; rw [hM, e]))
    rw [e]
    exact ⟨fun _ => j_MD_isJust ⟨Or.inl rfl, rfl, rfl⟩, fun _ => br_t rfl (j_MD_isJust ⟨Or.inl rfl, rfl, rfl⟩)⟩
  · have e : N = M := (nI_eq (by omega) (by omega)).mp (h1.trans hM)
    exact lp_mjust hV hM h12 hpl hp12 ⟨rfl, rfl⟩ N 0 _ _ (by omega) (by rw [decide_eq_true e]; rfl) rfl
end T23
