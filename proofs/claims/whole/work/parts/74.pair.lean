/-! groups and as many elements that keep each other even: there are some -/
def slm (gs : Nat → Nat) (M c : Nat) : Bool := !bx (fun k => !Nat.beq k c && sb (gs k) (gs c)) M
theorem sb_and {a b : Nat} : sb a b = true ↔ a &&& b = a := by
  unfold sb
  exact beq_iff
theorem sb_rfl (a : Nat) : sb a a = true := sb_and.mpr (Nat.and_self a)
theorem sb_tr {a b c : Nat} (h1 : sb a b = true) (h2 : sb b c = true) : sb a c = true := by
  rw [sb_and] at h1 h2 ⊢
  rw [← h1, Nat.and_assoc, h2]
theorem slm_ex {gs : Nat → Nat} {M : Nat} (hd : ∀ i j, i < M → j < M → gs i = gs j → i = j) : ∀ (v k : Nat), gs k = v → k < M → ∃ k', k' < M ∧ slm gs M k' = true ∧ sb (gs k') (gs k) = true := by
  intro v
  induction v using Nat.strongRecOn with
  | ind v ih =>
    intro k hv hk
    by_cases q : slm gs M k = true
    · exact ⟨k, hk, q, sb_rfl _⟩
    · unfold slm at q
      rw [Bool.not_eq_true', Bool.not_eq_false, bx_iff] at q
      obtain ⟨i, hi, e⟩ := q
      rw [Bool.and_eq_true, Bool.not_eq_true'] at e
      have hne : gs i ≠ gs k := fun w => by
        have := hd i k hi hk w
        rw [this] at e
        have e1 := e.1
        rw [Nat.beq_refl] at e1
        cases e1
      have hlt : gs i < v := by
        have : gs i ≤ gs k := by
          rw [← sb_and.mp e.2]
          exact Nat.and_le_right
        omega
      obtain ⟨k', a, b, c⟩ := ih (gs i) hlt i rfl hi
      exact ⟨k', a, b, sb_tr c e.2⟩
theorem zb_mono {a b e : Nat} (h : sb a b = true) : zb a e ≤ zb b e := by
  rw [zb_tb, zb_tb]
  by_cases q : tb a e = true
  · rw [if_pos q, if_pos (sbt_iff.mp (sb_and.mp h) e q)]
    exact Int.le_refl _
  · rw [if_neg q]
    split <;> decide
/-- both squares can be solved, and both answers do -/
def Pair (M : Nat) (gs : Nat → Nat) (z : Nat) (mi me : Nat → Nat) : Prop :=
  (∀ w : Nat → Int, (∀ i, i < z → zs (fun c => w c * zb (gs (mi i)) (me c)) z = 0) → ∀ c, c < z → w c = 0) ∧
  (∀ w : Nat → Int, (∀ i, i < z → zs (fun c => w c * zb (gs (mi c)) (me i)) z = 0) → ∀ c, c < z → w c = 0) ∧
  ∃ (d : Int) (y w : Nat → Int), 0 < d ∧ (∀ c, c < z → 0 ≤ y c ∧ 0 ≤ w c) ∧ (∀ i, i < z → zs (fun c => y c * zb (gs (mi i)) (me c)) z = d) ∧ (∀ k, k < M → d ≤ zs (fun c => y c * zb (gs k) (me c)) z) ∧ (∀ i, i < z → zs (fun c => w c * zb (gs (mi c)) (me i)) z = d) ∧ ∀ e, e < 7 → zs (fun c => w c * zb (gs (mi c)) e) z ≤ d
section PAIR
variable {n M : Nat} {gs : Nat → Nat}
theorem by_names {B : Nat → Nat} {N : Nat} (x F : Nat → Int) (hB : ∀ r, r < n → B r < N) : zs (fun r => x r * F (B r)) n = zs (fun u => zs (fun r => if B r = u then x r else 0) n * F u) N := by
  have e1 : zs (fun u => zs (fun r => if B r = u then x r else 0) n * F u) N = zs (fun u => zs (fun r => (if B r = u then x r else 0) * F u) n) N := zs_congr (fun u _ => (zs_mulr _ _ _).symm)
  rw [e1, zs_swap]
  refine zs_congr (fun r hr => ?_)
  rw [zs_one (s := B r) (hB r hr) (fun u _ hn => by rw [if_neg (fun q => hn q.symm), Int.zero_mul]), if_pos rfl]
theorem sP_own {col : Nat → Nat → Int} {B : Nat → Nat} {r r' : Nat} (hr : r < n + 1) (hr' : r' < n) : sP n col B r (col (B r')) = if r = r' then sD n col B else 0 := by
  unfold sP sD
  rw [← bs_row (n := n) (col := col) (B := B) hr', cf_own (by omega) hr]
theorem sP_on {col : Nat → Nat → Int} {B : Nat → Nat} {r : Nat} (hr : r < n) : sP n col B r (e1v n) = 0 := by
  unfold sP
  rw [← bs_last (n := n) (col := col) (B := B), cf_own (by omega) (by omega), if_neg (by omega)]
theorem sP_zs {col : Nat → Nat → Int} {B : Nat → Nat} {r : Nat} (hr : r < n + 1) (w : Nat → Nat → Int) (T : Nat → Int) (N : Nat) : sP n col B r (fun k => zs (fun j => T j * w j k) N) = zs (fun j => T j * sP n col B r (w j)) N := dt_zs hr _ _ _ _
theorem sP_lin {col : Nat → Nat → Int} {B : Nat → Nat} {r : Nat} (hr : r < n + 1) (v : Nat → Int) : sP n col B r v = zs (fun k => v k * sP n col B r (e1v k)) (n + 1) := by
  rw [← sP_zs hr]
  unfold sP
  refine dt_congr (n + 1) _ _ (fun i _ k hk => ?_)
  by_cases q : i = r
  · subst q
    rw [vs_eq, vs_eq, zs_one (s := k) hk]
    · rw [show e1v k k = 1 from if_pos rfl, Int.mul_one]
    · intro j _ hn
      rw [show e1v j k = 0 from if_neg hn, Int.mul_zero]
  · rw [vs_ne q, vs_ne q]
theorem pair_ex (h8 : n < 8) (hM : 1 ≤ M) (h12 : M ≤ 12) (hgs : ∀ c, c < M → 1 ≤ gs c ∧ gs c < 2 ^ n) (hd : ∀ i j, i < M → j < M → gs i = gs j → i = j) : ∃ G S, G < 4096 ∧ 1 ≤ G ∧ S < 2 ^ n ∧ 1 ≤ S ∧ (∀ u, tb G u = true → u < M ∧ slm gs M u = true) ∧ cn (tb G) 12 = cn (tb S) 12 ∧ ∀ mi me, Enm (tb G) 12 mi → Enm (tb S) 12 me → Pair M gs (cn (tb S) 12) mi me := by
  obtain ⟨B, hB, hF⟩ := last_basis (n := n) (col := lpc n gs) (h := lph n) (V := LV n (fun c => c < M ∧ slm gs M c = true)) (B0 := fun r => 12 + r) (by omega) (LV.lt h8) ok0 LV.h1 (LV.h2 h8 (fun c hc => hgs c hc.1))
  have inj : ∀ r r', r < n → r' < n → B r = B r' → r = r' := fun r r' a b c => bs_inj hB.2.1 a b c
  have lt : ∀ r, r < n → B r < 12 + n := fun r hr => by
    rcases hB.1 r hr with ⟨q, _⟩ | ⟨_, q⟩ <;> omega
  have D0 := hB.2.2.1
  have cnt := cn_inj lt inj
  have bas : ∀ u, bx (fun r => decide (B r = u)) n = true ↔ Bas n B u := fun u => by
    rw [bx_iff]
    constructor
    · rintro ⟨r, hr, e⟩; exact ⟨r, hr, of_decide_eq_true e⟩
    · rintro ⟨r, hr, e⟩; exact ⟨r, hr, decide_eq_true e⟩
  generalize hba : (fun u => bx (fun r => decide (B r = u)) n) = ba at cnt
  have bas : ∀ u, ba u = true ↔ Bas n B u := fun u => by rw [← hba]; exact bas u
  rw [cn_add] at cnt
  have hG := fun u (hu : u < 12) => tb_msk ba 12 u hu
  have hS := fun e (he : e < n) => tb_msk (fun e => !ba (12 + e)) n e he
  have hG12 := msk_lt ba 12
  have hSn := msk_lt (fun e => !ba (12 + e)) n
  generalize msk ba 12 = G at hG hG12
  generalize msk (fun e => !ba (12 + e)) n = S at hS hSn
  have tG : ∀ u, tb G u = true → u < 12 ∧ Bas n B u := fun u hu => by
    rcases Nat.lt_or_ge u 12 with q | q
    · rw [hG u q] at hu
      exact ⟨q, (bas u).mp hu⟩
    · rw [tb_out (n := 12) hG12 q] at hu; cases hu
  have tG2 : ∀ u, u < 12 → Bas n B u → tb G u = true := fun u hu hb => by rw [hG u hu]; exact (bas u).mpr hb
  have tS : ∀ e, tb S e = true → e < n ∧ ¬ Bas n B (12 + e) := fun e he => by
    rcases Nat.lt_or_ge e n with q | q
    · rw [hS e q] at he
      refine ⟨q, fun w => ?_⟩
      rw [(bas _).mpr w] at he
      cases he
    · rw [tb_out hSn q] at he; cases he
  have tS2 : ∀ e, e < n → tb S e = false → Bas n B (12 + e) := fun e he h => by
    rw [hS e he] at h
    refine (bas _).mp ?_
    cases q : ba (12 + e) with
    | true => rfl
    | false => rw [q] at h; cases h
  -- shares
  have Y0 : ∀ e, e < n → tb S e = false → sP n (lpc n gs) B n (e1v e) = 0 := fun e he h => by
    have := psi_bas (col := lpc n gs) (tS2 e he h)
    rw [lpc_s] at this
    exact this
  have sumY : ∀ (F : Nat → Int) (me : Nat → Nat), Enm (tb S) 12 me → (∀ e, e < n → tb S e = false → F e = 0) → zs F n = zs (fun c => F (me c)) (cn (tb S) 12) := by
    intro F me hme h0
    rw [← zs_enum hme, zs_cut (a := n) (b := 12) (by omega) (fun u a _ => by rw [tb_out hSn a, if_neg (by decide)])]
    refine zs_congr (fun e he => ?_)
    cases q : tb S e with
    | true => rw [if_pos rfl]
    | false => rw [if_neg (by decide), h0 e he q]
  -- sizes
  have c1 : cn (tb G) 12 = cn ba 12 := cn_congr (fun u hu => hG u hu)
  have c2 : cn (tb S) 12 = cn (fun e => !ba (12 + e)) n := by
    rw [cn_out (a := n) (b := 12) (by omega) (fun u a _ => tb_out hSn a)]
    exact cn_congr (fun e he => hS e he)
  have c3 : ∀ m, cn (fun e => !ba (12 + e)) m + cn (fun x => ba (12 + x)) m = m := by
    intro m
    induction m with
    | zero => rfl
    | succ m ih =>
      cases q : ba (12 + m) with
      | true => rw [cn_no (by rw [q]; rfl), cn_yes (P := fun x => ba (12 + x)) q]; omega
      | false => rw [cn_yes (by rw [q]; rfl), cn_no (P := fun x => ba (12 + x)) q]; omega
  have c4 := c3 n
  have cGS : cn (tb G) 12 = cn (tb S) 12 := by omega
  have S1 : 1 ≤ S := by
    rcases Nat.eq_zero_or_pos S with q | q
    · exfalso
      obtain ⟨k, k1, k2, _⟩ := slm_ex hd _ 0 rfl hM
      have := dual_ge hF (show k < 12 by omega) ⟨k1, k2⟩
      rw [zs_0 (fun e he => by rw [Y0 e he (by rw [q]; unfold tb; rw [Nat.zero_div]; rfl), Int.mul_zero])] at this
      omega
    · exact q
  have szpos : 1 ≤ cn (tb S) 12 := by
    refine Nat.pos_of_ne_zero (fun q => ?_)
    have z : ∀ e, e < n → tb S e = false := by
      intro e he
      cases w : tb S e with
      | false => rfl
      | true =>
        have := cn_mono (P := tb S) (a := e + 1) (b := 12) (by omega)
        rw [cn_yes w] at this
        omega
    obtain ⟨k, k1, k2, _⟩ := slm_ex hd _ 0 rfl hM
    have := dual_ge hF (show k < 12 by omega) ⟨k1, k2⟩
    rw [zs_0 (fun e he => by rw [Y0 e he (z e he), Int.mul_zero])] at this
    omega
  have G1 : 1 ≤ G := by
    rcases Nat.eq_zero_or_pos G with q | q
    · exfalso
      have : cn (tb G) 12 = cn (tb G) 0 := cn_out (by omega) (fun u _ _ => by rw [q]; unfold tb; rw [Nat.zero_div]; rfl)
      have z : cn (tb G) 0 = 0 := rfl
      omega
    · exact q
  have hGM : ∀ u, tb G u = true → u < M ∧ slm gs M u = true := by
    intro u hu
    obtain ⟨q, r, hr, e⟩ := tG u hu
    rcases hB.1 r hr with ⟨_, w⟩ | ⟨w, _⟩
    · rw [e] at w; exact w
    · omega
  refine ⟨G, S, hG12, G1, hSn, S1, hGM, cGS, fun mi me hmi hme => ?_⟩
  have hmeT : ∀ c, c < cn (tb S) 12 → me c < n ∧ ¬ Bas n B (12 + me c) := fun c hc => tS _ (hme c hc).2.1
  have hmiT : ∀ c, c < cn (tb S) 12 → mi c < 12 ∧ Bas n B (mi c) := fun c hc => tG _ (hmi c (by rw [cGS]; exact hc)).2.1
  -- weights
  have X0 : ∀ u, ¬ Bas n B u → zs (fun r => if B r = u then sP n (lpc n gs) B r (lph n) else 0) n = 0 := fun u hu => zs_0 (fun r hr => if_neg (fun q => hu ⟨r, hr, q⟩))
  have Xn : ∀ u, 0 ≤ zs (fun r => if B r = u then sP n (lpc n gs) B r (lph n) else 0) n := fun u => zs_nn (fun r hr => by
    split
    · exact hB.2.2.2 r hr
    · exact Int.le_refl _)
  have prim : ∀ e, e < n → sD n (lpc n gs) B = zs (fun u => zs (fun r => if B r = u then sP n (lpc n gs) B r (lph n) else 0) n * zb (gs u) e) 12 + zs (fun r => if B r = 12 + e then sP n (lpc n gs) B r (lph n) else 0) n := by
    intro e he
    have t := prim_e hB he
    rw [by_names (N := 12 + n) (fun r => sP n (lpc n gs) B r (lph n)) (fun u => lpc n gs u e) lt, zs_app] at t
    rw [t]
    congr 1
    · exact zs_congr (fun u hu => by rw [lpc_g hu he])
    · rw [zs_one (s := e) he (fun i _ hn => by rw [lpc_s, show e1v i e = 0 from if_neg hn, Int.mul_zero]), lpc_s, show e1v e e = 1 from if_pos rfl, Int.mul_one]
  have sumX : ∀ F : Nat → Int, zs (fun u => zs (fun r => if B r = u then sP n (lpc n gs) B r (lph n) else 0) n * F u) 12 = zs (fun c => zs (fun r => if B r = mi c then sP n (lpc n gs) B r (lph n) else 0) n * F (mi c)) (cn (tb S) 12) := by
    intro F
    have t := zs_enum (F := fun u => zs (fun r => if B r = u then sP n (lpc n gs) B r (lph n) else 0) n * F u) hmi
    rw [cGS] at t
    rw [← t]
    refine zs_congr (fun u hu => ?_)
    by_cases q : tb G u = true
    · rw [if_pos q]
    · rw [if_neg q, X0 u (fun w => q (tG2 u hu w)), Int.zero_mul]
  refine ⟨fun w hw => ?_, fun w hw => ?_, sD n (lpc n gs) B, fun c => sP n (lpc n gs) B n (e1v (me c)), fun c => zs (fun r => if B r = mi c then sP n (lpc n gs) B r (lph n) else 0) n, D0, fun c hc => ⟨dual_nn hF (hmeT c hc).1, Xn _⟩, fun i hi => ?_, fun k hk => ?_, fun i hi => ?_, fun e he => ?_⟩
  · -- shares are told by the groups
    have lam : ∀ v : Nat → Int, zs (fun e => (if tb S e = true then w (cn (tb S) e) else 0) * v e) n = zs (fun c => w c * v (me c)) (cn (tb S) 12) := by
      intro v
      rw [sumY _ me hme (fun e he h => by rw [h, if_neg (by decide), Int.zero_mul])]
      refine zs_congr (fun c hc => ?_)
      rw [if_pos (hme c hc).2.1, (hme c hc).2.2]
    have row : ∀ r, r < n → zs (fun e => (if tb S e = true then w (cn (tb S) e) else 0) * lpc n gs (B r) e) n = 0 := by
      intro r hr
      rcases hB.1 r hr with ⟨q, _⟩ | ⟨q1, q2⟩
      · obtain ⟨a, b⟩ := hmi.hit q (tG2 _ q ⟨r, hr, rfl⟩)
        have t := hw _ (by rw [← cGS]; exact a)
        rw [b] at t
        exact (zs_congr (fun e he => by rw [lpc_g q he])).trans ((lam (fun e => zb (gs (B r)) e)).trans t)
      · obtain ⟨e0, he0⟩ : ∃ e0, B r = 12 + e0 := ⟨B r - 12, by omega⟩
        rw [he0, lpc_s, zs_one (s := e0) (by omega) (fun i _ hn => by rw [show e1v e0 i = 0 from if_neg (fun q => hn q.symm), Int.mul_zero]), show e1v e0 e0 = 1 from if_pos rfl, Int.mul_one]
        refine if_neg (fun q => (tS e0 q).2 ⟨r, hr, he0⟩)
    intro c hc
    have hc1 := (hmeT c hc).1
    have t1 : sD n (lpc n gs) B * w c = zs (fun k => (if tb S k = true then w (cn (tb S) k) else 0) * (sD n (lpc n gs) B * e1v (me c) k)) n := by
      rw [zs_one (s := me c) hc1 (fun i _ hn => by rw [show e1v (me c) i = 0 from if_neg (fun q => hn q.symm), Int.mul_zero, Int.mul_zero]), show e1v (me c) (me c) = 1 from if_pos rfl, if_pos (hme c hc).2.1, (hme c hc).2.2, Int.mul_one, Int.mul_comm]
    have t2 : zs (fun k => (if tb S k = true then w (cn (tb S) k) else 0) * (sD n (lpc n gs) B * e1v (me c) k)) n = zs (fun k => zs (fun r => (if tb S k = true then w (cn (tb S) k) else 0) * (sP n (lpc n gs) B r (e1v (me c)) * bs n (lpc n gs) B r k)) (n + 1)) n := zs_congr (fun k hk => by
      rw [zs_mul]
      congr 1
      exact hB.2.1.2 (e1v (me c)) k (by omega))
    rw [t2, zs_swap, zs_0 (fun r hr => ?_)] at t1
    · exact zero_of_mul D0 t1
    · have t3 : zs (fun k => (if tb S k = true then w (cn (tb S) k) else 0) * (sP n (lpc n gs) B r (e1v (me c)) * bs n (lpc n gs) B r k)) n = sP n (lpc n gs) B r (e1v (me c)) * zs (fun k => (if tb S k = true then w (cn (tb S) k) else 0) * bs n (lpc n gs) B r k) n := by
        rw [← zs_mul]
        exact zs_congr (fun k _ => Int.mul_left_comm _ _ _)
      rw [t3]
      by_cases q : r = n
      · rw [q, bs_last, zs_0 (fun k hk => by rw [show e1v n k = 0 from if_neg (by omega), Int.mul_zero]), Int.mul_zero]
      · rw [bs_row (show r < n by omega), row r (by omega), Int.mul_zero]
  · -- groups are told by the elements
    have mu : ∀ F : Nat → Int, zs (fun u => (if tb G u = true then w (cn (tb G) u) else 0) * F u) 12 = zs (fun c => w c * F (mi c)) (cn (tb S) 12) := by
      intro F
      have t := zs_enum (F := fun u => w (cn (tb G) u) * F u) hmi
      have t2 : zs (fun u => (if tb G u = true then w (cn (tb G) u) else 0) * F u) 12 = zs (fun u => if tb G u = true then w (cn (tb G) u) * F u else 0) 12 := zs_congr (fun u _ => by
        split
        · rfl
        · exact Int.zero_mul _)
      rw [t2, t, cGS]
      exact zs_congr (fun c hc => by rw [(hmi c (by rw [cGS]; exact hc)).2.2])
    intro c hc
    obtain ⟨u12, r0, hr0, e0⟩ := hmiT c hc
    have a1 := sP_zs (n := n) (col := lpc n gs) (B := B) (r := r0) (by omega) (lpc n gs) (fun u => if tb G u = true then w (cn (tb G) u) else 0) 12
    have a2 := sP_lin (n := n) (col := lpc n gs) (B := B) (r := r0) (by omega) (fun k => zs (fun u => (if tb G u = true then w (cn (tb G) u) else 0) * lpc n gs u k) 12)
    rw [a1] at a2
    have l1 : zs (fun j => (if tb G j = true then w (cn (tb G) j) else 0) * sP n (lpc n gs) B r0 (lpc n gs j)) 12 = w c * sD n (lpc n gs) B := by
      rw [zs_one (s := mi c) u12]
      · rw [← e0, sP_own (by omega) hr0, if_pos rfl, e0, if_pos (hmi c (by rw [cGS]; exact hc)).2.1, (hmi c (by rw [cGS]; exact hc)).2.2]
      · intro u hu hn
        by_cases q : tb G u = true
        · obtain ⟨_, r', hr', e'⟩ := tG u q
          rw [← e', sP_own (by omega) hr', if_neg (show ¬ r0 = r' from fun w => hn (by rw [← e', ← w, e0])), Int.mul_zero]
        · rw [if_neg q, Int.zero_mul]
    rw [l1, zs_0 (fun k hk => ?_)] at a2
    · rw [Int.mul_comm] at a2
      exact zero_of_mul D0 a2
    · by_cases q : k = n
      · rw [q, sP_on hr0, Int.mul_zero]
      · have hk' : k < n := by omega
        cases w' : tb S k with
        | true =>
          obtain ⟨a, b⟩ := hme.hit (show k < 12 by omega) w'
          have t := hw _ a
          rw [b] at t
          have t4 : zs (fun u => (if tb G u = true then w (cn (tb G) u) else 0) * lpc n gs u k) 12 = 0 := by
            exact (zs_congr (fun u hu => by rw [lpc_g hu hk'])).trans ((mu (fun u => zb (gs u) k)).trans t)
          rw [t4, Int.zero_mul]
        | false =>
          obtain ⟨r', hr', e'⟩ := tS2 k hk' w'
          rw [← lpc_s (n := n) (gs := gs), ← e', sP_own (by omega) hr', if_neg (fun w => by rw [← w, e0] at e'; omega), Int.mul_zero]
  · obtain ⟨u12, hb⟩ := hmiT i hi
    have t := psi_bas (col := lpc n gs) hb
    rw [psi_lin, lpc_n u12, zs_congr (fun e he => by rw [lpc_g u12 he]), sumY _ me hme (fun e he h => by rw [Y0 e he h, Int.mul_zero])] at t
    rw [zs_congr (fun c _ => Int.mul_comm _ _)]
    omega
  · obtain ⟨k', a, b, c⟩ := slm_ex hd _ k rfl hk
    have t := dual_ge hF (show k' < 12 by omega) ⟨a, b⟩
    have t2 : zs (fun e => zb (gs k') e * sP n (lpc n gs) B n (e1v e)) n ≤ zs (fun e => zb (gs k) e * sP n (lpc n gs) B n (e1v e)) n := zs_le (fun e he => Int.mul_le_mul_of_nonneg_right (zb_mono c) (dual_nn hF he))
    rw [sumY (fun e => zb (gs k) e * sP n (lpc n gs) B n (e1v e)) me hme (fun e he h => by rw [Y0 e he h, Int.mul_zero])] at t2
    rw [zs_congr (fun c _ => Int.mul_comm _ _)]
    omega
  · obtain ⟨a, b⟩ := hmeT i hi
    have t := prim (me i) a
    rw [X0 _ b, Int.add_zero, sumX (fun u => zb (gs u) (me i))] at t
    exact t.symm
  · rcases Nat.lt_or_ge e n with q | q
    · have t := prim e q
      have := Xn (12 + e)
      rw [sumX (fun u => zb (gs u) e)] at t
      show zs (fun c => zs (fun r => if B r = mi c then sP n (lpc n gs) B r (lph n) else 0) n * zb (gs (mi c)) e) (cn (tb S) 12) ≤ _
      omega
    · rw [zs_0 (fun c hc => ?_)]
      · omega
      · have hm := hGM _ (hmi c (by rw [cGS]; exact hc)).2.1
        rw [zb_tb (gs (mi c)) e, tb_out (hgs _ hm.1).2 q, if_neg (by decide), Int.mul_zero]
end PAIR
