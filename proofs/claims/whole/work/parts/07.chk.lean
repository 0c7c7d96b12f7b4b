/-! what is checked of each place of a method's code, by the kernel; and what it stands for -/
def am_si : Nat → Nat
  | 0 => 45
  | 1 => 58
  | 2 => 62
  | 3 => 69
  | _ => 73
def am_sx : Nat → String
  | 0 => "majority"
  | 1 => "grid"
  | 2 => "wall"
  | 3 => "plane"
  | _ => "set"
def am_len : List Nat := [8, 4, 4, 5, 3]
def am_byt : List (List Int32) := [am_txt 0, am_txt 1, am_txt 2, am_txt 3, am_txt 4]
def am_il : Instr → Nat
  | .iload _ => 2
  | .lload _ => 2
  | .aload _ => 2
  | .istore _ => 2
  | .lstore _ => 2
  | .astore _ => 2
  | _ => 1
def am_swc (p : Nat) (lo : Int) : List Int → List (Int32 × Nat) → Bool
  | [], [] => true
  | o :: os, (x, t) :: r => decide (x.toInt = lo) && decide ((p : Int) + o = (t : Int)) && am_swc p (lo + 1) os r
  | _, _ => false
def am_mcl (ci : Nat) : String := match am_cl[ci]? with
  | some x => x.1
  | none => ""
/-- one place: t says where its word stands in the tables -/
def am_ok (own : String) (fr lo : Nat) (e : am_E) (t : Nat × Nat) : Bool := match e with
  | (p, ins, len, a, d, k, v, sw) => match ins with
    | .iconst n => decide (len = 1) && decide (v = .int (Int32.ofInt n))
    | .bipush n => decide (len = 2) && decide (v = .int (Int8.ofInt n).toInt32)
    | .sipush n => decide (len = 3) && decide (v = .int (Int16.ofInt n).toInt32)
    | .lconst n => decide (len = 1) && decide (v = .long (Int64.ofNat n.1))
    | .ldc i => decide (len = 2) && match k with
      | 0 => match v with
        | .int x => am_w t.1 t.2 (.constant own i x)
        | _ => false
      | _ => decide (own = RX5) && decide (a < 5) && decide (am_si a = i)
    | .ldc_w i => decide (len = 3) && match v with
      | .int x => am_w t.1 t.2 (.constant own i x)
      | _ => false
    | .ldc2_w i => decide (len = 3) && match v with
      | .long x => am_w t.1 t.2 (.constantLong own i x)
      | _ => false
    | .iinc _ n => decide (len = 3) && decide (v = .int (Int32.ofInt n))
    | .ifCond _ o => decide (len = 3) && decide ((p : Int) + o = (a : Int))
    | .if_icmp _ o => decide (len = 3) && decide ((p : Int) + o = (a : Int))
    | .goto o => decide (len = 3) && decide ((p : Int) + o = (a : Int))
    | .tableswitch df l hi os => decide ((p : Int) + df = (a : Int)) && am_swc p l os.toList sw && decide (hi = l + os.toList.length - 1)
    | .getfield i => decide (len = 3) && match am_cl[a]? with
      | some (_, T, N) => decide (d < N) && am_w t.1 t.2 (.fieldLink own i (T d).1 (T d).2.1 (T d).2.2.1) && decide ((k = 2) ↔ am_isR (am_ft a d) = true)
      | none => false
    | .putfield i => decide (len = 3) && match am_cl[a]? with
      | some (_, T, N) => decide (d < N) && am_w t.1 t.2 (.fieldLink own i (T d).1 (T d).2.1 (T d).2.2.1) && decide ((T d).2.2.2 = false) && decide (k = 0 → am_ft a d = .int) && decide (k = 1 → am_ft a d = .boolean)
      | none => false
    | .iaload => decide (len = 1) && decide (k = 0 ∨ own = RL)
    | .arraylength => decide (len = 1) && decide (own = RL)
    | .baload => decide (len = 1) && decide (a = 12 ∨ a = 16)
    | .bastore => decide (len = 1) && decide (a = 12 ∨ a = 16)
    | .aaload => decide (len = 1) && decide (a = 17 ∨ a = 18 ∨ a = 19)
    | .aastore => decide (len = 1) && decide ((a = 17 ∧ d = 7) ∨ (a = 18 ∧ d = 8))
    | .invokevirtual i => decide (len = 3) && match k with
      | 0 => decide (own = RX5) && decide (6 ≤ fr ∧ 150 ≤ lo) && am_w t.1 t.2 (.methodLink own i yJ0_length_8abf5)
      | 1 => decide (own = RX5) && decide (6 ≤ fr ∧ 150 ≤ lo) && am_w t.1 t.2 (.methodLink own i yJ0_charAt_5068e)
      | ci + 2 => am_w t.1 t.2 (.methodLink own i (am_name a)) && decide (am_fr a + 1 ≤ fr) && decide (8 + (am_max a + 11) + am_lo a ≤ lo) && decide ((parseMethodDescriptor (am_name a).desc).map (fun d => d.parameters.length) = some d) && decide ((am_name a).cls = am_mcl ci) && decide (ci < 12) && decide (am_kd a = 0)
    | .invokestatic i => decide (len = 3) && match k with
      | 0 => am_w t.1 t.2 (.methodLink own i (am_name a)) && decide (am_fr a + 1 ≤ fr) && decide (8 + (am_max a + 11) + am_lo a ≤ lo) && decide ((parseMethodDescriptor (am_name a).desc).map (fun d => d.parameters.length) = some d) && decide (am_kd a = 1)
      | 3 => am_w t.1 t.2 (.methodLink own i Lib.Math.max.name) && decide (1 ≤ fr) && decide (21 ≤ lo)
      | 4 => am_w t.1 t.2 (.methodLink own i Lib.Math.min.name) && decide (1 ≤ fr) && decide (21 ≤ lo)
      | _ => am_w t.1 t.2 (.methodLink own i arraycopyName) && decide (1 ≤ fr) && decide (8 + (nativeFrameWords "java/lang/System" "arraycopy" 5 + 11) ≤ lo)
    | _ => decide (len = am_il ins)
theorem am_bin_at {st : List Value} {K : Int32 → Int32 → List Value → Prop} (h : am_bin st K) : ∃ x y s, st = .int y :: .int x :: s ∧ K x y s := by
  unfold am_bin at h
  split at h
  · exact ⟨_, _, _, rfl, h⟩
  · exact h.elim
theorem am_un_at {st : List Value} {K : Int32 → List Value → Prop} (h : am_un st K) : ∃ x s, st = .int x :: s ∧ K x s := by
  unfold am_un at h
  split at h
  · exact ⟨_, _, rfl, h⟩
  · exact h.elim
theorem am_lbin_at {st : List Value} {K : Int64 → Int64 → List Value → Prop} (h : am_lbin st K) : ∃ x y s, st = .long y :: .long x :: s ∧ K x y s := by
  unfold am_lbin at h
  split at h
  · exact ⟨_, _, _, rfl, h⟩
  · exact h.elim
theorem am_lun_at {st : List Value} {K : Int64 → List Value → Prop} (h : am_lun st K) : ∃ x s, st = .long x :: s ∧ K x s := by
  unfold am_lun at h
  split at h
  · exact ⟨_, _, rfl, h⟩
  · exact h.elim
theorem am_rf_at {st : List Value} {K : Nat → List Value → Prop} (h : am_rf st K) : ∃ x s, st = .ref x :: s ∧ K x s := by
  unfold am_rf at h
  split at h
  · exact ⟨_, _, rfl, h⟩
  · exact h.elim
theorem am_pop_at {K : List Value → List Value → Prop} : ∀ {n : Nat} {st acc : List Value}, am_pop n st acc K → ∃ as s, st = as.reverse ++ s ∧ as.length = n ∧ K (as ++ acc) s
  | 0, st, acc, h => ⟨[], st, rfl, rfl, h⟩
  | n + 1, v :: st, acc, h => by
    obtain ⟨as, s, h1, h2, h3⟩ := am_pop_at (n := n) (st := st) (acc := v :: acc) h
    exact ⟨as ++ [v], s, by simp [h1], by simp [h2], by simpa using h3⟩
  | _ + 1, [], _, h => h.elim
theorem am_words_sum (s : List Value) : am_words s = (s.map fun v => v.category).sum := by
  induction s with
  | nil => rfl
  | cons v r ih => simp [am_words, ih]
theorem am_words_cv (α : Nat → Nat) (s : List Value) : ((s.map (am_cv α)).map fun v => v.category).sum = am_words s := by
  rw [am_words_sum, List.map_map]
  congr 1
  apply List.map_congr_left
  intro v _
  exact am_cv_cat v
