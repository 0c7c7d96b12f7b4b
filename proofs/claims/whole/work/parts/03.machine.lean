/-! THE SMALL MACHINE: a method's code as a list of places; what it does to locals, stack and three tables of cells; a judgement that unfolds by itself. -/
abbrev am_L : Type := List (Option Value)
/-- ints (fields and rows), longs, references: by the cell's number and the place in it -/
abbrev am_S : Type := (Nat → Nat → Int32) × (Nat → Nat → Int64) × (Nat → Nat → Option Nat)
/-- place, instruction, length, three numbers, a constant, the pairs of a switch -/
abbrev am_E : Type := Nat × Instr × Nat × Nat × Nat × Nat × Value × List (Int32 × Nat)
abbrev am_Q : Type := Option Value → am_S → Prop
/-- the kinds of all cells: a class's number and 0, or an array's kind and its length -/
abbrev am_H : Type := List (Nat × Nat)
def am_up {α : Type} (f : Nat → Nat → α) (a k : Nat) (v : α) : Nat → Nat → α := fun b j => if b = a ∧ j = k then v else f b j
def am_row {α : Type} (f : Nat → Nat → α) (a : Nat) (g : Nat → α) : Nat → Nat → α := fun b j => if b = a then g j else f b j
/-- a long is cut where its second half is overwritten -/
def am_cut (i : Nat) (x : Option Value) (K : Option Value → Prop) : Prop := match i with
  | 0 => match x with
    | some (.long _) => K none
    | some (.double _) => K none
    | y => K y
  | _ + 1 => K x
/-- a local is stored -/
def am_lset : am_L → Nat → Value → (am_L → Prop) → Prop
  | [], _, _, _ => False
  | _ :: xs, 0, v, K => match v with
    | .long z => match xs with
      | [] => False
      | _ :: ys => K (some (.long z) :: none :: ys)
    | w => K (some w :: xs)
  | x :: xs, i + 1, v, K => am_lset xs i v (fun ys => am_cut i x (fun y => K (y :: ys)))
def am_lget : am_L → Nat → (Value → Prop) → Prop
  | [], _, _ => False
  | x :: _, 0, K => match x with
    | some v => K v
    | none => False
  | _ :: xs, i + 1, K => am_lget xs i K
def am_pop : Nat → List Value → List Value → (List Value → List Value → Prop) → Prop
  | 0, st, acc, K => K acc st
  | n + 1, v :: st, acc, K => am_pop n st (v :: acc) K
  | _ + 1, [], _, _ => False
def am_words : List Value → Nat
  | [] => 0
  | v :: r => v.category + am_words r
def am_sw (x : Int32) (d : Prop) (g : Nat → Prop) : List (Int32 × Nat) → Prop
  | [] => d
  | (v, t) :: r => (x = v → g t) ∧ (¬ x = v → am_sw x d g r)
def am_in (h : am_H) (t k : Nat) (i : Int32) (K : Nat → Prop) : Prop := ∃ n j, h[t]? = some (k, n) ∧ j < n ∧ i = nI j ∧ K j
abbrev am_G : Type := Nat → am_L → List Value → am_S → Prop
abbrev am_C : Type := Nat → List Value → am_S → am_Q → Prop
def am_bin (st : List Value) (K : Int32 → Int32 → List Value → Prop) : Prop := match st with
  | .int y :: .int x :: s => K x y s
  | _ => False
def am_un (st : List Value) (K : Int32 → List Value → Prop) : Prop := match st with
  | .int x :: s => K x s
  | _ => False
def am_lbin (st : List Value) (K : Int64 → Int64 → List Value → Prop) : Prop := match st with
  | .long y :: .long x :: s => K x y s
  | _ => False
def am_lun (st : List Value) (K : Int64 → List Value → Prop) : Prop := match st with
  | .long x :: s => K x s
  | _ => False
def am_rf (st : List Value) (K : Nat → List Value → Prop) : Prop := match st with
  | .ref a :: s => K a s
  | _ => False
def am_ld (v : Value) (k : Nat) (K : Prop) : Prop := match k, v with
  | 0, .int _ => K
  | 1, .long _ => K
  | 2, .ref _ => K
  | _, _ => False
def am_br (c : Jvm.ClassFile.Cond) (x y : Int32) (t f : Prop) : Prop := match c with
  | .eq => (x = y → t) ∧ (¬ x = y → f)
  | .ne => (¬ x = y → t) ∧ (x = y → f)
  | .lt => (x < y → t) ∧ (¬ x < y → f)
  | .ge => (y ≤ x → t) ∧ (¬ y ≤ x → f)
  | .gt => (y < x → t) ∧ (¬ y < x → f)
  | .le => (x ≤ y → t) ∧ (¬ x ≤ y → f)
def am_at : List am_E → Nat → List am_E
  | [], _ => []
  | e :: r, pc => match Nat.beq e.1 pc with
    | true => e :: r
    | false => am_at r pc
def am_push (r : Option Value) (s : List Value) : List Value := match r with
  | some v => v :: s
  | none => s
/-- where String constants stand -/
abbrev am_SB : Nat := 1000000
abbrev am_SC : Nat := 2000000
def am_txt : Nat → List Int32
  | 0 => [109, 97, 106, 111, 114, 105, 116, 121]
  | 1 => [103, 114, 105, 100]
  | 2 => [119, 97, 108, 108]
  | 3 => [112, 108, 97, 110, 101]
  | 4 => [115, 101, 116]
  | _ => []
/-- one instruction: h the cells' kinds, (L, xs) the script, ret what the method answers; go: the next place, jmp: another one -/
def am_step (h : am_H) (L : Nat) (xs : Nat → Int32) (ret : Option FieldType) (go jmp : am_G) (cal : am_C) (q : am_Q) (e : am_E) (pc : Nat) (ls : am_L) (st : List Value) (σ : am_S) : Prop := match σ, e with
  | (I, J, R), (p, ins, _, a, d, k, v, sw) => match Nat.beq p pc with
    | false => False
    | true => match ins with
      | .iconst _ => go (p + 1) ls (v :: st) (I, J, R)
      | .bipush _ => go (p + 2) ls (v :: st) (I, J, R)
      | .sipush _ => go (p + 3) ls (v :: st) (I, J, R)
      | .lconst _ => go (p + 1) ls (v :: st) (I, J, R)
      | .ldc _ => match k with
        | 0 => go (p + 2) ls (v :: st) (I, J, R)
        | _ => go (p + 2) ls (.ref (am_SB + a) :: st) (I, J, R)
      | .ldc_w _ => go (p + 3) ls (v :: st) (I, J, R)
      | .ldc2_w _ => go (p + 3) ls (v :: st) (I, J, R)
      | .iload_n i => am_lget ls i.1 (fun w => am_ld w 0 (go (p + 1) ls (w :: st) (I, J, R)))
      | .iload i => am_lget ls i (fun w => am_ld w 0 (go (p + 2) ls (w :: st) (I, J, R)))
      | .lload_n i => am_lget ls i.1 (fun w => am_ld w 1 (go (p + 1) ls (w :: st) (I, J, R)))
      | .lload i => am_lget ls i (fun w => am_ld w 1 (go (p + 2) ls (w :: st) (I, J, R)))
      | .aload_n i => am_lget ls i.1 (fun w => am_ld w 2 (go (p + 1) ls (w :: st) (I, J, R)))
      | .aload i => am_lget ls i (fun w => am_ld w 2 (go (p + 2) ls (w :: st) (I, J, R)))
      | .istore_n i => am_un st (fun x s => am_lset ls i.1 (.int x) (fun ls' => go (p + 1) ls' s (I, J, R)))
      | .istore i => am_un st (fun x s => am_lset ls i (.int x) (fun ls' => go (p + 2) ls' s (I, J, R)))
      | .lstore_n i => am_lun st (fun x s => am_lset ls i.1 (.long x) (fun ls' => go (p + 1) ls' s (I, J, R)))
      | .lstore i => am_lun st (fun x s => am_lset ls i (.long x) (fun ls' => go (p + 2) ls' s (I, J, R)))
      | .astore_n i => am_rf st (fun x s => am_lset ls i.1 (.ref x) (fun ls' => go (p + 1) ls' s (I, J, R)))
      | .astore i => am_rf st (fun x s => am_lset ls i (.ref x) (fun ls' => go (p + 2) ls' s (I, J, R)))
      | .iinc i _ => am_lget ls i (fun w => match w, v with
        | .int x, .int z => am_lset ls i (.int (x + z)) (fun ls' => go (p + 3) ls' st (I, J, R))
        | _, _ => False)
      | .iadd => am_bin st (fun x y s => go (p + 1) ls (.int (x + y) :: s) (I, J, R))
      | .isub => am_bin st (fun x y s => go (p + 1) ls (.int (x - y) :: s) (I, J, R))
      | .imul => am_bin st (fun x y s => go (p + 1) ls (.int (x * y) :: s) (I, J, R))
      | .iand => am_bin st (fun x y s => go (p + 1) ls (.int (x &&& y) :: s) (I, J, R))
      | .ior => am_bin st (fun x y s => go (p + 1) ls (.int (x ||| y) :: s) (I, J, R))
      | .ixor => am_bin st (fun x y s => go (p + 1) ls (.int (x ^^^ y) :: s) (I, J, R))
      | .idiv => am_bin st (fun x y s => ¬ y = 0 ∧ go (p + 1) ls (.int (x / y) :: s) (I, J, R))
      | .irem => am_bin st (fun x y s => ¬ y = 0 ∧ go (p + 1) ls (.int (x - x / y * y) :: s) (I, J, R))
      | .ishl => am_bin st (fun x y s => go (p + 1) ls (.int (x <<< (y &&& 31)) :: s) (I, J, R))
      | .ishr => am_bin st (fun x y s => go (p + 1) ls (.int (x >>> (y &&& 31)) :: s) (I, J, R))
      | .iushr => am_bin st (fun x y s => go (p + 1) ls (.int (x.toUInt32 >>> (y.toUInt32 &&& Int32.toUInt32 31)).toInt32 :: s) (I, J, R))
      | .ineg => am_un st (fun x s => go (p + 1) ls (.int (-x) :: s) (I, J, R))
      | .ladd => am_lbin st (fun x y s => go (p + 1) ls (.long (x + y) :: s) (I, J, R))
      | .lmul => am_lbin st (fun x y s => go (p + 1) ls (.long (x * y) :: s) (I, J, R))
      | .land => am_lbin st (fun x y s => go (p + 1) ls (.long (x &&& y) :: s) (I, J, R))
      | .lor => am_lbin st (fun x y s => go (p + 1) ls (.long (x ||| y) :: s) (I, J, R))
      | .ldiv => am_lbin st (fun x y s => ¬ y = 0 ∧ go (p + 1) ls (.long (x / y) :: s) (I, J, R))
      | .lrem => am_lbin st (fun x y s => ¬ y = 0 ∧ go (p + 1) ls (.long (x - x / y * y) :: s) (I, J, R))
      | .lcmp => am_lbin st (fun x y s => go (p + 1) ls (.int (lg_cmp x y) :: s) (I, J, R))
      | .lshl => am_un st (fun y s => am_lun s (fun x s => go (p + 1) ls (.long (x <<< (y.toInt64 &&& 63)) :: s) (I, J, R)))
      | .i2l => am_un st (fun x s => go (p + 1) ls (.long x.toInt64 :: s) (I, J, R))
      | .l2i => am_lun st (fun x s => go (p + 1) ls (.int x.toInt32 :: s) (I, J, R))
      | .i2b => am_un st (fun x s => go (p + 1) ls (.int x.toInt8.toInt32 :: s) (I, J, R))
      | .i2s => am_un st (fun x s => go (p + 1) ls (.int x.toInt16.toInt32 :: s) (I, J, R))
      | .i2c => am_un st (fun x s => go (p + 1) ls (.int (x.toUInt32 % 65536).toInt32 :: s) (I, J, R))
      | .dup => match st with
        | .int x :: s => go (p + 1) ls (.int x :: .int x :: s) (I, J, R)
        | .ref x :: s => go (p + 1) ls (.ref x :: .ref x :: s) (I, J, R)
        | _ => False
      | .pop => match st with
        | .int _ :: s => go (p + 1) ls s (I, J, R)
        | .ref _ :: s => go (p + 1) ls s (I, J, R)
        | _ => False
      | .dup2 => match st with
        | .int x :: .ref y :: s => go (p + 1) ls (.int x :: .ref y :: .int x :: .ref y :: s) (I, J, R)
        | _ => False
      | .ifCond cd _ => am_un st (fun x s => am_br cd x 0 (jmp a ls s (I, J, R)) (go (p + 3) ls s (I, J, R)))
      | .if_icmp cd _ => am_bin st (fun x y s => am_br cd x y (jmp a ls s (I, J, R)) (go (p + 3) ls s (I, J, R)))
      | .goto _ => jmp a ls st (I, J, R)
      | .tableswitch _ _ _ _ => am_un st (fun x s => am_sw x (jmp a ls s (I, J, R)) (fun t => jmp t ls s (I, J, R)) sw)
      | .getfield _ => am_rf st (fun i s => match k with
        | 2 => ∃ j, h[i]? = some (a, 0) ∧ R i d = some j ∧ go (p + 3) ls (.ref j :: s) (I, J, R)
        | _ => h[i]? = some (a, 0) ∧ go (p + 3) ls (.int (I i d) :: s) (I, J, R))
      | .putfield _ => match st with
        | .int x :: .ref i :: s => match k with
          | 0 => h[i]? = some (a, 0) ∧ go (p + 3) ls s (am_up I i d x, J, R)
          | 1 => h[i]? = some (a, 0) ∧ (x = 0 ∨ x = 1) ∧ go (p + 3) ls s (am_up I i d x, J, R)
          | _ => False
        | _ => False
      | .iaload => am_un st (fun i s => am_rf s (fun t s => match k with
        | 0 => am_in h t 14 i (fun j => go (p + 1) ls (.int (I t j) :: s) (I, J, R))
        | _ => t = am_SC ∧ ∃ j, j < L ∧ i = nI j ∧ go (p + 1) ls (.int (xs j) :: s) (I, J, R)))
      | .arraylength => am_rf st (fun t s => t = am_SC ∧ go (p + 1) ls (.int (nI L) :: s) (I, J, R))
      | .baload => am_un st (fun i s => am_rf s (fun t s => am_in h t a i (fun j => go (p + 1) ls (.int (I t j) :: s) (I, J, R))))
      | .caload => am_un st (fun i s => am_rf s (fun t s => am_in h t 13 i (fun j => go (p + 1) ls (.int (I t j) :: s) (I, J, R))))
      | .laload => am_un st (fun i s => am_rf s (fun t s => am_in h t 15 i (fun j => go (p + 1) ls (.long (J t j) :: s) (I, J, R))))
      | .aaload => am_un st (fun i s => am_rf s (fun t s => am_in h t a i (fun j => ∃ o, R t j = some o ∧ go (p + 1) ls (.ref o :: s) (I, J, R))))
      | .iastore => am_un st (fun x s => am_un s (fun i s => am_rf s (fun t s => am_in h t 14 i (fun j => go (p + 1) ls s (am_up I t j x, J, R)))))
      | .bastore => am_un st (fun x s => am_un s (fun i s => am_rf s (fun t s => am_in h t a i (fun j => go (p + 1) ls s (am_up I t j (vp_nar (match a with | 12 => .byte | _ => .boolean) x), J, R)))))
      | .castore => am_un st (fun x s => am_un s (fun i s => am_rf s (fun t s => am_in h t 13 i (fun j => go (p + 1) ls s (am_up I t j (vp_nar .char x), J, R)))))
      | .lastore => am_lun st (fun x s => am_un s (fun i s => am_rf s (fun t s => am_in h t 15 i (fun j => go (p + 1) ls s (I, am_up J t j x, R)))))
      | .aastore => am_rf st (fun o s => am_un s (fun i s => am_rf s (fun t s => am_in h t a i (fun j => h[o]? = some (d, 0) ∧ go (p + 1) ls s (I, J, am_up R t j (some o))))))
      | .invokevirtual _ => match k with
        | 0 => am_rf st (fun i s => match Nat.ble (am_words s) 8 with
          | true => ∃ t, i = am_SB + t ∧ t < 5 ∧ go (p + 3) ls (.int (nI (am_txt t).length) :: s) (I, J, R)
          | false => False)
        | 1 => am_un st (fun x s => am_rf s (fun i s => match Nat.ble (am_words s) 8 with
          | true => ∃ t j, i = am_SB + t ∧ t < 5 ∧ j < (am_txt t).length ∧ x = nI j ∧ go (p + 3) ls (.int ((am_txt t).getD j 0) :: s) (I, J, R)
          | false => False))
        | ci + 2 => am_pop (d + 1) st [] (fun as s => match Nat.ble (am_words s) 8 with
          | true => match as with
            | .ref i :: _ => h[i]? = some (ci, 0) ∧ cal a as (I, J, R) (fun w σ' => go (p + 3) ls (am_push w s) σ')
            | _ => False
          | false => False)
      | .invokestatic _ => match k with
        | 0 => am_pop d st [] (fun as s => match Nat.ble (am_words s) 8 with
          | true => cal a as (I, J, R) (fun w σ' => go (p + 3) ls (am_push w s) σ')
          | false => False)
        | 1 => am_un st (fun n s => am_un s (fun dp s => am_rf s (fun t s => am_un s (fun sp s => am_rf s (fun u s => match Nat.ble (am_words s) 8 with
          | true => ∃ nu nt i j m, h[u]? = some (14, nu) ∧ h[t]? = some (14, nt) ∧ i + m ≤ nu ∧ j + m ≤ nt ∧ sp = nI i ∧ dp = nI j ∧ n = nI m ∧ go (p + 3) ls s (am_row I t (va_cpy (I u) (I t) i j m), J, R)
          | false => False)))))
        | 3 => am_bin st (fun x y s => match Nat.ble (am_words s) 8 with
          | true => go (p + 3) ls (.int (if x < y then y else x) :: s) (I, J, R)
          | false => False)
        | 4 => am_bin st (fun x y s => match Nat.ble (am_words s) 8 with
          | true => go (p + 3) ls (.int (if y < x then y else x) :: s) (I, J, R)
          | false => False)
        | _ => am_un st (fun n s => am_un s (fun dp s => am_rf s (fun t s => am_un s (fun sp s => am_rf s (fun u s => match Nat.ble (am_words s) 8 with
          | true => ∃ nu nt i j m, h[u]? = some (15, nu) ∧ h[t]? = some (15, nt) ∧ i + m ≤ nu ∧ j + m ≤ nt ∧ sp = nI i ∧ dp = nI j ∧ n = nI m ∧ go (p + 3) ls s (I, am_row J t (va_cpy (J u) (J t) i j m), R)
          | false => False)))))
      | .ireturn => am_un st (fun x s => match s with
        | [] => match ret with
          | some .int => q (some (.int x)) (I, J, R)
          | some .boolean => (x = 0 ∨ x = 1) ∧ q (some (.int x)) (I, J, R)
          | some ty => narrow ty (.int x) = .int x ∧ q (some (.int x)) (I, J, R)
          | none => False
        | _ => False)
      | .lreturn => am_lun st (fun x s => match s with
        | [] => match ret with
          | some .long => q (some (.long x)) (I, J, R)
          | _ => False
        | _ => False)
      | .return_ => match st, ret with
        | [], none => q none (I, J, R)
        | _, _ => False
      | _ => False
