/-! constructors, executed: n cells stand, what was written so far -/
abbrev ac_W : Type := Nat × List (Nat × Nat × Int32) × List (Nat × Nat × Nat)
def ac_I : List (Nat × Nat × Int32) → Nat → Nat → Int32
  | [] => fun _ _ => 0
  | (a, k, v) :: r => am_up (ac_I r) a k v
def ac_R : List (Nat × Nat × Nat) → Nat → Nat → Option Nat
  | [] => fun _ _ => none
  | (a, k, j) :: r => am_up (ac_R r) a k (some j)
def ac_sg (w : ac_W) : am_S := (ac_I w.2.1, fun _ _ => 0, ac_R w.2.2)
def ac_kn (n i : Nat) : Option (Nat × Nat) := match Nat.ble (i + 1) n with
  | true => am_sh[i]?
  | false => none
def ac_loS (n : Nat) : List Value → Bool
  | [] => true
  | .ref i :: r => Nat.ble (i + 1) n && ac_loS n r
  | _ :: r => ac_loS n r
def ac_loL (n : Nat) : am_L → Bool
  | [] => true
  | some (.ref i) :: r => Nat.ble (i + 1) n && ac_loL n r
  | _ :: r => ac_loL n r
def ac_loR (n : Nat) : List (Nat × Nat × Nat) → Bool
  | [] => true
  | (a, _, j) :: r => Nat.ble (a + 1) n && Nat.ble (j + 1) n && ac_loR n r
def ac_loI (n : Nat) : List (Nat × Nat × Int32) → Bool
  | [] => true
  | (a, _, _) :: r => Nat.ble (a + 1) n && ac_loI n r
/-- all that is written, and all that is at hand, is of cells that stand -/
def ac_lo (n : Nat) (ls : am_L) (st : List Value) (w : ac_W) : Bool := ac_loL n ls && ac_loS n st && ac_loR n w.2.2 && ac_loI n w.2.1
def ac_nlg : am_L → Bool
  | [] => true
  | some (.long _) :: _ => false
  | some (.double _) :: _ => false
  | _ :: r => ac_nlg r
def ac_go : Nat → Nat → List am_E → Nat → am_L → List Value → ac_W → Option ac_W
  | 0, _, _, _, _, _, _ => none
  | _ + 1, _, [], _, _, _, _ => none
  | f + 1, y, (p, ins, _, a, d, k, v, _) :: r, pc, ls, st, w => match Nat.beq p pc with
    | false => none
    | true => match ins, st with
      | .iconst _, st => ac_go f y r (p + 1) ls (v :: st) w
      | .bipush _, st => ac_go f y r (p + 2) ls (v :: st) w
      | .sipush _, st => ac_go f y r (p + 3) ls (v :: st) w
      | .aload_n i, st => match ls[i.1]? with
        | some (some (.ref x)) => ac_go f y r (p + 1) ls (.ref x :: st) w
        | _ => none
      | .iload_n i, st => match ls[i.1]? with
        | some (some (.int x)) => ac_go f y r (p + 1) ls (.int x :: st) w
        | _ => none
      | .iload i, st => match ls[i]? with
        | some (some (.int x)) => ac_go f y r (p + 2) ls (.int x :: st) w
        | _ => none
      | .istore_n i, .int x :: st => match ac_nlg ls && Nat.ble (i.1 + 1) ls.length with
        | true => ac_go f y r (p + 1) (ls.set i.1 (some (.int x))) st w
        | false => none
      | .istore i, .int x :: st => match ac_nlg ls && Nat.ble (i + 1) ls.length with
        | true => ac_go f y r (p + 2) (ls.set i (some (.int x))) st w
        | false => none
      | .iinc i _, st => match ls[i]?, v, ac_nlg ls with
        | some (some (.int x)), .int z, true => ac_go f y r (p + 3) (ls.set i (some (.int (x + z)))) st w
        | _, _, _ => none
      | .iadd, .int y2 :: .int x :: st => ac_go f y r (p + 1) ls (.int (x + y2) :: st) w
      | .imul, .int y2 :: .int x :: st => ac_go f y r (p + 1) ls (.int (x * y2) :: st) w
      | .ior, .int y2 :: .int x :: st => ac_go f y r (p + 1) ls (.int (x ||| y2) :: st) w
      | .ishl, .int y2 :: .int x :: st => ac_go f y r (p + 1) ls (.int (x <<< (y2 &&& 31)) :: st) w
      | .dup, .ref x :: st => ac_go f y r (p + 1) ls (.ref x :: .ref x :: st) w
      | .if_icmp .ge _, .int y2 :: .int x :: st => match decide (y2 ≤ x) with
        | true => ac_go f y (am_at (am_code y) a) a ls st w
        | false => ac_go f y r (p + 3) ls st w
      | .goto _, st => ac_go f y (am_at (am_code y) a) a ls st w
      | .getfield _, .ref i :: st => match ac_kn w.1 i, ac_R w.2.2 i d, Nat.beq k 2 with
        | some (c, 0), some j, true => match Nat.beq c a with
          | true => ac_go f y r (p + 3) ls (.ref j :: st) w
          | false => none
        | _, _, _ => none
      | .putfield _, .int x :: .ref i :: st => match ac_kn w.1 i, Nat.beq k 0 || (Nat.beq k 1 && (decide (x = 0) || decide (x = 1))) with
        | some (c, 0), true => match Nat.beq c a with
          | true => ac_go f y r (p + 3) ls st (w.1, (i, d, x) :: w.2.1, w.2.2)
          | false => none
        | _, _ => none
      | .putfield _, .ref o :: .ref i :: st => match ac_kn w.1 i with
        | some (c, 0) => match Nat.beq c a with
          | true => ac_go f y r (p + 3) ls st (w.1, w.2.1, (i, d, o) :: w.2.2)
          | false => none
        | _ => none
      | .iaload, .int i :: .ref t :: st => match ac_kn w.1 t with
        | some (14, n) => match decide (0 ≤ i) && Nat.ble (i.toNatClampNeg + 1) n && Nat.beq k 0 with
          | true => ac_go f y r (p + 1) ls (.int (ac_I w.2.1 t i.toNatClampNeg) :: st) w
          | false => none
        | _ => none
      | .iastore, .int x :: .int i :: .ref t :: st => match ac_kn w.1 t with
        | some (14, n) => match decide (0 ≤ i) && Nat.ble (i.toNatClampNeg + 1) n with
          | true => ac_go f y r (p + 1) ls st (w.1, (t, i.toNatClampNeg, x) :: w.2.1, w.2.2)
          | false => none
        | _ => none
      | .aastore, .ref o :: .int i :: .ref t :: st => match ac_kn w.1 t, ac_kn w.1 o with
        | some (b, n), some (c, 0) => match decide (0 ≤ i) && Nat.ble (i.toNatClampNeg + 1) n && Nat.beq b a && Nat.beq c d with
          | true => ac_go f y r (p + 1) ls st (w.1, w.2.1, (t, i.toNatClampNeg, o) :: w.2.2)
          | false => none
        | _, _ => none
      | .new _, st => match am_sh[w.1]?, ac_lo w.1 ls st w with
        | some (c, 0), true => match Nat.beq c a with
          | true => ac_go f y r (p + 3) ls (.ref w.1 :: st) (w.1 + 1, w.2)
          | false => none
        | _, _ => none
      | .newarray _, .int x :: st => match am_sh[w.1]?, ac_lo w.1 ls st w with
        | some (c, n), true => match Nat.beq c a && decide (x = nI n) with
          | true => ac_go f y r (p + 2) ls (.ref w.1 :: st) (w.1 + 1, w.2)
          | false => none
        | _, _ => none
      | .anewarray _, .int x :: st => match am_sh[w.1]?, ac_lo w.1 ls st w with
        | some (c, n), true => match Nat.beq c a && decide (x = nI n) with
          | true => ac_go f y r (p + 3) ls (.ref w.1 :: st) (w.1 + 1, w.2)
          | false => none
        | _, _ => none
      | .multianewarray _ _, .int y2 :: .int x :: st => match am_sh[w.1]?, am_sh[w.1 + 1]?, ac_lo w.1 ls st w with
        | some (19, n), some (14, kk), true => match decide (x = nI n) && decide (y2 = nI kk) && (List.range n).all (fun j => decide (am_sh[w.1 + 1 + j]? = some (14, kk))) with
          | true => ac_go f y r (p + 4) ls (.ref w.1 :: st) (w.1 + 1 + n, w.2.1, (List.range n).map (fun j => (w.1, j, w.1 + 1 + j)) ++ w.2.2)
          | false => none
        | _, _, _ => none
      | .invokespecial _, .ref i :: st => match Nat.beq k 1, Nat.ble (am_words st) 8 with
        | true, true => ac_go f y r (p + 3) ls st w
        | false, true => match ac_loL w.1 ls && ac_loS w.1 st with
          | true => match ac_go f a (am_code a) 0 (am_fill [.ref i] (am_max a)) [] w with
            | some w' => ac_go f y r (p + 3) ls st w'
            | none => none
          | false => none
        | _, _ => none
      | .return_, _ => some w
      | _, _ => none
theorem ac_try1 : (ac_go 200 m_Ta_init (am_code m_Ta_init) 0 (am_fill [.ref 203] (am_max m_Ta_init)) [] (204, [], [])).isSome = true := by decide +kernel
