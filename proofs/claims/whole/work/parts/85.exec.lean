/-! constructors, executed: n cells stand, what was written so far -/
abbrev ac_W : Type := Nat × List (Nat × Nat × Int32) × List (Nat × Nat × Nat)
def ac_I : List (Nat × Nat × Int32) → Nat → Nat → Int32
  | [] => fun _ _ => 0
  | (a, k, v) :: r => am_up (ac_I r) a k v
def ac_R : List (Nat × Nat × Nat) → Nat → Nat → Option Nat
  | [] => fun _ _ => none
  | (a, k, j) :: r => am_up (ac_R r) a k (some j)
def ac_sg (w : ac_W) : am_S := (ac_I w.2.1, fun _ _ => 0, ac_R w.2.2)
def ac_kn (n i : Nat) : Option (Nat × Nat) := match Nat.ble (i + 1) n with
  | true => am_sh[i]?
  | false => none
def ac_loS (n : Nat) : List Value → Bool
  | [] => true
  | .ref i :: r => Nat.ble (i + 1) n && ac_loS n r
  | _ :: r => ac_loS n r
def ac_loL (n : Nat) : am_L → Bool
  | [] => true
  | some (.ref i) :: r => Nat.ble (i + 1) n && ac_loL n r
  | _ :: r => ac_loL n r
def ac_loR (n : Nat) : List (Nat × Nat × Nat) → Bool
  | [] => true
  | (a, _, j) :: r => Nat.ble (a + 1) n && Nat.ble (j + 1) n && ac_loR n r
def ac_loI (n : Nat) : List (Nat × Nat × Int32) → Bool
  | [] => true
  | (a, _, _) :: r => Nat.ble (a + 1) n && ac_loI n r
/-- all that is written, and all that is at hand, is of cells that stand -/
def ac_lo (n : Nat) (ls : am_L) (st : List Value) (w : ac_W) : Bool := ac_loL n ls && ac_loS n st && ac_loR n w.2.2 && ac_loI n w.2.1
def ac_nlg : am_L → Bool
  | [] => true
  | some (.long _) :: _ => false
  | some (.double _) :: _ => false
  | _ :: r => ac_nlg r
def ac_rows (n : Nat) : Nat → List (Nat × Nat × Nat) → List (Nat × Nat × Nat)
  | 0, u => u
  | m + 1, u => (n, m, n + 1 + m) :: ac_rows n m u
def ac_isC (a : Nat) : Bool := ([1, 6, 14, 23, 31, 41, 62, 71, 78, 94, 97, 132] : List Nat).any (fun c => Nat.beq c a)
abbrev ac_GO : Type := Nat → List am_E → Nat → am_L → List Value → ac_W → Option ac_W
def ac_si (st : List Value) (K : Int32 → List Value → Option ac_W) : Option ac_W := match st with
  | .int x :: s => K x s
  | _ => none
def ac_sr (st : List Value) (K : Nat → List Value → Option ac_W) : Option ac_W := match st with
  | .ref x :: s => K x s
  | _ => none
def ac_li (o : Option (Option Value)) (K : Int32 → Option ac_W) : Option ac_W := match o with
  | some (some (.int x)) => K x
  | _ => none
def ac_lr (o : Option (Option Value)) (K : Nat → Option ac_W) : Option ac_W := match o with
  | some (some (.ref x)) => K x
  | _ => none
def ac_vi (v : Value) (K : Int32 → Option ac_W) : Option ac_W := match v with
  | .int x => K x
  | _ => none
def ac_op {β : Type} (o : Option β) (K : β → Option ac_W) : Option ac_W := match o with
  | some x => K x
  | none => none
def ac_if (b : Bool) (x : Option ac_W) : Option ac_W := match b with
  | true => x
  | false => none
def ac_one (go : ac_GO) (y : Nat) (e : am_E) (r : List am_E) (pc : Nat) (ls : am_L) (st : List Value) (w : ac_W) : Option ac_W := match e with
  | (p, ins, _, a, d, k, v, _) => ac_if (Nat.beq p pc) (match ins with
      | .iconst _ => go y r (p + 1) ls (v :: st) w
      | .bipush _ => go y r (p + 2) ls (v :: st) w
      | .sipush _ => go y r (p + 3) ls (v :: st) w
      | .aload_n i => ac_lr ls[i.1]? (fun x => go y r (p + 1) ls (.ref x :: st) w)
      | .iload_n i => ac_li ls[i.1]? (fun x => go y r (p + 1) ls (.int x :: st) w)
      | .iload i => ac_li ls[i]? (fun x => go y r (p + 2) ls (.int x :: st) w)
      | .istore_n i => ac_si st (fun x s => ac_if (ac_nlg ls && Nat.ble (i.1 + 1) ls.length) (go y r (p + 1) (ls.set i.1 (some (.int x))) s w))
      | .istore i => ac_si st (fun x s => ac_if (ac_nlg ls && Nat.ble (i + 1) ls.length) (go y r (p + 2) (ls.set i (some (.int x))) s w))
      | .iinc i _ => ac_li ls[i]? (fun x => ac_vi v (fun z => ac_if (ac_nlg ls && Nat.ble (i + 1) ls.length) (go y r (p + 3) (ls.set i (some (.int (x + z)))) st w)))
      | .iadd => ac_si st (fun y2 s => ac_si s (fun x s => go y r (p + 1) ls (.int (x + y2) :: s) w))
      | .imul => ac_si st (fun y2 s => ac_si s (fun x s => go y r (p + 1) ls (.int (x * y2) :: s) w))
      | .ior => ac_si st (fun y2 s => ac_si s (fun x s => go y r (p + 1) ls (.int (x ||| y2) :: s) w))
      | .ishl => ac_si st (fun y2 s => ac_si s (fun x s => go y r (p + 1) ls (.int (x <<< (y2 &&& 31)) :: s) w))
      | .dup => ac_sr st (fun x s => go y r (p + 1) ls (.ref x :: .ref x :: s) w)
      | .if_icmp c _ => match c with
        | .ge => ac_si st (fun y2 s => ac_si s (fun x s => match decide (y2 ≤ x) with
          | true => go y (am_at (am_code y) a) a ls s w
          | false => go y r (p + 3) ls s w))
        | _ => none
      | .goto _ => go y (am_at (am_code y) a) a ls st w
      | .getfield _ => ac_sr st (fun i s => ac_if (decide (ac_kn w.1 i = some (a, 0)) && Nat.beq k 2) (ac_op (ac_R w.2.2 i d) (fun j => go y r (p + 3) ls (.ref j :: s) w)))
      | .putfield _ => match st with
        | .int x :: s => ac_sr s (fun i s => ac_if (decide (ac_kn w.1 i = some (a, 0)) && (Nat.beq k 0 || (Nat.beq k 1 && (decide (x = 0) || decide (x = 1))))) (go y r (p + 3) ls s (w.1, (i, d, x) :: w.2.1, w.2.2)))
        | .ref o :: s => ac_sr s (fun i s => ac_if (decide (ac_kn w.1 i = some (a, 0)) && Nat.beq k 2) (go y r (p + 3) ls s (w.1, w.2.1, (i, d, o) :: w.2.2)))
        | _ => none
      | .iaload => ac_si st (fun i s => ac_sr s (fun t s => ac_op (ac_kn w.1 t) (fun c => ac_if (Nat.beq c.1 14 && decide (i = nI i.toNatClampNeg) && Nat.ble (i.toNatClampNeg + 1) c.2 && Nat.beq k 0) (go y r (p + 1) ls (.int (ac_I w.2.1 t i.toNatClampNeg) :: s) w))))
      | .iastore => ac_si st (fun x s => ac_si s (fun i s => ac_sr s (fun t s => ac_op (ac_kn w.1 t) (fun c => ac_if (Nat.beq c.1 14 && decide (i = nI i.toNatClampNeg) && Nat.ble (i.toNatClampNeg + 1) c.2) (go y r (p + 1) ls s (w.1, (t, i.toNatClampNeg, x) :: w.2.1, w.2.2))))))
      | .aastore => ac_sr st (fun o s => ac_si s (fun i s => ac_sr s (fun t s => ac_op (ac_kn w.1 t) (fun c => ac_if (Nat.beq c.1 a && decide (i = nI i.toNatClampNeg) && Nat.ble (i.toNatClampNeg + 1) c.2 && decide (ac_kn w.1 o = some (d, 0))) (go y r (p + 1) ls s (w.1, w.2.1, (t, i.toNatClampNeg, o) :: w.2.2))))))
      | .new _ => ac_if (decide (am_sh[w.1]? = some (a, 0)) && ac_lo w.1 ls st w) (go y r (p + 3) ls (.ref w.1 :: st) (w.1 + 1, w.2))
      | .newarray _ => ac_si st (fun x s => ac_op am_sh[w.1]? (fun c => ac_if (Nat.beq c.1 a && decide (x = nI c.2) && ac_lo w.1 ls s w) (go y r (p + 2) ls (.ref w.1 :: s) (w.1 + 1, w.2))))
      | .anewarray _ => ac_si st (fun x s => ac_op am_sh[w.1]? (fun c => ac_if (Nat.beq c.1 a && decide (x = nI c.2) && ac_lo w.1 ls s w) (go y r (p + 3) ls (.ref w.1 :: s) (w.1 + 1, w.2))))
      | .multianewarray _ _ => ac_si st (fun y2 s => ac_si s (fun x s => ac_op am_sh[w.1]? (fun c => ac_op am_sh[w.1 + 1]? (fun b => ac_if (Nat.beq c.1 19 && decide (x = nI c.2) && decide (y2 = nI b.2) && ac_lo w.1 ls s w && (List.range c.2).all (fun j => decide (am_sh[w.1 + 1 + j]? = some (14, b.2)))) (go y r (p + 4) ls (.ref w.1 :: s) (w.1 + 1 + c.2, w.2.1, ac_rows w.1 c.2 w.2.2))))))
      | .invokespecial _ => ac_sr st (fun i s => ac_if (Nat.ble (am_words s) 8) (match Nat.beq k 1 with
        | true => go y r (p + 3) ls s w
        | false => ac_if (ac_loL w.1 ls && ac_loS w.1 s && ac_isC a) (ac_op (go a (am_code a) 0 (am_fill [.ref i] (am_max a)) [] w) (fun w' => go y r (p + 3) ls s w'))))
      | .return_ => match st with
        | [] => some w
        | _ => none
      | _ => none)
def ac_go : Nat → ac_GO
  | 0 => fun _ _ _ _ _ _ => none
  | f + 1 => fun y cd pc ls st w => match cd with
    | [] => none
    | e :: r => ac_one (ac_go f) y e r pc ls st w
theorem ac_try1 : (ac_go 200 m_Ta_init (am_code m_Ta_init) 0 (am_fill [.ref 203] (am_max m_Ta_init)) [] (204, [], [])).isSome = true := by decide +kernel
