/-! both constructors, executed; what stands then -/
theorem ac_optd {o : Option ac_W} {d : ac_W} (h : o.isSome = true) : o = some (o.getD d) := by
  cases o with
  | none => cases h
  | some x => rfl
def ac_o1 : Option ac_W := ac_go 12000 m_MG_init (am_code m_MG_init) 0 (am_fill [.ref 0] (am_max m_MG_init)) [] (1, [], [])
def ac_w1 : ac_W := ac_o1.getD (0, [], [])
def ac_o2 : Option ac_W := ac_go 3000 m_MD_init (am_code m_MD_init) 0 (am_fill [.ref 236] (am_max m_MD_init)) [] (237, ac_w1.2)
def ac_w2 : ac_W := ac_o2.getD (0, [], [])
def ac_f0 (j : Nat) : Nat := 17 + 14 * j
def ac_g0 (j : Nat) : Nat := 117 + 14 * j
def ac_e (u : List (Nat × Nat × Int32)) (i k : Nat) (x : Int32) : Bool := decide (ac_I u i k = x)
/-- the numbers at the start -/
def ac_finI (u : List (Nat × Nat × Int32)) : Bool := Nat.ble 1 (ac_I u 1 0).toNatClampNeg && Nat.ble (ac_I u 1 0).toNatClampNeg 7 && decide (ac_I u 1 0 = nI (ac_I u 1 0).toNatClampNeg) && decide (ac_I u 237 0 = ac_I u 1 0) && ac_e u 1 1 0 && ac_e u 237 1 0 && decide (ac_I u 1 3 = ac_I u 237 2) && decide (0 ≤ ac_I u 237 2) && ac_e u 3 0 0 && ac_e u 237 3 0 && ac_e u 15 0 0 && ac_e u 236 19 0 && ac_e u 0 4 0 && ac_e u 236 22 (-1) && ac_e u 203 0 0 && ac_e u 236 11 0 && (List.range 4).all (fun t => ac_e u (228 + 2 * t) 2 0 && ac_e u (228 + 2 * t) 0 0 && ac_e u 251 t (-1)) && (List.range 128).all (fun s => ac_e u 211 s (nI (th3 s)))
/-- where references point at the start -/
def ac_finR (z : List (Nat × Nat × Nat)) : Bool := (List.range 255).all (fun i => match am_sh[i]? with
  | some (k, n) => match Nat.blt k 12 with
    | true => (List.range (am_nf k)).all (fun j => decide (ac_R z i j = am_Rf ac_f0 ac_g0 i j))
    | false => match Nat.blt 16 k with
      | true => (List.range n).all (fun j => decide (ac_R z i j = am_Rf ac_f0 ac_g0 i j))
      | false => true
  | none => true)
theorem ac_r1 : (ac_o1.isSome && (Nat.beq ac_w1.1 236 && ac_lo 236 [] [] ac_w1)) = true := by decide +kernel
theorem ac_r2 : (ac_o2.isSome && (Nat.beq ac_w2.1 255 && (ac_finI ac_w2.2.1 && ac_finR ac_w2.2.2))) = true := by decide +kernel
