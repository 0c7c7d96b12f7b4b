/-! both constructors, executed; what stands then -/
def ac_o1 : Option ac_W := ac_go 12000 m_MG_init (am_code m_MG_init) 0 (am_fill [.ref 0] (am_max m_MG_init)) [] (1, [], [])
def ac_n2 (o : Option ac_W) : Option ac_W := match o with
  | some w => ac_go 3000 m_MD_init (am_code m_MD_init) 0 (am_fill [.ref 236] (am_max m_MD_init)) [] (237, w.2)
  | none => none
def ac_o2 : Option ac_W := ac_n2 ac_o1
def ac_f0 (j : Nat) : Nat := 17 + 14 * j
def ac_g0 (j : Nat) : Nat := 117 + 14 * j
def ac_e (u : List (Nat × Nat × Int32)) (i k : Nat) (x : Int32) : Bool := decide (ac_I u i k = x)
/-- the numbers at the start -/
def ac_finI (u : List (Nat × Nat × Int32)) : Bool := Nat.ble 1 (ac_I u 1 0).toNatClampNeg && Nat.ble (ac_I u 1 0).toNatClampNeg 7 && decide (ac_I u 1 0 = nI (ac_I u 1 0).toNatClampNeg) && decide (ac_I u 237 0 = ac_I u 1 0) && ac_e u 1 1 0 && ac_e u 237 1 0 && decide (ac_I u 1 3 = ac_I u 237 2) && decide (0 ≤ ac_I u 237 2) && ac_e u 3 0 0 && ac_e u 237 3 0 && ac_e u 15 0 0 && ac_e u 236 19 0 && ac_e u 0 4 0 && ac_e u 236 22 (-1) && ac_e u 203 0 0 && ac_e u 236 11 0 && (List.range 4).all (fun t => ac_e u (228 + 2 * t) 2 0 && ac_e u (228 + 2 * t) 0 0 && ac_e u 251 t (-1)) && (List.range 128).all (fun s => ac_e u 211 s (nI (th3 s)))
/-- where references point at the start -/
def ac_finR (z : List (Nat × Nat × Nat)) : Bool := (List.range 255).all (fun i => match am_sh[i]? with
  | some (k, n) => match Nat.blt k 12 with
    | true => (List.range (am_nf k)).all (fun j => decide (ac_R z i j = am_Rf ac_f0 ac_g0 i j))
    | false => match Nat.blt 16 k with
      | true => (List.range n).all (fun j => decide (ac_R z i j = am_Rf ac_f0 ac_g0 i j))
      | false => true
  | none => true)
def ac_c1 (o : Option ac_W) : Bool := match o with
  | some w => Nat.beq w.1 236 && ac_lo 236 [] [] w
  | none => false
def ac_c2 (o : Option ac_W) : Bool := match o with
  | some w => Nat.beq w.1 255 && (ac_finI w.2.1 && ac_finR w.2.2)
  | none => false
theorem ac_c1_of {o : Option ac_W} (h : ac_c1 o = true) : ∃ w, o = some w ∧ w.1 = 236 ∧ ac_lo 236 [] [] w = true := by
  cases o with
  | none => cases h
  | some w =>
    have h2 : (Nat.beq w.1 236 && ac_lo 236 [] [] w) = true := h
    rw [Bool.and_eq_true] at h2
    exact ⟨w, rfl, Nat.eq_of_beq_eq_true h2.1, h2.2⟩
theorem ac_c2_of {o : Option ac_W} (h : ac_c2 o = true) : ∃ w, o = some w ∧ w.1 = 255 ∧ ac_finI w.2.1 = true ∧ ac_finR w.2.2 = true := by
  cases o with
  | none => cases h
  | some w =>
    have h2 : (Nat.beq w.1 255 && (ac_finI w.2.1 && ac_finR w.2.2)) = true := h
    rw [Bool.and_eq_true, Bool.and_eq_true] at h2
    exact ⟨w, rfl, Nat.eq_of_beq_eq_true h2.1, h2.2.1, h2.2.2⟩
theorem ac_r1 : ac_c1 ac_o1 = true := by decide +kernel
theorem ac_r2 : ac_c2 ac_o2 = true := by decide +kernel
theorem ac_o1_eq {w : ac_W} (h : ac_o1 = some w) : ac_go 12000 m_MG_init (am_code m_MG_init) 0 (am_fill [.ref 0] (am_max m_MG_init)) [] (1, [], []) = some w := by
  unfold ac_o1 at h
  exact h
theorem ac_n2_eq {o : Option ac_W} {w w2 : ac_W} (h : o = some w) (h2 : ac_n2 o = some w2) : ac_go 3000 m_MD_init (am_code m_MD_init) 0 (am_fill [.ref 236] (am_max m_MD_init)) [] (237, w.2) = some w2 := by
  subst h
  exact h2
