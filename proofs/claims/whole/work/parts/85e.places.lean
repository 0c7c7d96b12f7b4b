/-! every place of every constructor is as it must be (wip/gen/ctor.py) -/
def ac_call (fr lo a : Nat) : Bool := decide (am_kd a = 2) && decide ((parseMethodDescriptor (am_name a).desc).map (fun d => d.parameters.length) = some 0) && decide (am_ret a = none) && decide (am_fr a + 1 ≤ fr) && decide (8 + (am_max a + 11) + am_lo a ≤ lo)
def ac_aty : ArrayType → Nat
  | .byte => 12
  | .char => 13
  | .int => 14
  | .long => 15
  | .boolean => 16
  | _ => 0
def ac_ok (own : String) (fr lo : Nat) (e : am_E) (t : Nat × Nat) : Bool := match e with
  | (_, ins, len, a, d, k, _, _) => match ins with
    | .new i => decide (len = 3) && match am_cl[a]? with
      | some (C, _, _) => am_w t.1 t.2 (.classLink own i C)
      | none => false
    | .newarray ty => decide (len = 2) && decide (a = ac_aty ty) && decide (12 ≤ a)
    | .anewarray i => decide (len = 3) && ((decide (a = 17) && am_w t.1 t.2 (.classLink own i RX7)) || (decide (a = 18) && am_w t.1 t.2 (.classLink own i RX8)))
    | .multianewarray i dd => decide (len = 4) && decide (dd = 2) && am_w t.1 t.2 (.classLink own i ("[" ++ (FieldType.array .int).toString))
    | .invokespecial i => decide (len = 3) && match k with
      | 0 => am_w t.1 t.2 (.methodLink own i (am_name a)) && ac_call fr lo a
      | 1 => am_w t.1 t.2 (.methodLink own i Lib.objectInit) && decide (1 ≤ fr) && decide (20 ≤ lo)
      | _ => decide ((own, i, am_name a, "MeetingGroups") ∈ ac_nl) && ac_call fr lo a
    | .putfield i => match k with
      | 2 => decide (len = 3) && match am_cl[a]? with
        | some (_, T, N) => decide (d < N) && am_w t.1 t.2 (.fieldLink own i (T d).1 (T d).2.1 (T d).2.2.1) && decide (am_isR (am_ft a d) = true) && decide ((T d).2.2.2 = true → (T d).1 = own)
        | none => false
      | _ => am_ok own fr lo e t
    | _ => am_ok own fr lo e t
def ac_all (own : String) (cc : ByteArray) (fr lo : Nat) : List am_E → List (Nat × Nat) → Bool
  | [], _ => true
  | e :: r, [] => am_dec cc e && ac_ok own fr lo e (0, 0) && ac_all own cc fr lo r []
  | e :: r, t :: ts => am_dec cc e && ac_ok own fr lo e t && ac_all own cc fr lo r ts
theorem ac_k_Hi_init : ac_all (am_name 1).cls cX0_init (am_fr 1) (am_lo 1) am_c_Hi_init [(0, 0), (0, 91), (0, 0), (0, 0), (0, 95), (0, 0), (0, 0), (0, 92), (0, 97), (0, 0), (0, 0), (0, 0), (0, 0), (0, 0), (0, 0), (0, 97), (0, 0), (0, 92), (0, 0), (0, 94), (0, 0), (0, 0), (0, 0), (0, 0)] = true := by decide +kernel
theorem ac_k_Ho_init : ac_all (am_name 6).cls cX1_init (am_fr 6) (am_lo 6) am_c_Ho_init [(0, 0), (0, 155), (0, 0), (0, 0), (0, 156), (0, 0), (0, 0), (0, 0), (0, 158), (0, 0)] = true := by decide +kernel
theorem ac_k_Pa_init : ac_all (am_name 14).cls cX2_init (am_fr 14) (am_lo 14) am_c_Pa_init [(0, 0), (0, 196), (0, 0), (0, 0), (0, 0), (0, 197), (0, 198), (0, 0), (0, 0), (0, 0), (0, 199), (0, 0), (0, 0), (0, 0), (0, 200), (0, 0), (0, 0), (0, 201), (0, 0), (0, 0), (0, 202), (0, 0), (0, 0), (0, 203), (0, 0)] = true := by decide +kernel
theorem ac_k_Pl_init : ac_all (am_name 23).cls cX3_init (am_fr 23) (am_lo 23) am_c_Pl_init [(0, 0), (0, 39), (0, 0), (0, 0), (0, 42), (0, 0), (0, 0), (0, 0), (0, 44), (0, 0), (0, 0), (0, 0), (0, 40), (0, 45), (0, 0), (0, 0), (0, 0), (0, 40), (0, 46), (0, 0)] = true := by decide +kernel
theorem ac_k_Pr_init : ac_all (am_name 31).cls cX4_init (am_fr 31) (am_lo 31) am_c_Pr_init [(0, 0), (0, 171), (0, 0), (0, 172), (0, 0), (0, 173), (0, 174), (0, 0), (0, 0), (0, 0), (0, 175), (0, 0), (0, 0), (0, 0), (0, 176), (0, 0), (0, 0), (0, 177), (0, 0), (0, 0), (0, 178), (0, 0), (0, 0), (0, 0), (0, 0), (0, 0), (0, 0), (0, 0), (0, 0), (0, 0), (0, 0), (0, 0), (0, 0), (0, 0), (0, 0), (0, 0), (0, 0), (0, 0), (0, 175), (0, 0), (0, 0), (0, 0), (0, 0), (0, 0), (0, 175), (0, 0), (0, 0), (0, 0), (0, 0), (0, 0), (0, 0), (0, 0), (0, 0), (0, 0), (0, 0), (0, 0), (0, 0), (0, 0)] = true := by decide +kernel
theorem ac_k_Re_init : ac_all (am_name 41).cls cX5_init (am_fr 41) (am_lo 41) am_c_Re_init [(0, 0), (0, 108), (0, 0), (0, 0), (0, 124), (0, 0), (0, 0), (0, 126), (0, 0), (0, 0), (0, 0), (0, 128), (0, 0), (0, 109), (0, 0), (0, 111), (0, 130), (0, 0), (0, 0), (0, 0), (0, 132), (0, 0), (0, 0), (0, 133), (0, 0), (0, 0), (0, 134), (0, 0)] = true := by decide +kernel
theorem ac_k_Ro_init : ac_all (am_name 62).cls cX6_init (am_fr 62) (am_lo 62) am_c_Ro_init [(0, 0), (0, 223), (0, 0), (0, 0), (0, 0), (0, 224), (0, 0), (0, 0), (0, 226), (0, 0)] = true := by decide +kernel
theorem ac_k_Sh_init : ac_all (am_name 71).cls cX7_init (am_fr 71) (am_lo 71) am_c_Sh_init [(0, 0), (0, 238), (0, 0), (0, 0), (0, 239), (0, 0), (0, 0), (1, 1), (0, 0), (0, 0), (1, 3), (0, 0), (0, 0), (0, 0), (1, 5), (0, 0)] = true := by decide +kernel
theorem ac_k_St_init : ac_all (am_name 78).cls cX8_init (am_fr 78) (am_lo 78) am_c_St_init [(0, 0), (0, 33), (0, 0), (0, 0), (0, 57), (0, 0), (0, 0), (0, 62), (0, 0), (0, 0), (0, 0), (0, 67), (0, 0), (0, 0), (0, 71), (0, 0), (0, 34), (0, 0), (0, 36), (0, 73), (0, 0)] = true := by decide +kernel
theorem ac_k_Ta_init : ac_all (am_name 94).cls cX9_init (am_fr 94) (am_lo 94) am_c_Ta_init [(0, 0), (0, 114), (0, 0), (0, 0), (0, 115), (0, 0), (0, 0), (0, 0), (0, 117), (0, 0)] = true := by decide +kernel
theorem ac_k_MG_init : ac_all (am_name 97).cls cX10_init (am_fr 97) (am_lo 97) am_c_MG_init [(0, 0), (0, 25), (0, 0), (0, 28), (0, 0), (0, 30), (1, 17), (0, 0), (0, 86), (0, 0), (0, 88), (1, 18), (0, 0), (0, 28), (0, 0), (0, 30), (1, 19), (0, 0), (0, 86), (0, 0), (0, 88), (1, 20), (0, 0), (0, 0), (1, 21), (0, 0), (0, 103), (0, 0), (0, 105), (1, 22), (0, 0), (0, 150), (0, 0), (0, 152), (1, 23), (0, 0), (0, 166), (0, 0), (0, 168), (1, 24), (0, 0), (0, 191), (0, 0), (0, 193), (1, 25), (0, 0), (0, 218), (0, 0), (0, 220), (1, 26), (0, 0), (0, 0), (0, 232), (1, 27), (0, 0), (0, 0), (0, 0), (0, 0), (0, 0), (0, 0), (1, 27), (0, 0), (0, 232), (0, 0), (0, 235), (0, 0), (0, 0), (0, 0), (0, 0)] = true := by decide +kernel
theorem ac_k_MD_init : ac_all (am_name 132).cls cX11_init (am_fr 132) (am_lo 132) am_c_MD_init [(0, 0), (3, 144), (0, 0), (0, 0), (0, 0), (3, 145), (0, 0), (0, 0), (0, 0), (3, 148), (0, 0), (0, 0), (0, 0), (3, 149), (0, 0), (0, 0), (0, 0), (3, 150), (0, 0), (0, 0), (0, 0), (3, 151), (0, 0), (0, 0), (0, 0), (3, 152), (0, 0), (0, 0), (0, 0), (3, 153), (0, 0), (0, 0), (0, 0), (3, 154), (0, 0), (0, 0), (0, 0), (3, 155), (0, 0), (0, 0), (0, 0), (3, 160), (0, 0), (0, 0), (0, 0), (3, 162), (0, 0), (0, 0), (0, 0), (3, 163), (0, 0), (0, 0), (0, 0), (3, 165), (0, 0), (0, 0), (0, 0), (3, 166), (0, 0), (0, 0), (3, 167), (0, 0), (0, 0), (0, 0), (3, 168), (0, 0), (0, 0), (0, 0), (3, 169), (0, 0), (0, 0), (0, 0), (3, 170), (0, 0), (0, 0), (0, 0), (3, 171), (0, 0), (3, 145), (0, 0), (0, 0), (0, 0), (0, 0), (3, 145), (0, 0), (0, 0), (0, 0), (0, 0), (0, 0), (0, 0), (0, 0), (0, 0), (0, 0), (3, 168), (0, 0), (0, 0), (0, 0), (0, 0), (0, 0), (0, 0)] = true := by decide +kernel
