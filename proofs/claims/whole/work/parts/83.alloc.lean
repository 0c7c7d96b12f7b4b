/-! cells are made in the order of am_sh: n of them stand, the next one lies at H.size -/
theorem ac_take {n : Nat} {x : Nat × Nat} (h : am_sh[n]? = some x) : am_sh.take (n + 1) = am_sh.take n ++ [x] := by
  first
  | (rw [List.take_add_one, h]; rfl)
  | (rw [List.take_succ, h]; rfl)
  | simp [List.take_succ, h]
theorem ac_lt {n : Nat} {x : Nat × Nat} (h : am_sh[n]? = some x) : n < am_sh.length := (List.getElem?_eq_some_iff.mp h).1
theorem ac_ws {cy : Nat → ClassId} {α : Nat → Nat} {σ : am_S} {n : Nat} {x : Nat × Nat} (h : am_sh[n]? = some x) : am_ws cy α (am_sh.take (n + 1)) σ = am_ws cy α (am_sh.take n) σ ++ [(α n, am_cell cy α σ n x)] := by
  have hl : (am_sh.take n).length = n := by
    have := ac_lt h
    simp
    omega
  rw [ac_take h]
  unfold am_ws
  first
  | (rw [List.mapIdx_append]; simp [hl])
  | simp [hl]
theorem ac_nn {N : Nat} (h : N < 2 ^ 31) : ¬ nI N < 0 := by
  rw [Int32.lt_iff_toInt_lt, nI_toInt h]
  have : (0 : Int32).toInt = 0 := rfl
  omega
theorem ac_grow {D : va_G} {cy : Nat → ClassId} {α adV : Nat → Nat} {B0 n : Nat} {σ : am_S} {s : State} {H H1 : Heap} {x : Nat × Nat} (hx : am_sh[n]? = some x) (hα : α n = H.size) (hB : B0 ≤ H.size) (hh : am_hr D cy α adV B0 (am_sh.take n) σ s H) (o1 : ∀ q : Nat, q < H.size → H1[q]? = H[q]?) (hnew : va_at D am_cl (H.size, am_cell cy α σ n x) H1) : am_hr D cy α adV B0 (am_sh.take (n + 1)) σ s H1 := by
  obtain ⟨hP, hD, hst⟩ := hh
  have hk : ∀ (k : Nat) (x : Nat × va_E), (am_ws cy α (am_sh.take n) σ)[k]? = some x → H1[x.1]? = H[x.1]? := fun k x hx => o1 x.1 ((hP k x hx).lt)
  refine ⟨?_, ?_, hst.kept fun a ha _ => o1 a ha⟩
  · rw [ac_ws hx]
    refine (hP.kept hk).app (fun k q hq => ?_)
    have h1 : k < 1 := (List.getElem?_eq_some_iff.mp hq).1
    rw [show k = 0 by omega] at hq
    cases hq
    rw [hα]
    exact hnew
  · rw [ac_ws hx]
    exact hD.push hP hα (by show B0 ≤ α n; omega)
theorem ac_S {B0 : Nat} {H0 H H1 : Heap} {locs : List Loc} (hS : va_S (am_A B0) H0 H locs) (z : H.size ≤ H1.size) (o1 : ∀ q : Nat, q < H.size → H1[q]? = H[q]?) : va_S (am_A B0) H0 H1 locs := ⟨Nat.le_trans hS.1 z, fun x h1 h2 => (o1 x (Nat.lt_of_lt_of_le h1 hS.1)).trans (hS.2.1 x h1 h2), hS.2.2⟩
section ACR
variable {p : Program} {l : Launch} {e : Env} {R : Room} {s : State} {m : MethodId} {args : Array Value} {below : List Frame} {meth : Method} {c : Code} {cells slots : Nat} {Q : State → Prop}
variable {D : va_G} {cy : Nat → ClassId} {α adV : Nat → Nat} {B0 n : Nat} {σ : am_S} {own : String} {cc : ByteArray} {pc : Nat} {H : Heap} {locs : List Loc} {rl : Array Slot} {rest : List Value}
theorem ac_newa {atype : ArrayType} {k N : Nat} {x : Int32} {a0 : vp_A} (hexec : p.tables.exec = Jvm.exec) (hb : c.code = cc) (hts : ∀ w ∈ am_TS, w.before args s = true) (harr : Cond.arrayClass (newarray.typeOf atype) ∈ am_TS) (ht : (am_tys cy)[k - 12]? = some (cy k, newarray.typeOf atype)) (hsh : am_sh[n]? = some (k, N)) (hα : α n = H.size) (hc : am_cell cy α σ n (k, N) = .inl (cy k, a0)) (hv : vp_cell (cy k) a0 = arrV (cy k) N (fun _ => defaultValue (newarray.typeOf atype))) (hxN : x = nI N) (hN : N < 2 ^ 31) (hbytes : N * componentBytes (newarray.typeOf atype) ≤ 536870912) (hcells : cells + 1 ≤ R.cells) (hslots : slots + N ≤ R.slots) (hdg : decode cc pc = .ok (.newarray atype, 2)) (hkk : am_kk D cy α s) (hh : am_hr D cy α adV B0 (am_sh.take n) σ s H) (hB : B0 ≤ s.heap.size) (hS : va_S (am_A B0) s.heap H locs)
    (kk : ∀ H1 : Heap, am_hr D cy α adV B0 (am_sh.take (n + 1)) σ s H1 → va_S (am_A B0) s.heap H1 locs → W p l e R s m args below meth c H1 locs (cells + 1) (slots + N) Q (F0 m (pc + 2) rl (.ref (α n) :: rest))) : W p l e R s m args below meth c H locs cells slots Q (F0 m pc rl (.int x :: rest)) := by
  subst hxN
  refine va_newaK hexec hb (hts _ harr) rfl hdg rfl (ac_nn hN) (nI_clamp hN) hbytes hcells hslots rfl fun H1 cA e1 z1 o1 _ hNm => ?_
  have hcA : cA = cy k := by
    have h2 := (hkk.1.2 _ _ ht).2
    have h3 : s.vm.findClass ("[" ++ (newarray.typeOf atype).toString) = some (cy k) := by
      cases atype <;> exact h2
    exact Option.some.inj (hNm.symm.trans h3)
  subst hcA
  have hg := ac_grow hsh hα (Nat.le_trans hB hS.1) hh o1 (by
    rw [hc]
    show H1[H.size]? = some (vp_cell _ _)
    rw [hv]
    exact e1)
  have hk2 := kk H1 hg (ac_S hS (by omega) o1)
  rw [hα] at hk2
  exact hk2
theorem ac_new {C : String} {T : u_T} {N ci index : Nat} (hexec : p.tables.exec = Jvm.exec) (hb : c.code = cc) (hts : ∀ w ∈ am_TS, w.before args s = true) (hown : s.vm.findClass own = some m.cls) (hcl : am_cl[ci]? = some (C, T, N)) (hlk : Cond.classLink own index C ∈ am_TS) (hinst : Cond.instantiable C N ∈ am_TS) (hini : Cond.initialized C ∈ am_TS) (hsh : am_sh[n]? = some (ci, 0)) (hα : α n = H.size) (hI : ∀ j, σ.1 n j = 0) (hR : ∀ j, σ.2.2 n j = none) (hdv : ∀ j, j < N → defaultValue (am_ft ci j) = if am_isR (am_ft ci j) = true then .null else .int 0) (hcells : cells + 1 ≤ R.cells) (hslots : slots + N ≤ R.slots) (hdg : decode cc pc = .ok (.new index, 3)) (hkk : am_kk D cy α s) (hh : am_hr D cy α adV B0 (am_sh.take n) σ s H) (hB : B0 ≤ s.heap.size) (hS : va_S (am_A B0) s.heap H locs)
    (kk : ∀ H1 : Heap, am_hr D cy α adV B0 (am_sh.take (n + 1)) σ s H1 → va_S (am_A B0) s.heap H1 locs → W p l e R s m args below meth c H1 locs (cells + 1) (slots + N) Q (F0 m (pc + 3) rl (.ref (α n) :: rest))) : W p l e R s m args below meth c H locs cells slots Q (F0 m pc rl rest) := by
  have hKn := hkk.1.1 ci _ hcl
  obtain ⟨g1, g2, g3, -⟩ := am_ft_ok hcl
  refine W.newcK hexec hb hown (hts _ hlk) (hts _ hinst) (hts _ hini) rfl hdg hcells hslots hKn.2.1 rfl fun H1 kC hkC e1 z1 o1 => ?_
  have hg := ac_grow hsh hα (Nat.le_trans hB hS.1) hh o1 (by
    rw [am_cell_O g1]
    refine ⟨_, hcl, (u_born (am_ft ci) hts (am_cls hcl) hKn hkC e1 g3).to (fun j hj => ?_)⟩
    rw [hdv j hj]
    have h1 : ((List.range (am_nf ci)).map (am_fv α σ n ci))[j]? = some (am_fv α σ n ci j) := am_fs_at (by rw [g2]; exact hj)
    show _ = vp_V _ j
    unfold vp_V
    rw [List.getD_eq_getElem?_getD, h1]
    show _ = am_fv α σ n ci j
    unfold am_fv
    rw [hI, hR]
    split <;> rfl)
  have hk2 := kk H1 hg (ac_S hS (by omega) o1)
  rw [hα] at hk2
  exact hk2
theorem ac_anew {C : String} {k N index : Nat} {x : Int32} (hexec : p.tables.exec = Jvm.exec) (hb : c.code = cc) (hts : ∀ w ∈ am_TS, w.before args s = true) (hown : s.vm.findClass own = some m.cls) (hlk : Cond.classLink own index C ∈ am_TS) (hover : (Cond.arrayOver (.object C)).before args s = true) (hk : 17 ≤ k) (ht : (am_tys cy)[k - 12]? = some (cy k, .object C)) (hsh : am_sh[n]? = some (k, N)) (hα : α n = H.size) (hR : ∀ j, σ.2.2 n j = none) (hxN : x = nI N) (hN : N * 4 ≤ 536870912) (hcells : cells + 1 ≤ R.cells) (hslots : slots + N ≤ R.slots) (hdg : decode cc pc = .ok (.anewarray index, 3)) (hkk : am_kk D cy α s) (hh : am_hr D cy α adV B0 (am_sh.take n) σ s H) (hB : B0 ≤ s.heap.size) (hS : va_S (am_A B0) s.heap H locs)
    (kk : ∀ H1 : Heap, am_hr D cy α adV B0 (am_sh.take (n + 1)) σ s H1 → va_S (am_A B0) s.heap H1 locs → W p l e R s m args below meth c H1 locs (cells + 1) (slots + N) Q (F0 m (pc + 3) rl (.ref (α n) :: rest))) : W p l e R s m args below meth c H locs cells slots Q (F0 m pc rl (.int x :: rest)) := by
  subst hxN
  have hcl : (nI N).toNatClampNeg = N := nI_clamp (by omega)
  refine W.anew hexec hb hown (hts _ hlk) hover rfl hdg rfl (ac_nn (by omega)) (by rw [hcl]; exact hN) hcells (by rw [hcl]; exact hslots) fun cA kA comp h1 h2 h3 h4 => ?_
  rw [hcl]
  have hcA : cA = cy k := by
    obtain ⟨kA2, comp2, -, -, -, h5⟩ := (hkk.1.2 _ _ ht).2
    exact Option.some.inj (h1.symm.trans h5)
  subst hcA
  have o1 : ∀ q : Nat, q < H.size → (H.push { cls := cy k, slots := Array.replicate N Value.null, vm := .none })[q]? = H[q]? := fun q hq => by
    rw [Array.getElem?_push, if_neg (Nat.ne_of_lt hq)]
  have hg := ac_grow hsh hα (Nat.le_trans hB hS.1) hh o1 (by
    have hc : am_cell cy α σ n (k, N) = .inl (cy k, N, .inr (.inr (.inr (.inr (fun j => (σ.2.2 n j).map α))))) := by
      unfold am_cell
      simp only
      rw [if_neg (by omega), if_neg (by omega), if_pos hk]
    rw [hc]
    show (H.push _)[H.size]? = some (vp_cell _ _)
    have hf : (fun j => (σ.2.2 n j).map α) = (fun _ => (none : Option Nat)) := by
      funext j
      rw [hR]
      rfl
    rw [hf, arrV_new]
    simp
    rfl)
  have hk2 := kk _ hg (ac_S hS (by rw [Array.size_push]; omega) o1)
  rw [hα] at hk2
  exact hk2
end ACR
