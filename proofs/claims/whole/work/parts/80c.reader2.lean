/-! the class's Reader: groups told; names; majority, grid, plane -/
theorem has_iff {l : List Nat} {s : Nat} : l.contains s = true ↔ ∃ k : Nat, l[k]? = some s := by sorry
/-- the groups alone have changed -/
def Stl (I' I : Nat → Nat → Int32) : Prop := (∀ c, c ≠ 201 → c ≠ 202 → I' c = I c) ∧ ∀ k, k ≠ 1 → I' 201 k = I 201 k
theorem Stl.rf (I : Nat → Nat → Int32) : Stl I I := by sorry
theorem Stl.tr {I'' I' I : Nat → Nat → Int32} (h1 : Stl I'' I') (h2 : Stl I' I) : Stl I'' I := by sorry
theorem Stl.fr {I' I : Nat → Nat → Int32} (h : Stl I' I) : FrC I' I := by sorry
abbrev RdQ (f g : Nat → Nat) (I : Nat → Nat → Int32) (J : Nat → Nat → Int64) (r : Rs) : am_Q := fun x σ' => ∃ I', x = some (.int (b2i r.2.isSome)) ∧ σ' = (I', J, am_Rf f g) ∧ FrC I' I ∧ I' 201 6 = nI r.1 ∧ ∀ s l, r.2 = some (s, l) → I' 201 0 = nI s ∧ TL I' l
section RD
variable {f g : Nat → Nat} {I : Nat → Nat → Int32} {J : Nat → Nat → Int64} {u : Nat → Nat} {n : Nat}
theorem TL.get {l : List Nat} (h : TL I l) {k : Nat} (hk : k < l.length) : ∃ v, l[k]? = some v ∧ I 202 k = nI v ∧ v < 128 := by sorry
theorem lp_isTold {l : List Nat} {s : Nat} (h : TL I l) (hs : s < 128) : ∀ m k, m + k = l.length → (∀ j, j < k → ¬ l[j]? = some s) → am_u am_sh m_Re_isTold (Rt (.int (b2i (l.contains s))) (I, J, am_Rf f g)) (am_at am_c_Re_isTold 2) 2 [some (.ref 201), some (.int (nI s)), some (.int (nI k))] [] (I, J, am_Rf f g) := by sorry
theorem ev_isTold {l : List Nat} {s : Nat} (h : TL I l) (hs : s < 128) : am_ev am_sh m_Re_isTold [.ref 201, .int (nI s)] (I, J, am_Rf f g) (Rt (.int (b2i (l.contains s))) (I, J, am_Rf f g)) := by sorry
theorem ev_tell {l : List Nat} {s : Nat} {x : Int32} (h : TL I l) (hx : x = nI s) (hs : s < 128) : am_ev am_sh m_Re_tell [.ref 201, .int x] (I, J, am_Rf f g) (fun r σ' => r = none ∧ ∃ I', σ' = (I', J, am_Rf f g) ∧ TL I' (tel l s) ∧ Stl I' I) := by sorry
/-- all must be read, and is not -/
theorem fin_no {p : Nat} : fin u n (p, none) = (nx u n p, none) := by sorry
theorem fin_yes {p : Nat} {x : Nat × List Nat} (h : lu u n (nx u n p) = 0) : fin u n (p, some x) = (nx u n p, some x) := by sorry
theorem fin_not {p : Nat} {x : Nat × List Nat} (h : ¬ lu u n (nx u n p) = 0) : fin u n (p, some x) = (nx u n p, none) := by sorry
theorem fo_tel {F : Nat → List Nat → List Nat} {l : List Nat} (k : Nat) : fo F l (k + 1) = F k (fo F l k) := by sorry
theorem pow_tab : ∀ v, v < 6 → 2 ^ v ≤ 32 := by sorry
theorem lp_majority {v : Nat} (h1 : 1 ≤ v) (h6 : v < 6) {q : am_Q} (hq : ∀ I' : Nat → Nat → Int32, TL I' (majL v) → Stl I' I → q (some (.int 1)) (I', J, am_Rf f g)) (hn : I 201 0 = nI v) : ∀ m k (I' : Nat → Nat → Int32), m + k = 2 ^ v → TL I' (fo (fun s l => if pc7 s = v / 2 + 1 then tel l s else l) [] k) → Stl I' I → am_u am_sh m_Re_majority q (am_at am_c_Re_majority 27) 27 [some (.ref 201), some (.int (nI k))] [] (I', J, am_Rf f g) := by sorry
theorem TL.up0 {l : List Nat} {x : Int32} (h : TL I l) : TL (am_up I 201 0 x) l := by sorry
theorem FrC.up0 {I' : Nat → Nat → Int32} {k : Nat} {x : Int32} (h : FrC I' I) : FrC (am_up I' 201 k x) I := by sorry
theorem ev_majority {p : Nat} (h : CT I u n) (hp : I 201 6 = nI p) (hn : p ≤ n) (hT : TL I []) : am_ev am_sh m_Re_majority [.ref 201] (I, J, am_Rf f g) (RdQ f g I J (fin u n (qMaj u n p))) := by sorry
end RD
