/-! texts: what a tape tells (letters as numbers; 0 behind the last) -/
def lu (u : Nat → Nat) (n p : Nat) : Nat := if p < n then u p else 0
def nxf (u : Nat → Nat) (n : Nat) : Nat → Nat → Nat
  | 0, p => p
  | k + 1, p => if lu u n p = 32 then nxf u n k (p + 1) else p
/-- behind blanks -/
def nx (u : Nat → Nat) (n p : Nat) : Nat := nxf u n (n - p) p
def lnf (u : Nat → Nat) (n : Nat) : Nat → Nat → Nat
  | 0, p => p
  | k + 1, p => if 97 ≤ lu u n p ∧ lu u n p ≤ 122 then lnf u n k (p + 1) else p
/-- behind a name -/
def ln (u : Nat → Nat) (n p : Nat) : Nat := lnf u n (n - p) p
section TX
variable {u : Nat → Nat} {n : Nat}
theorem lu_n : lu u n n = 0 := if_neg (by omega)
theorem lu_ge {p : Nat} (h : n ≤ p) : lu u n p = 0 := if_neg (by omega)
theorem lu_lt {p : Nat} (h : p < n) : lu u n p = u p := if_pos h
theorem lu_pos {p : Nat} (h : ¬ lu u n p = 0) : p < n := by
  rcases Nat.lt_or_ge p n with q | q
  · exact q
  · exact absurd (lu_ge q) h
theorem nx_yes {p : Nat} (h : lu u n p = 32) : nx u n p = nx u n (p + 1) := by
  have hp := lu_pos (u := u) (n := n) (p := p) (by omega)
  unfold nx
  rw [show n - p = n - (p + 1) + 1 by omega]
  show (if _ then _ else _) = _
  rw [if_pos h]
theorem nx_no {p : Nat} (h : ¬ lu u n p = 32) : nx u n p = p := by
  unfold nx
  cases n - p with
  | zero => rfl
  | succ k => unfold nxf; rw [if_neg h]
theorem nx_prop : ∀ (k p : Nat), k + p = n → nx u n p ≤ n ∧ p ≤ nx u n p ∧ ¬ lu u n (nx u n p) = 32 := by
  intro k
  induction k with
  | zero =>
    intro p hp
    obtain rfl : p = n := by omega
    have h : ¬ lu u p p = 32 := by rw [lu_n]; decide
    rw [nx_no h]
    exact ⟨Nat.le_refl _, Nat.le_refl _, h⟩
  | succ k ih =>
    intro p hp
    by_cases h : lu u n p = 32
    · rw [nx_yes h]
      have := ih (p + 1) (by omega)
      exact ⟨this.1, by omega, this.2.2⟩
    · rw [nx_no h]
      exact ⟨by omega, Nat.le_refl _, h⟩
theorem nx_le {p : Nat} (h : p ≤ n) : nx u n p ≤ n := (nx_prop (n - p) p (by omega)).1
theorem nx_nb {p : Nat} (h : p ≤ n) : ¬ lu u n (nx u n p) = 32 := (nx_prop (n - p) p (by omega)).2.2
theorem nx_nx {p : Nat} (h : p ≤ n) : nx u n (nx u n p) = nx u n p := nx_no (nx_nb h)
theorem ln_yes {p : Nat} (h : 97 ≤ lu u n p ∧ lu u n p ≤ 122) : ln u n p = ln u n (p + 1) := by
  have hp := lu_pos (u := u) (n := n) (p := p) (by omega)
  unfold ln
  rw [show n - p = n - (p + 1) + 1 by omega]
  show (if _ then _ else _) = _
  rw [if_pos h]
theorem ln_no {p : Nat} (h : ¬ (97 ≤ lu u n p ∧ lu u n p ≤ 122)) : ln u n p = p := by
  unfold ln
  cases n - p with
  | zero => rfl
  | succ k => unfold lnf; rw [if_neg h]
theorem ln_le : ∀ (k p : Nat), k + p = n → ln u n p ≤ n ∧ p ≤ ln u n p := by
  intro k
  induction k with
  | zero =>
    intro p hp
    rw [ln_no (by rw [lu_ge (by omega)]; omega)]
    omega
  | succ k ih =>
    intro p hp
    by_cases h : 97 ≤ lu u n p ∧ lu u n p ≤ 122
    · rw [ln_yes h]
      have := ih (p + 1) (by omega)
      omega
    · rw [ln_no h]
      omega
end TX
/-- a figure 1 .. most -/
def fig (u : Nat → Nat) (n most p : Nat) : Option Nat := if 49 ≤ lu u n (nx u n p) ∧ lu u n (nx u n p) ≤ 48 + most then some (lu u n (nx u n p) - 48) else none
/-- a group more, if it isn't there and there is room -/
def tel (l : List Nat) (s : Nat) : List Nat := if l.length < 12 ∧ ¬ l.contains s = true then l ++ [s] else l
/-- a group more, or too many -/
def gtt (a : List Nat × Bool) (s : Nat) : List Nat × Bool := if a.2 = true ∨ a.1.length = 12 then (a.1, true) else (a.1 ++ [s], false)
abbrev Rs : Type := Nat × Option (Nat × List Nat)
/-- all must be read -/
def fin (u : Nat → Nat) (n : Nat) (r : Rs) : Rs := match r with
  | (p, none) => (nx u n p, none)
  | (p, some x) => if lu u n (nx u n p) = 0 then (nx u n p, some x) else (nx u n p, none)
def majL (v : Nat) : List Nat := fo (fun s l => if pc7 s = v / 2 + 1 then tel l s else l) [] (2 ^ v)
def qMaj (u : Nat → Nat) (n p : Nat) : Rs := match fig u n 5 p with
  | none => (nx u n p, none)
  | some v => (nx u n p + 1, some (v, majL v))
def gcol (w h : Nat) : Nat := fo (fun y c => c ||| 2 ^ (w * y)) 0 h
def gset (w h y x : Nat) : Nat := (2 ^ w - 1) * 2 ^ (w * y) ||| gcol w h * 2 ^ x
def grdL (w h : Nat) : List Nat := fo (fun y l => fo (fun x l => tel l (gset w h y x)) l w) [] h
def qGrid (u : Nat → Nat) (n p : Nat) : Rs := match fig u n 4 p with
  | none => (nx u n p, none)
  | some w => if lu u n (nx u n (nx u n p + 1)) = 42 then (match fig u n (min 4 (7 / w)) (nx u n (nx u n p + 1) + 1) with
    | none => (nx u n (nx u n (nx u n p + 1) + 1), none)
    | some h => (nx u n (nx u n (nx u n p + 1) + 1) + 1, some (w * h, grdL w h))) else (nx u n (nx u n p + 1), none)
/-- widths of a wall's rows: k rows are left, z elements so far -/
def qWid (u : Nat → Nat) (n : Nat) : Nat → Nat → Nat → List Nat → Nat × Option (List Nat)
  | 0, p, _, ws => (p, some ws)
  | k + 1, p, z, ws => match fig u n (min 4 (7 - z)) p with
    | none => (nx u n p, none)
    | some v => match k with
      | 0 => (nx u n p + 1, some (ws ++ [v]))
      | k' + 1 => if lu u n (nx u n (nx u n p + 1)) = 44 then qWid u n (k' + 1) (nx u n (nx u n p + 1) + 1) (z + v) (ws ++ [v]) else (nx u n (nx u n p + 1), some (ws ++ [v]))
def plnL : List Nat := fo (fun k l => tel l (2 ^ k ||| 2 ^ ((k + 1) % 7) ||| 2 ^ ((k + 3) % 7))) [] 7
def qPln (p : Nat) : Rs := (p, some (7, plnL))
/-- figures of a group: the place behind them, the set; or the place of the fault -/
def dgs (u : Nat → Nat) (n z : Nat) : Nat → Nat → Nat → Nat × Option Nat
  | 0, p, s => (p, some s)
  | k + 1, p, s => if 48 ≤ lu u n p ∧ lu u n p ≤ 57 then (if z ≤ lu u n p - 48 ∨ tb s (lu u n p - 48) = true then (p, none) else dgs u n z k (p + 1) (s ||| 2 ^ (lu u n p - 48))) else (p, some s)
/-- one group told by its figures -/
def qOne (u : Nat → Nat) (n z : Nat) (l : List Nat) (p : Nat) : Nat × Option Nat := if l.length = 12 then (nx u n p, none) else match dgs u n z (n - nx u n p) (nx u n p) 0 with
  | (p', none) => (p', none)
  | (p', some s) => if s = 0 ∨ l.contains s = true then (nx u n p', none) else (nx u n p', some s)
def qTold (u : Nat → Nat) (n z : Nat) : Nat → Nat → List Nat → Nat × Option (List Nat)
  | 0, p, _ => (p, none)
  | k + 1, p, l => match qOne u n z l p with
    | (p', none) => (p', none)
    | (p', some s) => if lu u n (nx u n p') = 44 then qTold u n z k (nx u n p' + 1) (l ++ [s]) else (nx u n p', some (l ++ [s]))
def qSet (u : Nat → Nat) (n p : Nat) : Rs := match fig u n 7 p with
  | none => (nx u n p, none)
  | some z => if lu u n (nx u n (nx u n p + 1)) = 58 then (match qTold u n z 13 (nx u n (nx u n p + 1) + 1) [] with
    | (p', none) => (p', none)
    | (p', some l) => (p', some (z, l))) else (nx u n (nx u n p + 1), some (z, []))
def nmx (t : Nat) : List Nat := (am_txt t).map (fun x => x.toInt.toNat)
/-- the name from a to b -/
def isNm (u : Nat → Nat) (n t a b : Nat) : Bool := decide (b - a = (nmx t).length) && ba (fun i => decide (lu u n (a + i) = (nmx t).getD i 0)) (nmx t).length
theorem majL_ok : ∀ v, v < 6 → 1 ≤ v → (majL v).length ≤ 12 ∧ (majL v).all (fun s => decide (1 ≤ s ∧ s < 2 ^ v)) = true ∧ (majL v).Nodup := by decide +kernel
theorem plnL_ok : plnL.length ≤ 12 ∧ plnL.all (fun s => decide (1 ≤ s ∧ s < 2 ^ 7)) = true ∧ plnL.Nodup := by decide +kernel
theorem grdL_ok : ∀ w, w < 5 → ∀ h, h < 5 → (1 ≤ w ∧ 1 ≤ h ∧ w * h ≤ 7) → (grdL w h).length ≤ 12 ∧ (grdL w h).all (fun s => decide (1 ≤ s ∧ s < 2 ^ (w * h))) = true ∧ (grdL w h).Nodup := by decide +kernel
