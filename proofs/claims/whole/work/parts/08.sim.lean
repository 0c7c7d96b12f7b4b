/-! a step of the small machine is a step of the true one -/
abbrev am_A (B0 : Nat) : Nat → Prop := fun q => B0 ≤ q
def am_tys (cy : Nat → ClassId) : List (ClassId × FieldType) := [(cy 12, .byte), (cy 13, .char), (cy 14, .int), (cy 15, .long), (cy 16, .boolean), (cy 17, .object RX7), (cy 18, .object RX8), (cy 19, .array .int)]
def am_kk (D : va_G) (cy : Nat → ClassId) (α : Nat → Nat) (s : State) : Prop := va_K D am_cl (am_tys cy) s ∧ ∀ t, t < 5 → vk_R RX5 (am_si t) (am_sx t) (α (am_SB + t)) s
/-- what stays of the JDK: the five texts, two statics -/
def am_st (α adV : Nat → Nat) (B0 : Nat) (s : State) (H : Heap) : Prop := vk_S 5 am_len am_byt (fun t => α (am_SB + t)) adV (am_A B0) s H ∧ va_Z "java/lang/String" "COMPACT_STRINGS" "Z" (.int 1) (am_A B0) s H ∧ va_Zq "jdk/internal/util/Preconditions" "SIOOBE_FORMATTER" "Ljava/util/function/BiFunction;" (am_A B0) s H
theorem am_st.moved {α adV : Nat → Nat} {B0 : Nat} {u U : State} {H : Heap} (hvm : u.vm.Alike U.vm) (h : am_st α adV B0 u H) : am_st α adV B0 U H := ⟨h.1.moved hvm, h.2.1.moved hvm, h.2.2.moved hvm⟩
theorem am_st.kept {α adV : Nat → Nat} {B0 : Nat} {U : State} {H H1 : Heap} (h : am_st α adV B0 U H) (hq : ∀ a : Nat, a < H.size → ¬ am_A B0 a → H1[a]? = H[a]?) : am_st α adV B0 U H1 := ⟨h.1.kept hq, h.2.1.kept hq, h.2.2.kept hq⟩
def am_hr (D : va_G) (cy : Nat → ClassId) (α adV : Nat → Nat) (B0 : Nat) (h : am_H) (σ : am_S) (s : State) (H : Heap) : Prop :=
  va_P D am_cl (am_ws cy α h σ) H ∧ va_D (am_A B0) (am_ws cy α h σ) ∧ am_st α adV B0 s H
def am_hok (h : am_H) : Prop := ∀ (i k n : Nat), h[i]? = some (k, n) → n < 2 ^ 31
def am_Pc (D : va_G) (cy : Nat → ClassId) (α adV : Nat → Nat) (B0 : Nat) (h : am_H) (σ : am_S) (as : List Value) : Array Value → State → Prop := fun v U => v = (as.map (am_cv α)).toArray ∧ B0 ≤ U.heap.size ∧ am_kk D cy α U ∧ am_hr D cy α adV B0 h σ U U.heap
def am_Qc (D : va_G) (cy : Nat → ClassId) (α : Nat → Nat) (B0 : Nat) (h : am_H) (q : am_Q) : Array Value → State → Outcome → State → Prop := fun _ st o t =>
  ∃ (r : Option Value) (σ : am_S), o = .returned (r.map (am_cv α)) ∧ q r σ ∧ va_P D am_cl (am_ws cy α h σ) t.heap ∧ va_D (am_A B0) (am_ws cy α h σ) ∧ va_F (am_A B0) st t
theorem am_hr.put {D : va_G} {cy : Nat → ClassId} {α adV : Nat → Nat} {B0 : Nat} {h : am_H} {σ σ' : am_S} {s : State} {H H0 H1 : Heap} {locs : List Loc} {i : Nat} {x : Nat × Nat} (hh : am_hr D cy α adV B0 h σ s H) (_hS : va_S (am_A B0) H0 H locs) (hx : h[i]? = some x) (ho : ∀ j, j ≠ i → σ'.1 j = σ.1 j ∧ σ'.2.1 j = σ.2.1 j ∧ σ'.2.2 j = σ.2.2 j) (hE : (∀ q : Nat, q < B0 → H1[q]? = H[q]?)) (hP : va_P D am_cl ((am_ws cy α h σ).set i (α i, am_cell cy α σ' i x)) H1) (hD : va_D (am_A B0) ((am_ws cy α h σ).set i (α i, am_cell cy α σ' i x))) : am_hr D cy α adV B0 h σ' s H1 := by
  refine ⟨by rw [am_ws_upd hx ho]; exact hP, by rw [am_ws_upd hx ho]; exact hD, hh.2.2.kept fun q _ hq => hE q (Nat.not_le.mp hq)⟩
/-- below B0 the heap stays: two frames over the same beginning -/
theorem am_S_eq {B0 : Nat} {H0 H H1 : Heap} {locs locs1 : List Loc} (hB : B0 ≤ H0.size) (hS : va_S (am_A B0) H0 H locs) (hS1 : va_S (am_A B0) H0 H1 locs1) : ∀ q : Nat, q < B0 → H1[q]? = H[q]? := fun q hq => (hS1.2.1 q (Nat.lt_of_lt_of_le hq hB) (Nat.not_le.mpr hq)).trans (hS.2.1 q (Nat.lt_of_lt_of_le hq hB) (Nat.not_le.mpr hq)).symm
theorem am_swc_at {x : Int32} {d : Prop} {g : Nat → Prop} {p : Nat} : ∀ {os : List Int} {sw : List (Int32 × Nat)} {lo : Int}, am_swc p lo os sw = true → am_sw x d g sw → ((x.toInt < lo ∨ lo + os.length - 1 < x.toInt) ∧ d) ∨ ∃ (i : Nat) (o : Int) (t : Nat), x.toInt = lo + i ∧ os[i]? = some o ∧ (p : Int) + o = (t : Int) ∧ g t
  | [], [], lo, _, h => by
    left
    refine ⟨?_, h⟩
    simp
    omega
  | o :: os, (y, t) :: r, lo, hc, h => by
    simp only [am_swc, Bool.and_eq_true, decide_eq_true_eq] at hc
    obtain ⟨⟨c1, c2⟩, c3⟩ := hc
    by_cases e : x = y
    · right
      subst e
      exact ⟨0, o, t, by omega, rfl, c2, h.1 rfl⟩
    · rcases am_swc_at c3 (h.2 e) with ⟨g1, g2⟩ | ⟨i, o', t', g1, g2, g3, g4⟩
      · left
        refine ⟨?_, g2⟩
        have hne : x.toInt ≠ lo := fun q => e (Int32.toInt_inj.mp (q.trans c1.symm))
        simp only [List.length_cons]
        omega
      · right
        exact ⟨i + 1, o', t', by omega, g2, g3, g4⟩
  | [], _ :: _, _, hc, _ => by simp [am_swc] at hc
  | _ :: _, [], _, hc, _ => by simp [am_swc] at hc
theorem am_inI {n j : Nat} (h : j < n) (hn : n < 2 ^ 31) : vp_in (nI j) n ∧ (nI j).toNatClampNeg = j := ⟨vp_in_nI h hn, nI_clamp (by omega)⟩
theorem am_row_up {α : Type} {f : Nat → Nat → α} {a k : Nat} {v : α} {j : Nat} (h : j ≠ a) : am_up f a k v j = f j := by
  funext b
  simp [am_up, h]
theorem am_up_self {f : Nat → Nat → Int32} {a k : Nat} {v : Int32} : am_up f a k v a = upd (f a) k v := by
  funext b
  simp [am_up, upd]
theorem am_up_selfL {f : Nat → Nat → Int64} {a k : Nat} {v : Int64} : am_up f a k v a = vp_updL (f a) k v := by
  funext b
  simp [am_up, vp_updL]
theorem am_rowr {α : Type} {f : Nat → Nat → α} {a : Nat} {g : Nat → α} {j : Nat} (h : j ≠ a) : am_row f a g j = f j := by
  funext b
  simp [am_row, h]
theorem am_row_self {α : Type} {f : Nat → Nat → α} {a : Nat} {g : Nat → α} : am_row f a g a = g := by
  funext b
  simp [am_row]
theorem am_lst_set {α : Nat → Nat} {I : Nat → Nat → Int32} {J : Nat → Nat → Int64} {R : Nat → Nat → Option Nat} {i ci d : Nat} {x : Int32} (hd : d < am_nf ci) (hr : am_isR (am_ft ci d) = false) : (List.range (am_nf ci)).map (am_fv α (am_up I i d x, J, R) i ci) = ((List.range (am_nf ci)).map (am_fv α (I, J, R) i ci)).set d (.int x) := by
  apply List.ext_getElem?
  intro j
  rw [List.getElem?_set, List.getElem?_map, List.getElem?_map, List.length_map, List.length_range]
  by_cases e : d = j
  · subst e
    rw [if_pos rfl, if_pos hd, List.getElem?_range hd]
    simp [am_fv, hr, am_up]
  · rw [if_neg e]
    by_cases hj : j < am_nf ci
    · rw [List.getElem?_range hj]
      simp [am_fv, am_up, Ne.symm e]
    · rw [List.getElem?_eq_none (by simpa using hj)]
      rfl
theorem am_fs_at {α : Nat → Nat} {σ : am_S} {i ci d : Nat} (hd : d < am_nf ci) : ((List.range (am_nf ci)).map (am_fv α σ i ci))[d]? = some (am_fv α σ i ci d) := by
  rw [List.getElem?_map, List.getElem?_range hd]
  rfl
theorem am_cls_0 : ∀ w ∈ u_ws RX0 TX0 2, w ∈ am_TS := by
  intro w hw
  obtain ⟨k, hk, rfl⟩ := List.mem_map.mp hw
  have hk := List.mem_range.mp hk
  exact am_w_in (c := (([(0, 98), (0, 100)] : List (Nat × Nat)).getD k (0, 0)).1) (i := (([(0, 98), (0, 100)] : List (Nat × Nat)).getD k (0, 0)).2) ((by decide +kernel : ∀ k, k < 2 → am_w (([(0, 98), (0, 100)] : List (Nat × Nat)).getD k (0, 0)).1 (([(0, 98), (0, 100)] : List (Nat × Nat)).getD k (0, 0)).2 (u_lay RX0 TX0 k) = true) k hk)
theorem am_cls_1 : ∀ w ∈ u_ws RX1 TX1 2, w ∈ am_TS := by
  intro w hw
  obtain ⟨k, hk, rfl⟩ := List.mem_map.mp hw
  have hk := List.mem_range.mp hk
  exact am_w_in (c := (([(0, 160), (0, 162)] : List (Nat × Nat)).getD k (0, 0)).1) (i := (([(0, 160), (0, 162)] : List (Nat × Nat)).getD k (0, 0)).2) ((by decide +kernel : ∀ k, k < 2 → am_w (([(0, 160), (0, 162)] : List (Nat × Nat)).getD k (0, 0)).1 (([(0, 160), (0, 162)] : List (Nat × Nat)).getD k (0, 0)).2 (u_lay RX1 TX1 k) = true) k hk)
theorem am_cls_2 : ∀ w ∈ u_ws RX2 TX2 6, w ∈ am_TS := by
  intro w hw
  obtain ⟨k, hk, rfl⟩ := List.mem_map.mp hw
  have hk := List.mem_range.mp hk
  exact am_w_in (c := (([(0, 205), (0, 207), (0, 209), (0, 211), (0, 213), (0, 215)] : List (Nat × Nat)).getD k (0, 0)).1) (i := (([(0, 205), (0, 207), (0, 209), (0, 211), (0, 213), (0, 215)] : List (Nat × Nat)).getD k (0, 0)).2) ((by decide +kernel : ∀ k, k < 6 → am_w (([(0, 205), (0, 207), (0, 209), (0, 211), (0, 213), (0, 215)] : List (Nat × Nat)).getD k (0, 0)).1 (([(0, 205), (0, 207), (0, 209), (0, 211), (0, 213), (0, 215)] : List (Nat × Nat)).getD k (0, 0)).2 (u_lay RX2 TX2 k) = true) k hk)
theorem am_cls_3 : ∀ w ∈ u_ws RX3 TX3 4, w ∈ am_TS := by
  intro w hw
  obtain ⟨k, hk, rfl⟩ := List.mem_map.mp hw
  have hk := List.mem_range.mp hk
  exact am_w_in (c := (([(0, 47), (0, 49), (0, 51), (0, 53)] : List (Nat × Nat)).getD k (0, 0)).1) (i := (([(0, 47), (0, 49), (0, 51), (0, 53)] : List (Nat × Nat)).getD k (0, 0)).2) ((by decide +kernel : ∀ k, k < 4 → am_w (([(0, 47), (0, 49), (0, 51), (0, 53)] : List (Nat × Nat)).getD k (0, 0)).1 (([(0, 47), (0, 49), (0, 51), (0, 53)] : List (Nat × Nat)).getD k (0, 0)).2 (u_lay RX3 TX3 k) = true) k hk)
theorem am_cls_4 : ∀ w ∈ u_ws RX4 TX4 5, w ∈ am_TS := by
  intro w hw
  obtain ⟨k, hk, rfl⟩ := List.mem_map.mp hw
  have hk := List.mem_range.mp hk
  exact am_w_in (c := (([(0, 179), (0, 181), (0, 183), (0, 185), (0, 187)] : List (Nat × Nat)).getD k (0, 0)).1) (i := (([(0, 179), (0, 181), (0, 183), (0, 185), (0, 187)] : List (Nat × Nat)).getD k (0, 0)).2) ((by decide +kernel : ∀ k, k < 5 → am_w (([(0, 179), (0, 181), (0, 183), (0, 185), (0, 187)] : List (Nat × Nat)).getD k (0, 0)).1 (([(0, 179), (0, 181), (0, 183), (0, 185), (0, 187)] : List (Nat × Nat)).getD k (0, 0)).2 (u_lay RX4 TX4 k) = true) k hk)
theorem am_cls_5 : ∀ w ∈ u_ws RX5 TX5 7, w ∈ am_TS := by
  intro w hw
  obtain ⟨k, hk, rfl⟩ := List.mem_map.mp hw
  have hk := List.mem_range.mp hk
  exact am_w_in (c := (([(0, 135), (0, 137), (0, 139), (0, 141), (0, 143), (0, 145), (0, 147)] : List (Nat × Nat)).getD k (0, 0)).1) (i := (([(0, 135), (0, 137), (0, 139), (0, 141), (0, 143), (0, 145), (0, 147)] : List (Nat × Nat)).getD k (0, 0)).2) ((by decide +kernel : ∀ k, k < 7 → am_w (([(0, 135), (0, 137), (0, 139), (0, 141), (0, 143), (0, 145), (0, 147)] : List (Nat × Nat)).getD k (0, 0)).1 (([(0, 135), (0, 137), (0, 139), (0, 141), (0, 143), (0, 145), (0, 147)] : List (Nat × Nat)).getD k (0, 0)).2 (u_lay RX5 TX5 k) = true) k hk)
theorem am_cls_6 : ∀ w ∈ u_ws RX6 TX6 2, w ∈ am_TS := by
  intro w hw
  obtain ⟨k, hk, rfl⟩ := List.mem_map.mp hw
  have hk := List.mem_range.mp hk
  exact am_w_in (c := (([(0, 227), (0, 229)] : List (Nat × Nat)).getD k (0, 0)).1) (i := (([(0, 227), (0, 229)] : List (Nat × Nat)).getD k (0, 0)).2) ((by decide +kernel : ∀ k, k < 2 → am_w (([(0, 227), (0, 229)] : List (Nat × Nat)).getD k (0, 0)).1 (([(0, 227), (0, 229)] : List (Nat × Nat)).getD k (0, 0)).2 (u_lay RX6 TX6 k) = true) k hk)
theorem am_cls_7 : ∀ w ∈ u_ws RX7 TX7 4, w ∈ am_TS := by
  intro w hw
  obtain ⟨k, hk, rfl⟩ := List.mem_map.mp hw
  have hk := List.mem_range.mp hk
  exact am_w_in (c := (([(1, 7), (1, 9), (1, 11), (1, 13)] : List (Nat × Nat)).getD k (0, 0)).1) (i := (([(1, 7), (1, 9), (1, 11), (1, 13)] : List (Nat × Nat)).getD k (0, 0)).2) ((by decide +kernel : ∀ k, k < 4 → am_w (([(1, 7), (1, 9), (1, 11), (1, 13)] : List (Nat × Nat)).getD k (0, 0)).1 (([(1, 7), (1, 9), (1, 11), (1, 13)] : List (Nat × Nat)).getD k (0, 0)).2 (u_lay RX7 TX7 k) = true) k hk)
theorem am_cls_8 : ∀ w ∈ u_ws RX8 TX8 5, w ∈ am_TS := by
  intro w hw
  obtain ⟨k, hk, rfl⟩ := List.mem_map.mp hw
  have hk := List.mem_range.mp hk
  exact am_w_in (c := (([(0, 75), (0, 77), (0, 79), (0, 81), (0, 83)] : List (Nat × Nat)).getD k (0, 0)).1) (i := (([(0, 75), (0, 77), (0, 79), (0, 81), (0, 83)] : List (Nat × Nat)).getD k (0, 0)).2) ((by decide +kernel : ∀ k, k < 5 → am_w (([(0, 75), (0, 77), (0, 79), (0, 81), (0, 83)] : List (Nat × Nat)).getD k (0, 0)).1 (([(0, 75), (0, 77), (0, 79), (0, 81), (0, 83)] : List (Nat × Nat)).getD k (0, 0)).2 (u_lay RX8 TX8 k) = true) k hk)
theorem am_cls_9 : ∀ w ∈ u_ws RX9 TX9 2, w ∈ am_TS := by
  intro w hw
  obtain ⟨k, hk, rfl⟩ := List.mem_map.mp hw
  have hk := List.mem_range.mp hk
  exact am_w_in (c := (([(0, 118), (0, 120)] : List (Nat × Nat)).getD k (0, 0)).1) (i := (([(0, 118), (0, 120)] : List (Nat × Nat)).getD k (0, 0)).2) ((by decide +kernel : ∀ k, k < 2 → am_w (([(0, 118), (0, 120)] : List (Nat × Nat)).getD k (0, 0)).1 (([(0, 118), (0, 120)] : List (Nat × Nat)).getD k (0, 0)).2 (u_lay RX9 TX9 k) = true) k hk)
theorem am_cls_10 : ∀ w ∈ u_ws RX10 TX10 11, w ∈ am_TS := by
  intro w hw
  obtain ⟨k, hk, rfl⟩ := List.mem_map.mp hw
  have hk := List.mem_range.mp hk
  exact am_w_in (c := (([(1, 28), (1, 30), (1, 32), (1, 34), (1, 36), (1, 38), (1, 40), (1, 42), (1, 44), (1, 46), (1, 48)] : List (Nat × Nat)).getD k (0, 0)).1) (i := (([(1, 28), (1, 30), (1, 32), (1, 34), (1, 36), (1, 38), (1, 40), (1, 42), (1, 44), (1, 46), (1, 48)] : List (Nat × Nat)).getD k (0, 0)).2) ((by decide +kernel : ∀ k, k < 11 → am_w (([(1, 28), (1, 30), (1, 32), (1, 34), (1, 36), (1, 38), (1, 40), (1, 42), (1, 44), (1, 46), (1, 48)] : List (Nat × Nat)).getD k (0, 0)).1 (([(1, 28), (1, 30), (1, 32), (1, 34), (1, 36), (1, 38), (1, 40), (1, 42), (1, 44), (1, 46), (1, 48)] : List (Nat × Nat)).getD k (0, 0)).2 (u_lay RX10 TX10 k) = true) k hk)
theorem am_cls_11 : ∀ w ∈ u_ws RX11 TX11 27, w ∈ am_TS := by
  intro w hw
  obtain ⟨k, hk, rfl⟩ := List.mem_map.mp hw
  have hk := List.mem_range.mp hk
  exact am_w_in (c := (([(3, 172), (3, 174), (3, 176), (3, 178), (3, 180), (3, 182), (3, 184), (3, 186), (3, 188), (3, 190), (3, 192), (3, 194), (3, 196), (3, 198), (3, 200), (3, 202), (3, 204), (3, 206), (3, 208), (3, 210), (3, 212), (3, 214), (3, 216), (3, 218), (3, 220), (3, 222), (3, 224)] : List (Nat × Nat)).getD k (0, 0)).1) (i := (([(3, 172), (3, 174), (3, 176), (3, 178), (3, 180), (3, 182), (3, 184), (3, 186), (3, 188), (3, 190), (3, 192), (3, 194), (3, 196), (3, 198), (3, 200), (3, 202), (3, 204), (3, 206), (3, 208), (3, 210), (3, 212), (3, 214), (3, 216), (3, 218), (3, 220), (3, 222), (3, 224)] : List (Nat × Nat)).getD k (0, 0)).2) ((by decide +kernel : ∀ k, k < 27 → am_w (([(3, 172), (3, 174), (3, 176), (3, 178), (3, 180), (3, 182), (3, 184), (3, 186), (3, 188), (3, 190), (3, 192), (3, 194), (3, 196), (3, 198), (3, 200), (3, 202), (3, 204), (3, 206), (3, 208), (3, 210), (3, 212), (3, 214), (3, 216), (3, 218), (3, 220), (3, 222), (3, 224)] : List (Nat × Nat)).getD k (0, 0)).1 (([(3, 172), (3, 174), (3, 176), (3, 178), (3, 180), (3, 182), (3, 184), (3, 186), (3, 188), (3, 190), (3, 192), (3, 194), (3, 196), (3, 198), (3, 200), (3, 202), (3, 204), (3, 206), (3, 208), (3, 210), (3, 212), (3, 214), (3, 216), (3, 218), (3, 220), (3, 222), (3, 224)] : List (Nat × Nat)).getD k (0, 0)).2 (u_lay RX11 TX11 k) = true) k hk)
theorem am_cls {ci : Nat} {C : String} {T : u_T} {N : Nat} (h : am_cl[ci]? = some (C, T, N)) : ∀ w ∈ u_ws C T N, w ∈ am_TS := by
  match ci, h with
  | 0, h => cases h; exact am_cls_0
  | 1, h => cases h; exact am_cls_1
  | 2, h => cases h; exact am_cls_2
  | 3, h => cases h; exact am_cls_3
  | 4, h => cases h; exact am_cls_4
  | 5, h => cases h; exact am_cls_5
  | 6, h => cases h; exact am_cls_6
  | 7, h => cases h; exact am_cls_7
  | 8, h => cases h; exact am_cls_8
  | 9, h => cases h; exact am_cls_9
  | 10, h => cases h; exact am_cls_10
  | 11, h => cases h; exact am_cls_11
  | n + 12, h => simp at h
theorem am_acn : Cond.native arraycopyName ∈ am_TS := am_w_in (c := 2) (i := 51) (by decide +kernel)
theorem am_acs : Cond.static arraycopyName ∈ am_TS := am_w_in (c := 2) (i := 50) (by decide +kernel)
theorem am_aci : Cond.initialized "java/lang/System" ∈ am_TS := am_w_in (c := 0) (i := 15) (by decide +kernel)
theorem am_mxs : Cond.static Lib.Math.max.name ∈ am_TS := am_w_in (c := 1) (i := 185) (by decide +kernel)
theorem am_mxc : Cond.code Lib.Math.max.name Lib.Math.max.code 2 (some .int) ∈ am_TS := am_w_in (c := 1) (i := 186) (by decide +kernel)
theorem am_mns : Cond.static Lib.Math.min.name ∈ am_TS := am_w_in (c := 1) (i := 106) (by decide +kernel)
theorem am_mnc : Cond.code Lib.Math.min.name Lib.Math.min.code 2 (some .int) ∈ am_TS := am_w_in (c := 1) (i := 107) (by decide +kernel)
theorem am_mxi : Cond.initialized "java/lang/Math" ∈ am_TS := am_w_in (c := 0) (i := 14) (by decide +kernel)
