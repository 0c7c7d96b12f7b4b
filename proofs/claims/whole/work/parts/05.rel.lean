/-! how the small machine's cells, locals and stack stand for the true ones -/
def am_TS : List Cond := lw_tbl.filter goodWord
def am_tb : Nat → List Cond
  | 0 => tables_1_1
  | 1 => tables_1_2
  | 2 => tables_1_3
  | 3 => tables_1_4
  | 4 => tables_1_5
  | 5 => tables_1_6
  | _ => k2_sels lw_privs
def am_w (c i : Nat) (w : Cond) : Bool := decide ((am_tb c)[i]? = some w) && goodWord w
theorem am_w_in {c i : Nat} {w : Cond} (h : am_w c i w = true) : w ∈ am_TS := by
  unfold am_w at h
  simp only [Bool.and_eq_true, decide_eq_true_eq] at h
  obtain ⟨h1, h2⟩ := h
  refine List.mem_filter.mpr ⟨?_, h2⟩
  have hm : w ∈ am_tb c := List.mem_of_getElem? h1
  unfold lw_tbl tables_1
  match c, hm with
  | 0, hm => exact List.mem_append_right _ (List.mem_append_left _ hm)
  | 1, hm => exact List.mem_append_right _ (List.mem_append_right _ (List.mem_append_left _ hm))
  | 2, hm => exact List.mem_append_right _ (List.mem_append_right _ (List.mem_append_right _ (List.mem_append_left _ hm)))
  | 3, hm => exact List.mem_append_right _ (List.mem_append_right _ (List.mem_append_right _ (List.mem_append_right _ (List.mem_append_left _ hm))))
  | 4, hm => exact List.mem_append_right _ (List.mem_append_right _ (List.mem_append_right _ (List.mem_append_right _ (List.mem_append_right _ (List.mem_append_left _ hm)))))
  | 5, hm => exact List.mem_append_right _ (List.mem_append_right _ (List.mem_append_right _ (List.mem_append_right _ (List.mem_append_right _ (List.mem_append_right _ hm)))))
  | n + 6, hm => exact List.mem_append_left _ hm
theorem am_TS_good {w : Cond} (h : w ∈ am_TS) : (w.onTables && w.keeps) = true ∨ ∃ ty, w = .arrayClass ty := good_of_word (List.mem_filter.mp h).2
theorem am_TS_tbl {w : Cond} (h : w ∈ am_TS) : w ∈ lw_tbl := (List.mem_filter.mp h).1
abbrev am_cl : List vw_C := [(RX0, TX0, 2), (RX1, TX1, 2), (RX2, TX2, 6), (RX3, TX3, 4), (RX4, TX4, 5), (RX5, TX5, 7), (RX6, TX6, 2), (RX7, TX7, 4), (RX8, TX8, 5), (RX9, TX9, 2), (RX10, TX10, 11), (RX11, TX11, 27)]
def am_ft : Nat → Nat → FieldType
  | 0 => tyX0
  | 1 => tyX1
  | 2 => tyX2
  | 3 => tyX3
  | 4 => tyX4
  | 5 => tyX5
  | 6 => tyX6
  | 7 => tyX7
  | 8 => tyX8
  | 9 => tyX9
  | 10 => tyX10
  | 11 => tyX11
  | _ => fun _ => .int
def am_nf (ci : Nat) : Nat := ([2, 2, 6, 4, 5, 7, 2, 4, 5, 2, 11, 27] : List Nat).getD ci 0
def am_isR : FieldType → Bool
  | .object _ => true
  | .array _ => true
  | _ => false
def am_cv (α : Nat → Nat) : Value → Value
  | .ref i => .ref (α i)
  | v => v
def am_fv (α : Nat → Nat) (σ : am_S) (i ci k : Nat) : Value := if am_isR (am_ft ci k) = true then va_rf ((σ.2.2 i k).map α) else .int (σ.1 i k)
def am_cell (cy : Nat → ClassId) (α : Nat → Nat) (σ : am_S) (i : Nat) (x : Nat × Nat) : va_E :=
  if x.1 < 12 then .inr (x.1, (List.range (am_nf x.1)).map (am_fv α σ i x.1))
  else if x.1 = 15 then .inl (cy x.1, x.2, .inr (.inl (σ.2.1 i)))
  else if 17 ≤ x.1 then .inl (cy x.1, x.2, .inr (.inr (.inr (.inr (fun j => (σ.2.2 i j).map α)))))
  else .inl (cy x.1, x.2, .inl (σ.1 i))
def am_ws (cy : Nat → ClassId) (α : Nat → Nat) (h : am_H) (σ : am_S) : va_W := h.mapIdx (fun i x => (α i, am_cell cy α σ i x))
theorem am_ws_get {cy : Nat → ClassId} {α : Nat → Nat} {h : am_H} {σ : am_S} {i : Nat} {x : Nat × Nat} (hx : h[i]? = some x) : (am_ws cy α h σ)[i]? = some (α i, am_cell cy α σ i x) := by
  unfold am_ws
  rw [List.getElem?_mapIdx, hx]
  rfl
theorem am_cell_congr {cy : Nat → ClassId} {α : Nat → Nat} {σ σ' : am_S} {i : Nat} (h1 : σ'.1 i = σ.1 i) (h2 : σ'.2.1 i = σ.2.1 i) (h3 : σ'.2.2 i = σ.2.2 i) (x : Nat × Nat) : am_cell cy α σ' i x = am_cell cy α σ i x := by
  unfold am_cell am_fv
  rw [h1, h2, h3]
theorem am_ws_upd {cy : Nat → ClassId} {α : Nat → Nat} {h : am_H} {σ σ' : am_S} {i : Nat} {x : Nat × Nat} (hx : h[i]? = some x) (ho : ∀ j, j ≠ i → σ'.1 j = σ.1 j ∧ σ'.2.1 j = σ.2.1 j ∧ σ'.2.2 j = σ.2.2 j) : am_ws cy α h σ' = (am_ws cy α h σ).set i (α i, am_cell cy α σ' i x) := by
  apply List.ext_getElem?
  intro j
  rw [List.getElem?_set]
  unfold am_ws
  rw [List.getElem?_mapIdx, List.getElem?_mapIdx, List.length_mapIdx]
  by_cases e : i = j
  · subst e
    have hl : i < h.length := (List.getElem?_eq_some_iff.mp hx).1
    rw [if_pos rfl, if_pos hl, hx]
    rfl
  · rw [if_neg e]
    obtain ⟨o1, o2, o3⟩ := ho j (fun q => e q.symm)
    cases h[j]? with
    | none => rfl
    | some z => simp [am_cell_congr o1 o2 o3]
theorem am_cell_I {cy : Nat → ClassId} {α : Nat → Nat} {σ : am_S} {i k n : Nat} (hk : k = 12 ∨ k = 13 ∨ k = 14 ∨ k = 16) : am_cell cy α σ i (k, n) = .inl (cy k, n, .inl (σ.1 i)) := by
  unfold am_cell
  rcases hk with rfl | rfl | rfl | rfl <;> simp
theorem am_cell_J {cy : Nat → ClassId} {α : Nat → Nat} {σ : am_S} {i n : Nat} : am_cell cy α σ i (15, n) = .inl (cy 15, n, .inr (.inl (σ.2.1 i))) := by
  unfold am_cell
  simp
theorem am_cell_R {cy : Nat → ClassId} {α : Nat → Nat} {σ : am_S} {i k n : Nat} (hk : 17 ≤ k) : am_cell cy α σ i (k, n) = .inl (cy k, n, .inr (.inr (.inr (.inr (fun j => (σ.2.2 i j).map α))))) := by
  unfold am_cell
  have h1 : ¬ k < 12 := by omega
  have h2 : ¬ k = 15 := by omega
  simp [h1, h2, hk]
theorem am_cell_O {cy : Nat → ClassId} {α : Nat → Nat} {σ : am_S} {i k n : Nat} (hk : k < 12) : am_cell cy α σ i (k, n) = .inr (k, (List.range (am_nf k)).map (am_fv α σ i k)) := by
  unfold am_cell
  simp [hk]
theorem am_ft_ok {ci : Nat} {C : String} {T : u_T} {N : Nat} (h : am_cl[ci]? = some (C, T, N)) : ci < 12 ∧ am_nf ci = N ∧ (∀ k, k < N → parseFieldDescriptor (T k).2.2.1 = some (am_ft ci k)) ∧ ∀ a, a < N → ∀ b, b < N → a ≠ b → (T a).2.1 ≠ (T b).2.1 := by
  match ci, h with
  | 0, h => cases h; exact ⟨by decide, rfl, tyX0_ok, nmX0⟩
  | 1, h => cases h; exact ⟨by decide, rfl, tyX1_ok, nmX1⟩
  | 2, h => cases h; exact ⟨by decide, rfl, tyX2_ok, nmX2⟩
  | 3, h => cases h; exact ⟨by decide, rfl, tyX3_ok, nmX3⟩
  | 4, h => cases h; exact ⟨by decide, rfl, tyX4_ok, nmX4⟩
  | 5, h => cases h; exact ⟨by decide, rfl, tyX5_ok, nmX5⟩
  | 6, h => cases h; exact ⟨by decide, rfl, tyX6_ok, nmX6⟩
  | 7, h => cases h; exact ⟨by decide, rfl, tyX7_ok, nmX7⟩
  | 8, h => cases h; exact ⟨by decide, rfl, tyX8_ok, nmX8⟩
  | 9, h => cases h; exact ⟨by decide, rfl, tyX9_ok, nmX9⟩
  | 10, h => cases h; exact ⟨by decide, rfl, tyX10_ok, nmX10⟩
  | 11, h => cases h; exact ⟨by decide, rfl, tyX11_ok, nmX11⟩
  | n + 12, h => simp at h
/-! locals -/
def am_lr (α : Nat → Nat) (ls : am_L) (rl : Array Slot) (n : Nat) : Prop := ls.length = n ∧ rl.size = n ∧ lv_wf rl ∧ ∀ (i : Nat) (v : Value), ls[i]? = some (some v) → rl[i]? = some (.val (am_cv α v))
def am_lv (α : Nat → Nat) (ls : am_L) : List (Nat × Value) := ls.zipIdx.filterMap (fun q => q.1.map (fun v => (q.2, am_cv α v)))
theorem am_lv_mem {α : Nat → Nat} {ls : am_L} {i : Nat} {w : Value} : (i, w) ∈ am_lv α ls ↔ ∃ v, ls[i]? = some (some v) ∧ w = am_cv α v := by
  unfold am_lv
  rw [List.mem_filterMap]
  constructor
  · rintro ⟨⟨x, j⟩, h1, h2⟩
    rw [List.mk_mem_zipIdx_iff_getElem?] at h1
    cases x with
    | none => cases h2
    | some v =>
      have e := Option.some.inj h2
      cases e
      exact ⟨v, h1, rfl⟩
  · rintro ⟨v, h1, rfl⟩
    exact ⟨(some v, i), by rw [List.mk_mem_zipIdx_iff_getElem?]; exact h1, rfl⟩
theorem am_lr.has {α : Nat → Nat} {ls : am_L} {rl : Array Slot} {n : Nat} (h : am_lr α ls rl n) : lv_has rl n (am_lv α ls) := by
  refine ⟨h.2.1, h.2.2.1, fun q hq => ?_⟩
  obtain ⟨i, w⟩ := q
  obtain ⟨v, h1, rfl⟩ := am_lv_mem.mp hq
  exact h.2.2.2 i v h1
theorem am_lget_at {K : Value → Prop} : ∀ {ls : am_L} {i : Nat}, am_lget ls i K → ∃ v, ls[i]? = some (some v) ∧ K v
  | [], _, h => h.elim
  | x :: _, 0, h => by
    cases x with
    | none => exact h.elim
    | some v => exact ⟨v, rfl, h⟩
  | _ :: xs, i + 1, h => by
    obtain ⟨v, h1, h2⟩ := am_lget_at (ls := xs) (i := i) h
    exact ⟨v, h1, h2⟩
theorem am_cut_at {i : Nat} {x : Option Value} {K : Option Value → Prop} (h : am_cut i x K) : ∃ y, K y ∧ ∀ w, y = some w → x = some w ∧ ¬ (i = 0 ∧ w.category = 2) := by
  unfold am_cut at h
  split at h
  · split at h
    · exact ⟨none, h, fun w hw => by cases hw⟩
    · exact ⟨none, h, fun w hw => by cases hw⟩
    · rename_i h1 h2
      refine ⟨x, h, fun w hw => ⟨hw, fun q => ?_⟩⟩
      cases w with
      | long z => exact h1 z hw
      | double z => exact h2 z hw
      | _ => simp [Value.category] at q
  · exact ⟨x, h, fun w hw => ⟨hw, fun q => by omega⟩⟩
theorem am_lset_at {v : Value} {K : am_L → Prop} : ∀ {ls : am_L} {i : Nat}, am_lset ls i v K → ∃ ls', K ls' ∧ ls'.length = ls.length ∧ i < ls.length ∧ ((∃ z, v = .long z) → i + 1 < ls.length) ∧
    ∀ (j : Nat) (w : Value), ls'[j]? = some (some w) → (j = i ∧ w = v) ∨ (j ≠ i ∧ ls[j]? = some (some w) ∧ ¬ (j + 1 = i ∧ w.category = 2) ∧ ¬ (j = i + 1 ∧ ∃ z, v = .long z))
  | [], _, h => h.elim
  | x :: xs, 0, h => by
    have key : (∀ z, v ≠ .long z) → K (some v :: xs) → ∃ ls', K ls' ∧ ls'.length = (x :: xs).length ∧ 0 < (x :: xs).length ∧ ((∃ z, v = .long z) → 0 + 1 < (x :: xs).length) ∧ ∀ (j : Nat) (w : Value), ls'[j]? = some (some w) → (j = 0 ∧ w = v) ∨ (j ≠ 0 ∧ (x :: xs)[j]? = some (some w) ∧ ¬ (j + 1 = 0 ∧ w.category = 2) ∧ ¬ (j = 0 + 1 ∧ ∃ z, v = .long z)) := by
      intro hv hk
      refine ⟨_, hk, rfl, by simp, fun ⟨z, hz⟩ => absurd hz (hv z), fun j w hw => ?_⟩
      cases j with
      | zero => left; exact ⟨rfl, by simpa using hw.symm⟩
      | succ j => right; exact ⟨by omega, hw, fun q => by omega, fun q => by obtain ⟨-, z, hz⟩ := q; exact hv z hz⟩
    cases v with
    | long z =>
      cases xs with
      | nil => exact h.elim
      | cons y ys =>
        refine ⟨_, h, rfl, by simp, fun _ => by simp, fun j w hw => ?_⟩
        match j, hw with
        | 0, hw => left; exact ⟨rfl, by simpa using hw.symm⟩
        | 1, hw => simp at hw
        | j + 2, hw => right; exact ⟨by omega, hw, fun q => by omega, fun q => by omega⟩
    | int _ => exact key (fun z e => by cases e) h
    | float _ => exact key (fun z e => by cases e) h
    | double _ => exact key (fun z e => by cases e) h
    | null => exact key (fun z e => by cases e) h
    | ref _ => exact key (fun z e => by cases e) h
    | retAddr _ => exact key (fun z e => by cases e) h
  | x :: xs, i + 1, h => by
    obtain ⟨ys, h1, h2, h3, h4, h5⟩ := am_lset_at (ls := xs) (i := i) h
    obtain ⟨y, h6, h7⟩ := am_cut_at h1
    refine ⟨_, h6, by simp [h2], by simp; omega, fun q => by have := h4 q; simp; omega, fun j w hw => ?_⟩
    cases j with
    | zero =>
      have hy : y = some w := by simpa using hw
      obtain ⟨g1, g2⟩ := h7 w hy
      right
      refine ⟨by omega, by simp [g1], fun q => ?_, fun q => by omega⟩
      exact g2 ⟨by omega, q.2⟩
    | succ j =>
      rcases h5 j w hw with ⟨rfl, rfl⟩ | ⟨g1, g2, g3, g4⟩
      · left; exact ⟨rfl, rfl⟩
      · right; exact ⟨by omega, g2, fun q => g3 ⟨by omega, q.2⟩, fun q => g4 ⟨by omega, q.2⟩⟩
theorem am_cv_cat {α : Nat → Nat} (v : Value) : (am_cv α v).category = v.category := by cases v <;> rfl
theorem am_lr.set1 {α : Nat → Nat} {ls ls' : am_L} {rl rl' : Array Slot} {n i : Nat} {v : Value} (h : am_lr α ls rl n) (hlen : ls'.length = ls.length) (hv : ∀ (j : Nat) (w : Value), ls'[j]? = some (some w) → (j = i ∧ w = v) ∨ (j ≠ i ∧ ls[j]? = some (some w) ∧ ¬ (j + 1 = i ∧ w.category = 2) ∧ ¬ (j = i + 1 ∧ ∃ z, v = .long z)))
    (hr : lv_has rl' n ((i, am_cv α v) :: (am_lv α ls).filter (fun q => !(q.1 == i) && !(q.1 + 1 == i && q.2.category == 2)))) : am_lr α ls' rl' n := by
  refine ⟨hlen.trans h.1, hr.1, hr.2.1, fun j w hw => ?_⟩
  rcases hv j w hw with ⟨rfl, rfl⟩ | ⟨g1, g2, g3, -⟩
  · exact hr.2.2 (j, am_cv α w) List.mem_cons_self
  · refine hr.2.2 (j, am_cv α w) (List.mem_cons_of_mem _ (List.mem_filter.mpr ⟨am_lv_mem.mpr ⟨w, g2, rfl⟩, ?_⟩))
    simp only [Bool.and_eq_true, Bool.not_eq_true', beq_eq_false_iff_ne, ne_eq, Bool.and_eq_false_iff]
    refine ⟨g1, ?_⟩
    by_cases e : j + 1 = i
    · right
      rw [am_cv_cat]
      exact fun hc => g3 ⟨e, hc⟩
    · left; exact e
theorem am_lr.set2 {α : Nat → Nat} {ls ls' : am_L} {rl rl' : Array Slot} {n i : Nat} {z : Int64} (h : am_lr α ls rl n) (hlen : ls'.length = ls.length) (hv : ∀ (j : Nat) (w : Value), ls'[j]? = some (some w) → (j = i ∧ w = .long z) ∨ (j ≠ i ∧ ls[j]? = some (some w) ∧ ¬ (j + 1 = i ∧ w.category = 2) ∧ ¬ (j = i + 1 ∧ ∃ z', (Value.long z) = .long z')))
    (hr : lv_has rl' n ((i, Value.long z) :: (am_lv α ls).filter (fun q => !(q.1 == i) && (!(q.1 == i + 1) && !(q.1 + 1 == i && q.2.category == 2))))) : am_lr α ls' rl' n := by
  refine ⟨hlen.trans h.1, hr.1, hr.2.1, fun j w hw => ?_⟩
  rcases hv j w hw with ⟨rfl, rfl⟩ | ⟨g1, g2, g3, g4⟩
  · exact hr.2.2 (j, Value.long z) List.mem_cons_self
  · refine hr.2.2 (j, am_cv α w) (List.mem_cons_of_mem _ (List.mem_filter.mpr ⟨am_lv_mem.mpr ⟨w, g2, rfl⟩, ?_⟩))
    simp only [Bool.and_eq_true, Bool.not_eq_true', beq_eq_false_iff_ne, ne_eq, Bool.and_eq_false_iff]
    refine ⟨g1, fun e => g4 ⟨e, z, rfl⟩, ?_⟩
    by_cases e : j + 1 = i
    · right
      rw [am_cv_cat]
      exact fun hc => g3 ⟨e, hc⟩
    · left; exact e
