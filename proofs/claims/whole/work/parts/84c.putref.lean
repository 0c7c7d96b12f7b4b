/-! a constructor sets a field that holds a reference; Object's constructor -/
theorem ac_lst_setR {α : Nat → Nat} {I : Nat → Nat → Int32} {J : Nat → Nat → Int64} {R : Nat → Nat → Option Nat} {i ci d o : Nat} (hd : d < am_nf ci) (hr : am_isR (am_ft ci d) = true) : (List.range (am_nf ci)).map (am_fv α (I, J, am_up R i d (some o)) i ci) = ((List.range (am_nf ci)).map (am_fv α (I, J, R) i ci)).set d (.ref (α o)) := by
  apply List.ext_getElem?
  intro j
  rw [List.getElem?_set, List.getElem?_map, List.getElem?_map, List.length_map, List.length_range]
  by_cases e : d = j
  · subst e
    rw [if_pos rfl, if_pos hd, List.getElem?_range hd]
    simp [am_fv, hr, am_up, va_rf]
  · rw [if_neg e]
    by_cases hj : j < am_nf ci
    · rw [List.getElem?_range hj]
      simp [am_fv, am_up, Ne.symm e]
    · rw [List.getElem?_eq_none (by simpa using hj)]
      rfl
theorem ac_r_putr {y n0 n1 n ci d N index i o : Nat} {C : String} {T : u_T} {q : am_S → Prop} {pc : Nat} {ls : am_L} {st : List Value} {I : Nat → Nat → Int32} {J : Nat → Nat → Int64} {R : Nat → Nat → Option Nat} (hdg : decode (am_bytes y) pc = .ok (.putfield index, 3)) (hcl : am_cl[ci]? = some (C, T, N)) (hd : d < N) (hlk : Cond.fieldLink (am_name y).cls index (T d).1 (T d).2.1 (T d).2.2.1 ∈ am_TS) (hfo : (T d).2.2.2 = true → (T d).1 = (am_name y).cls) (hR : am_isR (am_ft ci d) = true) (hi : am_sh[i]? = some (ci, 0)) (hin : i < n) (X : ac_run y n0 n1 q n (pc + 3) ls st (I, J, am_up R i d (some o))) : ac_run y n0 n1 q n pc ls (.ref o :: .ref i :: st) (I, J, R) := by
  intro l D cy α0 α adV B0 p e s m args below meth c H locs rl hF hI' hkk hB hag hh hS hl
  obtain ⟨hx, hb, hml, hret, hlocks, hown, hts⟩ := id hF
  obtain ⟨f1, f2, f3, f4⟩ := am_ft_ok hcl
  have hi' : (am_sh.take n)[i]? = some (ci, 0) := by
    rw [ac_tk hin]
    exact hi
  have hg := am_ws_get (cy := cy) (α := α) (σ := (I, J, R)) hi'
  rw [am_cell_O f1] at hg
  have hn : narrow (am_ft ci d) (.ref (α o)) = .ref (α o) := by
    revert hR
    cases am_ft ci d <;> intro hR <;> first | rfl | cases hR
  have hf : fits (am_ft ci d) (.ref (α o)) = true := by
    revert hR
    cases am_ft ci d <;> intro hR <;> first | rfl | cases hR
  have hk : ∀ (H1 : Heap) (locs1 : List Loc), va_P D am_cl ((am_ws cy α (am_sh.take n) (I, J, R)).set i (α i, .inr (ci, ((List.range (am_nf ci)).map (am_fv α (I, J, R) i ci)).set d (.ref (α o))))) H1 → va_D (am_A B0) ((am_ws cy α (am_sh.take n) (I, J, R)).set i (α i, .inr (ci, ((List.range (am_nf ci)).map (am_fv α (I, J, R) i ci)).set d (.ref (α o))))) → va_S (am_A B0) s.heap H1 locs1 → W p l e (ac_room y n0 n1) s m args below meth c H1 locs1 (n - n0) (ac_sl n - ac_sl n0) (MQ below (ac_Qc D cy α0 B0 n0 n1 q) args s (n1 - n0) (ac_sl n1 - ac_sl n0) (am_A B0)) (F0 m (pc + 3) rl (st.map (am_cv α))) := by
    intro H1 locs1 hP hD hS1
    refine X l D cy α0 α adV B0 p e s m args below meth c H1 locs1 rl hF hI' hkk hB hag (hh.put hS (σ' := (I, J, am_up R i d (some o))) hi' (fun j hj => ⟨rfl, rfl, am_row_up hj⟩) (am_S_eq hB hS hS1) ?_ ?_) hS1 hl
    · rw [am_cell_O f1, ac_lst_setR (by rw [f2]; exact hd) hR]
      exact hP
    · rw [am_cell_O f1, ac_lst_setR (by rw [f2]; exact hd) hR]
      exact hD
  cases hfin : (T d).2.2.2 with
  | false => exact va_put (ci := ci) (v := .ref (α o)) hx hb hts (am_cls hcl) (am_ft ci) f3 f4 hown hkk.1 hh.1 hh.2.1 hS i hg hcl d hd (hts _ hlk) (fun x hx => hx) hfin (f3 d hd) hn hf (by rw [List.length_map, List.length_range, f2]; exact hd) hdg hk
  | true => exact va_putF (ci := ci) (v := .ref (α o)) hx hb hts (am_cls hcl) (am_ft ci) f3 f4 hown hkk.1 hh.1 hh.2.1 hS i hg hcl d hd (hts _ hlk) (fun x hx => hx) hfin hI'.1 (hfo hfin) (f3 d hd) hn hf (by rw [List.length_map, List.length_range, f2]; exact hd) hdg hk
theorem ac_r_obj {y n0 n1 n idx i : Nat} {q : am_S → Prop} {pc : Nat} {ls : am_L} {st : List Value} {σ : am_S} (hdg : decode (am_bytes y) pc = .ok (.invokespecial idx, 3)) (hlk : Cond.methodLink (am_name y).cls idx Lib.objectInit ∈ am_TS) (hinst : Cond.instanceMethod Lib.objectInit ∈ am_TS) (hcode : Cond.code Lib.objectInit ⟨#[0xb1]⟩ 1 none ∈ am_TS) (hfr : 1 ≤ am_fr y) (hlo : 20 ≤ am_lo y) (hw : am_words st ≤ 8) (X : ac_run y n0 n1 q n (pc + 3) ls st σ) : ac_run y n0 n1 q n pc ls (.ref i :: st) σ := by
  intro l D cy α0 α adV B0 p e s m args below meth c H locs rl hF hI' hkk hB hag hh hS hl
  obtain ⟨hx, hb, hml, hret, hlocks, hown, hts⟩ := id hF
  refine W.objInit hx hb hown (hts _ hlk) (hts _ hinst) (hts _ hcode) (g := F0 m pc rl (.ref (α i) :: st.map (am_cv α))) rfl (hl.2.1.trans hml.symm) rfl hdg hfr ?_ (X l D cy α0 α adV B0 p e s m args below meth c H locs rl hF hI' hkk hB hag hh hS hl)
  have h1 := am_words_cv α st
  show 2 * 0 + ((st.map (am_cv α)).map fun v => v.category).sum + 12 ≤ am_lo y
  omega
