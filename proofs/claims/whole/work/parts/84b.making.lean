/-! places of a constructor that make a cell -/
def ac_lowS (n : Nat) (st : List Value) : Prop := ∀ i, Value.ref i ∈ st → i < n
def ac_lowL (n : Nat) (ls : am_L) : Prop := ∀ i, some (Value.ref i) ∈ ls → i < n
theorem ac_cv1 {α α' : Nat → Nat} {n : Nat} (ha : ∀ i, i < n → α' i = α i) {v : Value} (h : ∀ i, v = .ref i → i < n) : am_cv α' v = am_cv α v := by
  cases v with
  | ref i =>
    show Value.ref (α' i) = Value.ref (α i)
    rw [ha i (h i rfl)]
  | _ => rfl
theorem ac_cvs {α α' : Nat → Nat} {n : Nat} (ha : ∀ i, i < n → α' i = α i) {st : List Value} (h : ac_lowS n st) : st.map (am_cv α') = st.map (am_cv α) := by
  apply List.map_congr_left
  intro v hv
  exact ac_cv1 ha (fun i e => h i (by rw [← e]; exact hv))
theorem ac_lrs {α α' : Nat → Nat} {n k : Nat} (ha : ∀ i, i < n → α' i = α i) {ls : am_L} {rl : Array Slot} (h : ac_lowL n ls) (hl : am_lr α ls rl k) : am_lr α' ls rl k := by
  refine ⟨hl.1, hl.2.1, hl.2.2.1, fun i v hv => ?_⟩
  rw [ac_cv1 ha (fun j e => h j (by rw [← e]; exact List.mem_of_getElem? hv))]
  exact hl.2.2.2 i v hv
theorem ac_sl_le {n : Nat} : ∀ {m : Nat}, n ≤ m → ac_sl n ≤ ac_sl m := by
  intro m
  induction m with
  | zero =>
    intro h
    rw [show n = 0 by omega]
    exact Nat.le_refl _
  | succ m ih =>
    intro h
    by_cases e : n = m + 1
    · rw [e]
      exact Nat.le_refl _
    · have h1 := ih (by omega)
      cases hx : am_sh[m]? with
      | some x =>
        have := ac_sl_next hx
        omega
      | none =>
        have hl : am_sh.length ≤ m := List.getElem?_eq_none_iff.mp hx
        have e1 : am_sh.take (m + 1) = am_sh.take m := by
          rw [List.take_of_length_le (by omega), List.take_of_length_le hl]
        unfold ac_sl at h1 ⊢
        rw [e1]
        exact h1
theorem ac_sh_len : am_sh.length = 255 := by decide +kernel
def ac_put (α : Nat → Nat) (n h M : Nat) : Nat → Nat := fun i => if n ≤ i ∧ i < M then h + (i - n) else α i
theorem ac_put_lo {α : Nat → Nat} {n h M i : Nat} (hi : i < n) : ac_put α n h M i = α i := if_neg (by omega)
theorem ac_put_hi {α : Nat → Nat} {n h M i : Nat} (hi : M ≤ i) : ac_put α n h M i = α i := if_neg (by omega)
theorem ac_put_in {α : Nat → Nat} {n h M i : Nat} (h1 : n ≤ i) (h2 : i < M) : ac_put α n h M i = h + (i - n) := if_pos ⟨h1, h2⟩
theorem ac_put_n {α : Nat → Nat} {n h : Nat} : ac_put α n h (n + 1) n = h := by
  rw [ac_put_in (Nat.le_refl _) (by omega)]
  omega
theorem ac_r_new {y n0 n1 n ci N index : Nat} {q : am_S → Prop} {C : String} {T : u_T} {pc : Nat} {ls : am_L} {st : List Value} {σ : am_S} (hdg : decode (am_bytes y) pc = .ok (.new index, 3)) (hcl : am_cl[ci]? = some (C, T, N)) (hlk : Cond.classLink (am_name y).cls index C ∈ am_TS) (hinst : Cond.instantiable C N ∈ am_TS) (hini : Cond.initialized C ∈ am_TS) (hsh : am_sh[n]? = some (ci, 0)) (hn0 : n0 ≤ n) (hn1 : n + 1 ≤ n1) (hI : ∀ j, σ.1 n j = 0) (hR : ∀ j, σ.2.2 n j = none) (hdv : ∀ j, j < N → defaultValue (am_ft ci j) = if am_isR (am_ft ci j) = true then .null else .int 0) (hlow : ac_low n σ) (hls : ac_lowL n ls) (hst : ac_lowS n st) (X : ac_run y n0 n1 q (n + 1) (pc + 3) ls (.ref n :: st) σ) : ac_run y n0 n1 q n pc ls st σ := by
  intro l D cy α0 α adV B0 p e s m args below meth c H locs rl hF hI' hkk hB hag hh hS hl
  obtain ⟨hx, hb, hml, hret, hlocks, hown, hts⟩ := id hF
  have hlt : n < 255 := by
    have := ac_lt hsh
    rw [ac_sh_len] at this
    exact this
  have ha : ∀ i, i < n → ac_put α n H.size (n + 1) i = α i := fun i hi => ac_put_lo hi
  have ht : ∀ t, t < 5 → ac_put α n H.size (n + 1) (am_SB + t) = α (am_SB + t) := fun t _ => ac_put_hi (by unfold am_SB; omega)
  have hz := am_ft_ok hcl
  have hsz := ac_sl_next hsh
  have hss : ac_sz (ci, 0) = N := by
    unfold ac_sz
    rw [if_pos hz.1, hz.2.1]
  have hm0 := ac_sl_le hn0
  have hm1 := ac_sl_le hn1
  rw [hss] at hsz
  rw [← ac_cvs ha hst]
  refine ac_new (C := C) (T := T) (N := N) (ci := ci) (index := index) hx hb hts hown hcl hlk hinst hini hsh ac_put_n hI hR hdv (by show _ ≤ n1 - n0; omega) (by show _ ≤ ac_sl n1 - ac_sl n0; omega) hdg (ac_kk_ren ht hkk) (ac_hr_ren ha ht hlow hh) hB hS (fun H1 hh1 hS1 => ?_)
  have hw := X l D cy α0 (ac_put α n H.size (n + 1)) adV B0 p e s m args below meth c H1 locs rl hF hI' (ac_kk_ren ht hkk) hB (fun i hi => by
    rw [← hag i hi]
    rcases hi with hi | hi
    · exact ac_put_lo (by omega)
    · exact ac_put_hi (by omega)) hh1 hS1 (ac_lrs ha hls hl)
  rw [show n + 1 - n0 = n - n0 + 1 by omega, show ac_sl (n + 1) - ac_sl n0 = ac_sl n - ac_sl n0 + N by omega] at hw
  exact hw
theorem ac_r_newa {y n0 n1 n k N : Nat} {atype : ArrayType} {q : am_S → Prop} {x : Int32} {pc : Nat} {ls : am_L} {st : List Value} {σ : am_S} (hdg : decode (am_bytes y) pc = .ok (.newarray atype, 2)) (harr : Cond.arrayClass (newarray.typeOf atype) ∈ am_TS) (ht : ∀ cy : Nat → ClassId, (am_tys cy)[k - 12]? = some (cy k, newarray.typeOf atype)) (hk : 12 ≤ k) (hsh : am_sh[n]? = some (k, N)) (hn0 : n0 ≤ n) (hn1 : n + 1 ≤ n1) (hxN : x = nI N) (hN : N < 2 ^ 31) (hbytes : N * componentBytes (newarray.typeOf atype) ≤ 536870912) (hc : ∀ (cy : Nat → ClassId) (α : Nat → Nat), ∃ a0 : vp_A, am_cell cy α σ n (k, N) = .inl (cy k, a0) ∧ vp_cell (cy k) a0 = arrV (cy k) N (fun _ => defaultValue (newarray.typeOf atype))) (hlow : ac_low n σ) (hls : ac_lowL n ls) (hst : ac_lowS n st) (X : ac_run y n0 n1 q (n + 1) (pc + 2) ls (.ref n :: st) σ) : ac_run y n0 n1 q n pc ls (.int x :: st) σ := by
  intro l D cy α0 α adV B0 p e s m args below meth c H locs rl hF hI' hkk hB hag hh hS hl
  obtain ⟨hx, hb, hml, hret, hlocks, hown, hts⟩ := id hF
  have hlt : n < 255 := by
    have := ac_lt hsh
    rw [ac_sh_len] at this
    exact this
  have ha : ∀ i, i < n → ac_put α n H.size (n + 1) i = α i := fun i hi => ac_put_lo hi
  have htt : ∀ t, t < 5 → ac_put α n H.size (n + 1) (am_SB + t) = α (am_SB + t) := fun t _ => ac_put_hi (by unfold am_SB; omega)
  have hsz := ac_sl_next hsh
  have hss : ac_sz (k, N) = N := by
    unfold ac_sz
    rw [if_neg (by show ¬ k < 12; omega)]
  have hm0 := ac_sl_le hn0
  have hm1 := ac_sl_le hn1
  rw [hss] at hsz
  obtain ⟨a0, hc1, hc2⟩ := hc cy (ac_put α n H.size (n + 1))
  show W p l e _ s m args below meth c H locs _ _ _ (F0 m pc rl (.int x :: st.map (am_cv α)))
  rw [← ac_cvs ha hst]
  refine ac_newa (k := k) (N := N) hx hb hts harr (ht cy) hsh ac_put_n hc1 hc2 hxN hN hbytes (by show _ ≤ n1 - n0; omega) (by show _ ≤ ac_sl n1 - ac_sl n0; omega) hdg (ac_kk_ren htt hkk) (ac_hr_ren ha htt hlow hh) hB hS (fun H1 hh1 hS1 => ?_)
  have hw := X l D cy α0 (ac_put α n H.size (n + 1)) adV B0 p e s m args below meth c H1 locs rl hF hI' (ac_kk_ren htt hkk) hB (fun i hi => by
    rw [← hag i hi]
    rcases hi with hi | hi
    · exact ac_put_lo (by omega)
    · exact ac_put_hi (by omega)) hh1 hS1 (ac_lrs ha hls hl)
  rw [show n + 1 - n0 = n - n0 + 1 by omega, show ac_sl (n + 1) - ac_sl n0 = ac_sl n - ac_sl n0 + N by omega] at hw
  exact hw
theorem ac_r_anew {y n0 n1 n k N index : Nat} {C : String} {q : am_S → Prop} {x : Int32} {pc : Nat} {ls : am_L} {st : List Value} {σ : am_S} (hdg : decode (am_bytes y) pc = .ok (.anewarray index, 3)) (hlk : Cond.classLink (am_name y).cls index C ∈ am_TS) (hover : ∀ (A : Array Value) (s : State), ac_nk s → (Cond.arrayOver (.object C)).before A s = true) (ht : ∀ cy : Nat → ClassId, (am_tys cy)[k - 12]? = some (cy k, .object C)) (hk : 17 ≤ k) (hsh : am_sh[n]? = some (k, N)) (hn0 : n0 ≤ n) (hn1 : n + 1 ≤ n1) (hxN : x = nI N) (hN : N * 4 ≤ 536870912) (hR : ∀ j, σ.2.2 n j = none) (hlow : ac_low n σ) (hls : ac_lowL n ls) (hst : ac_lowS n st) (X : ac_run y n0 n1 q (n + 1) (pc + 3) ls (.ref n :: st) σ) : ac_run y n0 n1 q n pc ls (.int x :: st) σ := by
  intro l D cy α0 α adV B0 p e s m args below meth c H locs rl hF hI' hkk hB hag hh hS hl
  obtain ⟨hx, hb, hml, hret, hlocks, hown, hts⟩ := id hF
  have hlt : n < 255 := by
    have := ac_lt hsh
    rw [ac_sh_len] at this
    exact this
  have ha : ∀ i, i < n → ac_put α n H.size (n + 1) i = α i := fun i hi => ac_put_lo hi
  have htt : ∀ t, t < 5 → ac_put α n H.size (n + 1) (am_SB + t) = α (am_SB + t) := fun t _ => ac_put_hi (by unfold am_SB; omega)
  have hsz := ac_sl_next hsh
  have hss : ac_sz (k, N) = N := by
    unfold ac_sz
    rw [if_neg (by show ¬ k < 12; omega)]
  have hm0 := ac_sl_le hn0
  have hm1 := ac_sl_le hn1
  rw [hss] at hsz
  show W p l e _ s m args below meth c H locs _ _ _ (F0 m pc rl (.int x :: st.map (am_cv α)))
  rw [← ac_cvs ha hst]
  refine ac_anew (k := k) (N := N) hx hb hts hown hlk (hover _ _ hI'.2) hk (ht cy) hsh ac_put_n hR hxN hN (by show _ ≤ n1 - n0; omega) (by show _ ≤ ac_sl n1 - ac_sl n0; omega) hdg (ac_kk_ren htt hkk) (ac_hr_ren ha htt hlow hh) hB hS (fun H1 hh1 hS1 => ?_)
  have hw := X l D cy α0 (ac_put α n H.size (n + 1)) adV B0 p e s m args below meth c H1 locs rl hF hI' (ac_kk_ren htt hkk) hB (fun i hi => by
    rw [← hag i hi]
    rcases hi with hi | hi
    · exact ac_put_lo (by omega)
    · exact ac_put_hi (by omega)) hh1 hS1 (ac_lrs ha hls hl)
  rw [show n + 1 - n0 = n - n0 + 1 by omega, show ac_sl (n + 1) - ac_sl n0 = ac_sl n - ac_sl n0 + N by omega] at hw
  exact hw
