/-! what holds at the law's entry: classes, array classes, texts, statics -/
theorem al_tb {c i : Nat} {w : Cond} (h : (am_tb c)[i]? = some w) : w ∈ lw_tbl := by
  have hm : w ∈ am_tb c := List.mem_of_getElem? h
  unfold lw_tbl tables_1
  match c, hm with
  | 0, hm => exact List.mem_append_right _ (List.mem_append_left _ hm)
  | 1, hm => exact List.mem_append_right _ (List.mem_append_right _ (List.mem_append_left _ hm))
  | 2, hm => exact List.mem_append_right _ (List.mem_append_right _ (List.mem_append_right _ (List.mem_append_left _ hm)))
  | 3, hm => exact List.mem_append_right _ (List.mem_append_right _ (List.mem_append_right _ (List.mem_append_right _ (List.mem_append_left _ hm))))
  | 4, hm => exact List.mem_append_right _ (List.mem_append_right _ (List.mem_append_right _ (List.mem_append_right _ (List.mem_append_right _ (List.mem_append_left _ hm)))))
  | 5, hm => exact List.mem_append_right _ (List.mem_append_right _ (List.mem_append_right _ (List.mem_append_right _ (List.mem_append_right _ (List.mem_append_right _ hm)))))
  | n + 6, hm => exact List.mem_append_left _ hm
def al_ty : Nat → FieldType
  | 12 => .byte
  | 13 => .char
  | 14 => .int
  | 15 => .long
  | 16 => .boolean
  | 17 => .object RX7
  | 18 => .object RX8
  | _ => .array .int
theorem al_prim {s : State} {args : Array Value} {ty : FieldType} (hr : ∀ c : ClassId, s.vm.findClass ("[" ++ ty.toString) = some c → va_RA s c ty) (h : (Cond.arrayClass ty).before args s = true) : ∃ c : ClassId, ArrOfT s c ty ∧ va_RA s c ty := by
  obtain ⟨cA, kA, comp, h1, h2, h3⟩ := Cond.arrayClass_spec h
  exact ⟨cA, fun n z => ⟨fun k h => (by cases h), kA, h2, comp, h3⟩, hr cA h1⟩
theorem al_obj {s : State} {args : Array Value} {C : String} (h : (Cond.arrayOver (.object C)).before args s = true) : ∃ c : ClassId, ArrOfT s c (.object C) ∧ va_RA s c (.object C) := by
  obtain ⟨comp, c, k, h1, h2, h3, h4, h5⟩ := Cond.arrayOver_spec h
  exact ⟨c, fun n z => ⟨fun k h => (by cases h), k, h3, comp, h4⟩, ⟨k, comp, h3, h4, h1, h5⟩⟩
theorem al_ovi {s : State} {args : Array Value} {t : FieldType} (h : (Cond.arrayOver (.array t)).before args s = true) : ∃ c : ClassId, ArrOfT s c (.array t) ∧ va_RA s c (.array t) := by
  obtain ⟨comp, c, k, h1, h2, h3, h4, h5⟩ := arrayOverA_spec h
  exact ⟨c, fun n z => ⟨fun k h => (by cases h), k, h3, comp, h4⟩, h5⟩
theorem al_tys {s : State} {args : Array Value} (h : ∀ w ∈ lw_tbl, w.before args s = true) (k : Nat) : ∃ c : ClassId, ArrOfT s c (al_ty k) ∧ va_RA s c (al_ty k) := by
  unfold al_ty
  split
  · exact al_prim (fun c h => h) (h _ (al_tb (c := 0) (i := 190) (by decide +kernel)))
  · exact al_prim (fun c h => h) (h _ (al_tb (c := 0) (i := 123) (by decide +kernel)))
  · exact al_prim (fun c h => h) (h _ (al_tb (c := 0) (i := 56) (by decide +kernel)))
  · exact al_prim (fun c h => h) (h _ (al_tb (c := 1) (i := 16) (by decide +kernel)))
  · exact al_prim (fun c h => h) (h _ (al_tb (c := 0) (i := 165) (by decide +kernel)))
  · exact al_obj (h _ (al_tb (c := 0) (i := 233) (by decide +kernel)))
  · exact al_obj (h _ (al_tb (c := 0) (i := 93) (by decide +kernel)))
  · exact al_ovi (h _ (al_tb (c := 0) (i := 41) (by decide +kernel)))
theorem al_K {s : State} {args : Array Value} (h : ∀ w ∈ lw_tbl, w.before args s = true) : ∃ (D : va_G) (cy : Nat → ClassId), va_K D am_cl (am_tys cy) s := by
  have hts := al_hts h
  have h0 : ∀ c : Nat, ∃ d : ClassId × (Nat → Nat), ∀ q : vw_C, am_cl[c]? = some q → u_Kn s q.1 q.2.1 q.2.2 d.1 d.2 := by
    intro c
    cases hc : am_cl[c]? with
    | none => exact ⟨(0, fun _ => 0), fun q hq => by cases hq⟩
    | some q =>
      obtain ⟨C, T, N⟩ := q
      obtain ⟨cC, iS, hK⟩ := u_known (n := N) hts (am_cls hc) (hts _ (ac_mk hc).1)
      exact ⟨(cC, iS), fun q hq => by cases hq; exact hK⟩
  obtain ⟨d, hd⟩ := Classical.axiomOfChoice h0
  obtain ⟨cy, hcy⟩ := Classical.axiomOfChoice (al_tys h)
  refine ⟨(fun c => (d c).1, fun c => (d c).2), cy, fun c q hq => hd c q hq, fun k q hq => ?_⟩
  unfold am_tys at hq
  match k, hq with
  | 0, hq => cases hq; exact hcy 12
  | 1, hq => cases hq; exact hcy 13
  | 2, hq => cases hq; exact hcy 14
  | 3, hq => cases hq; exact hcy 15
  | 4, hq => cases hq; exact hcy 16
  | 5, hq => cases hq; exact hcy 17
  | 6, hq => cases hq; exact hcy 18
  | 7, hq => cases hq; exact hcy 19
  | n + 8, hq => simp at hq
theorem al_nk {s : State} {args : Array Value} (h : ∀ w ∈ lw_tbl, w.before args s = true) : ac_nk s := by
  refine ⟨fun x hx => ?_, fun A => ⟨va_AO.use (va_AO.of (h _ (al_tb (c := 0) (i := 233) (by decide +kernel)))), va_AO.use (va_AO.of (h _ (al_tb (c := 0) (i := 93) (by decide +kernel)))), over_moved (Vm.Alike.refl s.vm) (h _ (al_tb (c := 0) (i := 41) (by decide +kernel)))⟩⟩
  have hm : Cond.methodLinkNest x.1 x.2.1 x.2.2.1 x.2.2.2 ∈ tables_1_1 := (by decide +kernel : ∀ x ∈ ac_nl, Cond.methodLinkNest x.1 x.2.1 x.2.2.1 x.2.2.2 ∈ tables_1_1) x hx
  obtain ⟨i, hi⟩ := List.mem_iff_getElem?.mp hm
  exact va_Nw.of rfl (h _ (al_tb (c := 0) (i := i) hi))
abbrev al_fl : List Cond := flatC (Jvm.Cond.and given_1 narrow_1)
abbrev al_tm (i : Nat) : Term := .string RX5 (am_si i)
theorem al_t1 : ∀ i, i < 5 → Cond.exactly (al_tm i) "java/lang/String" ∈ al_fl := by decide +kernel
theorem al_t2 : ∀ i, i < 5 → Cond.eq (.field (al_tm i) "java/lang/String" "coder" "B") (.int 0) ∈ al_fl := by decide +kernel
theorem al_t3 : ∀ i, i < 5 → Cond.arrayOf (.field (al_tm i) "java/lang/String" "value" "[B") .byte ∈ al_fl := by decide +kernel
theorem al_t4 : ∀ i, i < 5 → Cond.eq (.length (.field (al_tm i) "java/lang/String" "value" "[B")) (.int (Int32.ofNat (am_len.getD i 0))) ∈ al_fl := by decide +kernel
theorem al_t5 : ∀ i, i < 5 → ∀ j, j < am_len.getD i 0 → Cond.eq (.elem (.field (al_tm i) "java/lang/String" "value" "[B") (.int (Int32.ofNat j))) (.int ((am_byt.getD i []).getD j 0)) ∈ al_fl := by decide +kernel
theorem al_t6 : ∀ i, i < 5 → ∀ j, j < 5 → i ≠ j → (Cond.not (Cond.eq (al_tm i) (al_tm j)) ∈ al_fl ∨ Cond.not (Cond.eq (al_tm j) (al_tm i)) ∈ al_fl) := by decide +kernel
theorem al_t7 : ∀ i, i < 5 → Cond.stringRef RX5 (am_si i) (am_sx i) ∈ tables_1_3 := by decide +kernel
theorem al_stat {s : State} {args : Array Value} (h : ∀ w ∈ lw_tbl, w.before args s = true) (hg : (Jvm.Cond.and given_1 narrow_1).before args s = true) : ∃ adK adV : Nat → Nat, am_st (fun i => adK (i - am_SB)) adV s.heap.size s s.heap ∧ ∀ t, t < 5 → vk_R RX5 (am_si t) (am_sx t) (adK t) s := by
  have hs := flat_of_before _ hg
  have hA : ∀ a : Nat, a < s.heap.size → ¬ am_A s.heap.size a := fun a ha hq => absurd (show s.heap.size ≤ a from hq) (by omega)
  obtain ⟨adK, adV, h1, h2⟩ := vk_Sof (N := 5) (tm := al_tm) (len := am_len) (byt := am_byt) (A := am_A s.heap.size) (args := args) (s := s) (by decide +kernel) (fun i hi => hs _ (al_t1 i hi)) (fun i hi => hs _ (al_t2 i hi)) (fun i hi => hs _ (al_t3 i hi)) (fun i hi => hs _ (al_t4 i hi)) (fun i hi j hj => hs _ (al_t5 i hi j hj)) (fun i j hi hj hn => (al_t6 i hi j hj hn).elim (fun q => Or.inl (hs _ q)) (fun q => Or.inr (hs _ q))) hA
  refine ⟨adK, adV, ⟨?_, ?_, ?_⟩, fun t ht => ?_⟩
  · have e : (fun t => (fun i => adK (i - am_SB)) (am_SB + t)) = adK := by
      funext t
      show adK (am_SB + t - am_SB) = adK t
      rw [Nat.add_sub_cancel_left]
    rw [e]
    exact h1
  · exact va_Zof (h _ (al_tb (c := 2) (i := 123) (by decide +kernel))) (h _ (al_tb (c := 0) (i := 16) (by decide +kernel))) (va_eqt (hs _ (by decide +kernel))) hA
  · exact va_Zqof (h _ (al_tb (c := 2) (i := 139) (by decide +kernel))) (h _ (al_tb (c := 0) (i := 18) (by decide +kernel))) (hs _ (by decide +kernel)) hA
  · obtain ⟨i, hi⟩ := List.mem_iff_getElem?.mp (al_t7 t ht)
    exact vk_R.of (h _ (al_tb (c := 2) (i := i) hi)) (h2 t ht)
