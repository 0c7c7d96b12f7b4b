/-! the JDK's String.length and String.charAt on the five texts -/
def sj_Q (r : Option Value) : Array Value → State → Outcome → State → Prop := fun _ st o t => o = .returned r ∧ t.heap = st.heap
def sj_P (α adV : Nat → Nat) (B0 : Nat) (as : List Value) : Array Value → State → Prop := fun v U => v = as.toArray ∧ am_st α adV B0 U U.heap
abbrev sj_rm (fr lo : Nat) : Room := { frames := fr, cells := 0, slots := 0, locals := lo }
def sj_M (l : Launch) (α adV : Nat → Nat) (B0 : Nat) (y : MethodName) (cc : ByteArray) (n : Nat) (ret : Option FieldType) (fr lo : Nat) (as : List Value) (r : Option Value) : Prop :=
  Met l y (Cond.code y cc n ret :: am_TS) (sj_rm fr lo) (sj_P α adV B0 as) (sj_Q r) 0 0 (fun _ => False)
theorem sj_blind {α adV : Nat → Nat} {B0 : Nat} {as : List Value} : FrameBlind (sj_P α adV B0 as) := by
  intro a U g mk q
  exact ⟨q.1, am_st.moved (u := U) (U := U.calling g mk a) (Vm.Alike.refl U.vm) q.2⟩
theorem sj_of {l : Launch} {α adV : Nat → Nat} {B0 : Nat} {y : MethodName} {cc : ByteArray} {n : Nat} {ret : Option FieldType} {fr lo : Nat} {as : List Value} {r : Option Value} (hy : Jvm.plainName y.cls = true) (hn : (lg_sl as).length ≤ n)
    (body : ∀ (p : Program) (e : Env) (s : State) (m : MethodId) (args : Array Value) (below : List Frame) (meth : Method) (c : Code) (rl : Array Slot), p.tables.exec = Jvm.exec → c.code = cc → c.maxLocals = n → meth.sig.returnType = ret → meth.locks = false → s.vm.findClass y.cls = some m.cls → (∀ w ∈ am_TS, w.before args s = true) → am_st α adV B0 s s.heap → lv_has rl n (lv_args 0 as) →
      W p l e (sj_rm fr lo) s m args below meth c s.heap [] 0 0 (MQ below (sj_Q r) args s 0 0 (fun _ => False)) (F0 m 0 rl [])) : sj_M l α adV B0 y cc n ret fr lo as r := by
  refine Met.ofW (cc := cc) (maxL := n) (ret := ret) hy rfl ?_
  intro p e s m args below meth c s₁ B hml hv
  obtain ⟨rfl, hh⟩ := hv
  have hts := atoms_spec (ws := Cond.code y cc n ret :: am_TS) B.pre
  rw [lg_entry_eq]
  exact body p e s m _ below meth c _ B.exec B.bytes hml B.returns B.notSynchronized (findClass_of_methodNamed B.named) (fun w hw => hts w (List.mem_cons_of_mem _ hw)) hh (lv_entry as hn)
section SJ
variable {p : Program} {l : Launch} {e : Env} {R : Room} {s : State} {m : MethodId} {args : Array Value} {below : List Frame} {meth : Method} {c : Code} {cells slots : Nat} {Q : State → Prop}
variable {α adV : Nat → Nat} {B0 : Nat} {own : String} {cc bytes : ByteArray} {nL maxL index fr lo pc : Nat} {y : MethodName} {ret : Option FieldType} {r : Option Value} {H : Heap} {locs : List Loc} {rl : Array Slot} {rest : List Value}
theorem sj_after {st0 : List Value} {a : Array Value} (hr : va_Run p l e R s m args below meth c H locs cells slots 0 0 (F0 m pc rl st0) rest (sj_Q r a) (fun _ => False)) (kk : W p l e R s m args below meth c H locs cells slots Q (F0 m (pc + 3) rl (r.toList ++ rest))) : W p l e R s m args below meth c H locs cells slots Q (F0 m pc rl st0) := by
  intro T hT X
  obtain ⟨v, st₀, t, T', L, g0, X', gL, e1, e2, ⟨hv, hq⟩, st⟩ := hr T hT X
  have hL : L = [] := List.eq_nil_iff_forall_not_mem.mpr (fun x hx => gL x hx)
  subst hL
  rw [List.append_nil] at X'
  cases hv
  obtain ⟨t2, a1, b1⟩ := kk T' (e1.trans (hq.trans g0)) X'
  exact ⟨t2, st t2 a1, b1⟩
theorem sj_good (hcode : Cond.code y bytes maxL ret ∈ am_TS) : GoodIn am_TS (Cond.code y bytes maxL ret :: am_TS) := fun w hw => by
  rcases List.mem_cons.mp hw with rfl | hw
  · exact ⟨hcode, am_TS_good hcode⟩
  · exact ⟨hw, am_TS_good hw⟩
theorem sj_callS {as : List Value} (hM : sj_M l α adV B0 y bytes maxL ret fr lo as r) (S : CallFix p m c cc nL s args am_TS own) (hst : am_st α adV B0 s H) (hcode : Cond.code y bytes maxL ret ∈ am_TS) (hini : Cond.initialized y.cls ∈ am_TS) (hlk : Cond.methodLink own index y ∈ am_TS) (hstat : Cond.static y ∈ am_TS) (hd : y.cls ≠ "java/lang/invoke/MethodHandle" ∧ y.cls ≠ "java/lang/invoke/VarHandle" ∧ (parseMethodDescriptor y.desc).map (fun d => d.parameters.length) = some as.length) (hR : fr + 1 ≤ R.frames ∧ 8 + (maxL + 11) + lo ≤ R.locals) (hcs : cells ≤ R.cells ∧ slots ≤ R.slots) (hrl : rl.size = nL) (hw : (rest.map fun v => v.category).sum ≤ 8) (hdg : decode cc pc = .ok (.invokestatic index, 3))
    (kk : W p l e R s m args below meth c H locs cells slots Q (F0 m (pc + 3) rl (r.toList ++ rest))) : W p l e R s m args below meth c H locs cells slots Q (F0 m pc rl (as.reverse ++ rest)) := by
  have hts := S.2.2.2.2
  exact sj_after (va_runS (g := F0 m pc rl (as.reverse ++ rest)) S hM ⟨callB_of (rm := sj_rm fr lo) as.length hts (sj_good hcode) rfl rfl rfl (hts _ hini) (hts _ hlk) hd hR, hts _ hstat⟩ ⟨sj_blind, fun U hU hW => ⟨rfl, by rw [hU]; exact hst.moved hW.alike⟩⟩ rfl rfl hrl rfl (lv_room hw) hdg ⟨by omega, by omega⟩) kk
theorem sj_callV {b : Nat} {as : List Value} (hM : sj_M l α adV B0 y bytes maxL ret fr lo (.ref b :: as) r) (S : CallFix p m c cc nL s args am_TS own) (hst : am_st α adV B0 s H) (hrec : ∃ cell : Cell, H[b]? = some cell ∧ cell.vm.isStatics = false ∧ s.vm.findClass y.cls = some cell.cls) (hcode : Cond.code y bytes maxL ret ∈ am_TS) (hini : Cond.initialized y.cls ∈ am_TS) (hlk : Cond.methodLink own index y ∈ am_TS) (hins : Cond.instanceMethod y ∈ am_TS) (hsel : Cond.selects y.cls y y ∈ am_TS) (hd : y.cls ≠ "java/lang/invoke/MethodHandle" ∧ y.cls ≠ "java/lang/invoke/VarHandle" ∧ (parseMethodDescriptor y.desc).map (fun d => d.parameters.length) = some as.length) (hR : fr + 1 ≤ R.frames ∧ 8 + (maxL + 11) + lo ≤ R.locals) (hcs : cells ≤ R.cells ∧ slots ≤ R.slots) (hrl : rl.size = nL) (hw : (rest.map fun v => v.category).sum ≤ 8) (hdg : decode cc pc = .ok (.invokevirtual index, 3))
    (kk : W p l e R s m args below meth c H locs cells slots Q (F0 m (pc + 3) rl (r.toList ++ rest))) : W p l e R s m args below meth c H locs cells slots Q (F0 m pc rl (as.reverse ++ .ref b :: rest)) := by
  have hts := S.2.2.2.2
  exact sj_after (va_runV (C := y.cls) (g := F0 m pc rl (as.reverse ++ .ref b :: rest)) S hM ⟨callB_of (rm := sj_rm fr lo) as.length hts (sj_good hcode) rfl rfl rfl (hts _ hini) (hts _ hlk) hd hR, hts _ hins, hts _ hsel⟩ ⟨sj_blind, hrec, fun U hU hW => ⟨rfl, by rw [hU]; exact hst.moved hW.alike⟩⟩ rfl rfl hrl rfl (lv_room hw) hdg ⟨by omega, by omega⟩) kk
theorem sj_recv (hst : am_st α adV B0 s H) {t : Nat} (ht : t < 5) : ∃ cell : Cell, H[α (am_SB + t)]? = some cell ∧ cell.vm.isStatics = false ∧ s.vm.findClass RJ0 = some cell.cls := by
  obtain ⟨cell, h1, h2, h3, -⟩ := (hst.1.1 t ht).1
  exact ⟨cell, h1, h2, h3⟩
end SJ
theorem sj_i0 : Cond.initialized RJ0 ∈ am_TS := am_w_in (c := 0) (i := 16) (by decide +kernel)
theorem sj_i1 : Cond.initialized RJ1 ∈ am_TS := am_w_in (c := 0) (i := 17) (by decide +kernel)
theorem sj_i3 : Cond.initialized RJ3 ∈ am_TS := am_w_in (c := 0) (i := 18) (by decide +kernel)
section SJ
variable {l : Launch} {α adV : Nat → Nat} {B0 : Nat}
theorem sj_pre {i n : Int32} {w : Value} (hw : w.category = 1) (h0 : ¬ i < 0) (h1 : i < n) : sj_M l α adV B0 yJ3_checkIndex_8e157 cJ3_checkIndex_8e157 3 (some .int) 0 0 [.int i, .int n, w] (some (.int i)) := by
  refine sj_of (by decide +kernel) (by simp only [lg_sl, List.flatMap_cons, List.flatMap_nil, hw]; exact Nat.le_refl 3) ?_
  intro p e s m args below meth c rl hx hb hml hr hlk hown hts hst hl
  have l0 := hl.2.2 (0, .int i) (by simp [lv_args])
  have l1 := hl.2.2 (1, .int n) (by simp [lv_args, Value.category])
  refine lv_iload_n hx hb (k := 0) (by decide +kernel) rfl l0 ?_
  refine lv_if_lt hx hb (off := 8) (tgt := 9) (by decide +kernel) (by decide) (fun h => absurd h h0) (fun _ => ?_)
  refine lv_iload_n hx hb (k := 0) (by decide +kernel) rfl l0 ?_
  refine lv_iload_n hx hb (k := 1) (by decide +kernel) rfl l1 ?_
  refine lv_icmp_lt hx hb (off := 10) (tgt := 16) (by decide +kernel) (by decide) (fun _ => ?_) (fun h => absurd h1 h)
  refine lv_iload_n hx hb (k := 0) (by decide +kernel) rfl l0 ?_
  exact W.iret hx hb hr (fun t ht _ => ⟨rfl, ht⟩) (fun q hq => by cases hq) (by decide +kernel) hlk
theorem sj_chk {i n : Int32} (h0 : ¬ i < 0) (h1 : i < n) : sj_M l α adV B0 yJ0_checkIndex_df160 cJ0_checkIndex_df160 2 none 1 22 [.int i, .int n] none := by
  refine sj_of (by decide +kernel) (by simp [lg_sl, Value.category]) ?_
  intro p e s m args below meth c rl hx hb hml hr hlk hown hts hst hl
  have l0 := hl.2.2 (0, .int i) (by simp [lv_args])
  have l1 := hl.2.2 (1, .int n) (by simp [lv_args, Value.category])
  have hgo : ∀ w : Value, w.category = 1 → W p l e (sj_rm 1 22) s m args below meth c s.heap [] 0 0 (MQ below (sj_Q none) args s 0 0 (fun _ => False)) (F0 m 5 rl [w, .int n, .int i]) := by
    intro w hw
    refine sj_callS (index := 1059) (rest := []) (sj_pre hw h0 h1) ⟨hx, hb, hml, hown, hts⟩ hst (am_w_rf (c := 2) (i := 142) rfl rfl) sj_i3 (am_w_in (c := 2) (i := 140) (by decide +kernel)) (am_w_in (c := 2) (i := 141) (by decide +kernel)) ⟨by decide +kernel, by decide +kernel, by show _ = some (3 : Nat); decide +kernel⟩ ⟨by decide, by decide⟩ ⟨Nat.le_refl _, Nat.le_refl _⟩ hl.1 (by decide) (by decide +kernel) ?_
    refine lv_pop hx hb (by decide +kernel) rfl ?_
    exact W.vret hx hb hr (fun t ht _ => ⟨rfl, ht⟩) (fun q hq => by cases hq) (by decide +kernel) hlk
  refine lv_iload_n hx hb (k := 0) (by decide +kernel) rfl l0 ?_
  refine lv_iload_n hx hb (k := 1) (by decide +kernel) rfl l1 ?_
  have hlink := hts (Cond.fieldLink RJ0 1053 "jdk/internal/util/Preconditions" "SIOOBE_FORMATTER" "Ljava/util/function/BiFunction;") (am_w_in (c := 2) (i := 138) (by decide +kernel))
  rcases hst.2.2 with hz | ⟨t, hz⟩
  · exact va_gets hx hb hz va_S.rf hown hlink (fun _ h => h) (by decide +kernel) (hgo _ rfl)
  · exact va_gets hx hb hz va_S.rf hown hlink (fun _ h => h) (by decide +kernel) (hgo _ rfl)
theorem sj_coder {t : Nat} (ht : t < 5) : sj_M l α adV B0 yJ0_coder_7d493 cJ0_coder_7d493 1 (some .byte) 0 0 [.ref (α (am_SB + t))] (some (.int 0)) := by
  refine sj_of (by decide +kernel) (by simp [lg_sl, Value.category]) ?_
  intro p e s m args below meth c rl hx hb hml hr hlk hown hts hst hl
  have l0 := hl.2.2 (0, .ref (α (am_SB + t))) (by simp [lv_args])
  refine va_gets hx hb hst.2.1 va_S.rf hown (hts (Cond.fieldLink RJ0 38 RJ0 "COMPACT_STRINGS" "Z") (am_w_in (c := 2) (i := 122) (by decide +kernel))) (fun _ h => h) (by decide +kernel) ?_
  refine lv_if_eq hx hb (off := 10) (tgt := 13) (by decide +kernel) (by decide) (fun h => absurd h (by decide)) (fun _ => ?_)
  refine lv_aload_n hx hb (k := 0) (by decide +kernel) rfl l0 ?_
  refine vk_getf hx hb (hst.1.1 t ht).2.1 va_S.rf hown (hts (Cond.fieldLink RJ0 15 RJ0 "coder" "B") (am_w_in (c := 5) (i := 85) (by decide +kernel))) (fun _ h => h) (by decide +kernel) ?_
  refine lv_goto hx hb (off := 4) (tgt := 14) (by decide +kernel) (by decide) ?_
  exact W.zret (ty := .byte) hx hb hr (by decide +kernel) (fun t ht _ => ⟨rfl, ht⟩) (fun q hq => by cases hq) (by decide +kernel) hlk
theorem sj_lat {t : Nat} (ht : t < 5) : sj_M l α adV B0 yJ0_isLatin1_aae02 cJ0_isLatin1_aae02 1 (some .boolean) 0 0 [.ref (α (am_SB + t))] (some (.int 1)) := by
  refine sj_of (by decide +kernel) (by simp [lg_sl, Value.category]) ?_
  intro p e s m args below meth c rl hx hb hml hr hlk hown hts hst hl
  have l0 := hl.2.2 (0, .ref (α (am_SB + t))) (by simp [lv_args])
  refine va_gets hx hb hst.2.1 va_S.rf hown (hts (Cond.fieldLink RJ0 38 RJ0 "COMPACT_STRINGS" "Z") (am_w_in (c := 2) (i := 122) (by decide +kernel))) (fun _ h => h) (by decide +kernel) ?_
  refine lv_if_eq hx hb (off := 14) (tgt := 17) (by decide +kernel) (by decide) (fun h => absurd h (by decide)) (fun _ => ?_)
  refine lv_aload_n hx hb (k := 0) (by decide +kernel) rfl l0 ?_
  refine vk_getf hx hb (hst.1.1 t ht).2.1 va_S.rf hown (hts (Cond.fieldLink RJ0 15 RJ0 "coder" "B") (am_w_in (c := 5) (i := 85) (by decide +kernel))) (fun _ h => h) (by decide +kernel) ?_
  refine lv_if_ne hx hb (off := 7) (tgt := 17) (by decide +kernel) (by decide) (fun h => absurd rfl h) (fun _ => ?_)
  refine lv_iconst hx hb (n := 1) (v := 1) (by decide +kernel) (by decide) ?_
  refine lv_goto hx hb (off := 4) (tgt := 18) (by decide +kernel) (by decide) ?_
  exact W.zret (ty := .boolean) hx hb hr (by decide +kernel) (fun t ht _ => ⟨rfl, ht⟩) (fun q hq => by cases hq) (by decide +kernel) hlk
theorem sj_txt : ∀ t, t < 5 → am_len.getD t 0 = (am_txt t).length ∧ am_byt.getD t [] = am_txt t ∧ (am_txt t).length < 9 ∧ ∀ j, j < (am_txt t).length → (((am_txt t).getD j 0 &&& 255).toUInt32 % 65536).toInt32 = (am_txt t).getD j 0 ∧ narrow .char (.int ((am_txt t).getD j 0)) = .int ((am_txt t).getD j 0) := by decide +kernel
theorem sj_arr {t : Nat} (ht : t < 5) {s : State} {H : Heap} (hst : am_st α adV B0 s H) : va_T .byte (adV t) (am_txt t).length (fun j => .int ((am_txt t).getD j 0)) (am_A B0) s H := by
  have h := (hst.1.1 t ht).2.2.2
  rw [(sj_txt t ht).1, (sj_txt t ht).2.1] at h
  exact h
theorem sj_lch {t j : Nat} (ht : t < 5) (hj : j < (am_txt t).length) : sj_M l α adV B0 yJ1_charAt_3b067 cJ1_charAt_3b067 2 (some .char) 2 43 [.ref (adV t), .int (nI j)] (some (.int ((am_txt t).getD j 0))) := by
  refine sj_of (by decide +kernel) (by simp [lg_sl, Value.category]) ?_
  intro p e s m args below meth c rl hx hb hml hr hlk hown hts hst hl
  have l0 := hl.2.2 (0, .ref (adV t)) (by simp [lv_args])
  have l1 := hl.2.2 (1, .int (nI j)) (by simp [lv_args, Value.category])
  obtain ⟨-, -, hlen, hch⟩ := sj_txt t ht
  have hin := am_inI hj (by omega)
  have hlt : nI j < nI (am_txt t).length := by
    rw [Int32.lt_iff_toInt_lt]
    have a1 := nI_toInt (n := j) (by omega)
    have a2 := nI_toInt (n := (am_txt t).length) (by omega)
    omega
  refine lv_iload_n hx hb (k := 1) (by decide +kernel) rfl l1 ?_
  refine lv_aload_n hx hb (k := 0) (by decide +kernel) rfl l0 ?_
  refine va_tlen hx hb (sj_arr ht hst) va_S.rf (v := nI (am_txt t).length) rfl (by decide +kernel) ?_
  refine sj_callS (index := 9) (rest := []) (sj_chk (i := nI j) (n := nI (am_txt t).length) (fun h => hin.1 (Or.inl h)) hlt) ⟨hx, hb, hml, hown, hts⟩ hst (am_w_rf (c := 2) (i := 137) rfl rfl) sj_i0 (am_w_in (c := 2) (i := 135) (by decide +kernel)) (am_w_in (c := 2) (i := 136) (by decide +kernel)) ⟨by decide +kernel, by decide +kernel, by show _ = some (2 : Nat); decide +kernel⟩ ⟨by decide, by decide⟩ ⟨Nat.le_refl _, Nat.le_refl _⟩ hl.1 (by decide) (by decide +kernel) ?_
  refine lv_aload_n hx hb (k := 0) (by decide +kernel) rfl l0 ?_
  refine lv_iload_n hx hb (k := 1) (by decide +kernel) rfl l1 ?_
  refine va_tb hx hb (sj_arr ht hst) va_S.rf hin.1 (v := .int ((am_txt t).getD j 0)) (by rw [hin.2]) (by decide +kernel) ?_
  refine lv_sipush hx hb (n := 255) (v := 255) (by decide +kernel) (by decide) ?_
  refine lv_iand hx hb (by decide +kernel) ?_
  refine lv_i2c hx hb (by decide +kernel) (hch j hj).1 ?_
  exact W.zret (ty := .char) hx hb hr (hch j hj).2 (fun t ht _ => ⟨rfl, ht⟩) (fun q hq => by cases hq) (by decide +kernel) hlk
theorem sj_char {t j : Nat} (ht : t < 5) (hj : j < (am_txt t).length) : sj_M l α adV B0 yJ0_charAt_5068e cJ0_charAt_5068e 2 (some .char) 3 64 [.ref (α (am_SB + t)), .int (nI j)] (some (.int ((am_txt t).getD j 0))) := by
  refine sj_of (by decide +kernel) (by simp [lg_sl, Value.category]) ?_
  intro p e s m args below meth c rl hx hb hml hr hlk hown hts hst hl
  have l0 := hl.2.2 (0, .ref (α (am_SB + t))) (by simp [lv_args])
  have l1 := hl.2.2 (1, .int (nI j)) (by simp [lv_args, Value.category])
  refine lv_aload_n hx hb (k := 0) (by decide +kernel) rfl l0 ?_
  refine sj_callV (index := 492) (as := []) (rest := []) (sj_lat ht) ⟨hx, hb, hml, hown, hts⟩ hst (sj_recv hst ht) (am_w_rf (c := 2) (i := 131) rfl rfl) sj_i0 (am_w_in (c := 2) (i := 128) (by decide +kernel)) (am_w_in (c := 2) (i := 129) (by decide +kernel)) (am_w_in (c := 2) (i := 130) (by decide +kernel)) ⟨by decide +kernel, by decide +kernel, by decide +kernel⟩ ⟨by decide, by decide⟩ ⟨Nat.le_refl _, Nat.le_refl _⟩ hl.1 (by decide) (by decide +kernel) ?_
  refine lv_if_eq hx hb (off := 12) (tgt := 16) (by decide +kernel) (by decide) (fun h => absurd h (by decide)) (fun _ => ?_)
  refine lv_aload_n hx hb (k := 0) (by decide +kernel) rfl l0 ?_
  refine vk_getf hx hb (hst.1.1 t ht).2.2.1 va_S.rf hown (hts (Cond.fieldLink RJ0 9 RJ0 "value" "[B") (am_w_in (c := 5) (i := 84) (by decide +kernel))) (fun _ h => h) (by decide +kernel) ?_
  refine lv_iload_n hx hb (k := 1) (by decide +kernel) rfl l1 ?_
  refine sj_callS (index := 495) (rest := []) (sj_lch ht hj) ⟨hx, hb, hml, hown, hts⟩ hst (am_w_rf (c := 2) (i := 134) rfl rfl) sj_i1 (am_w_in (c := 2) (i := 132) (by decide +kernel)) (am_w_in (c := 2) (i := 133) (by decide +kernel)) ⟨by decide +kernel, by decide +kernel, by show _ = some (2 : Nat); decide +kernel⟩ ⟨by decide, by decide⟩ ⟨Nat.le_refl _, Nat.le_refl _⟩ hl.1 (by decide) (by decide +kernel) ?_
  exact W.zret (ty := .char) hx hb hr ((sj_txt t ht).2.2.2 j hj).2 (fun t ht _ => ⟨rfl, ht⟩) (fun q hq => by cases hq) (by decide +kernel) hlk
theorem sj_shr : ∀ t, t < 5 → nI (am_txt t).length >>> (0 &&& 31) = nI (am_txt t).length := by decide +kernel
theorem sj_len {t : Nat} (ht : t < 5) : sj_M l α adV B0 yJ0_length_8abf5 cJ0_length_8abf5 1 (some .int) 1 20 [.ref (α (am_SB + t))] (some (.int (nI (am_txt t).length))) := by
  refine sj_of (by decide +kernel) (by simp [lg_sl, Value.category]) ?_
  intro p e s m args below meth c rl hx hb hml hr hlk hown hts hst hl
  have l0 := hl.2.2 (0, .ref (α (am_SB + t))) (by simp [lv_args])
  refine lv_aload_n hx hb (k := 0) (by decide +kernel) rfl l0 ?_
  refine vk_getf hx hb (hst.1.1 t ht).2.2.1 va_S.rf hown (hts (Cond.fieldLink RJ0 9 RJ0 "value" "[B") (am_w_in (c := 5) (i := 84) (by decide +kernel))) (fun _ h => h) (by decide +kernel) ?_
  refine va_tlen hx hb (sj_arr ht hst) va_S.rf (v := nI (am_txt t).length) rfl (by decide +kernel) ?_
  refine lv_aload_n hx hb (k := 0) (by decide +kernel) rfl l0 ?_
  refine sj_callV (index := 335) (as := []) (rest := [.int (nI (am_txt t).length)]) (sj_coder ht) ⟨hx, hb, hml, hown, hts⟩ hst (sj_recv hst ht) (am_w_rf (c := 2) (i := 121) rfl rfl) sj_i0 (am_w_in (c := 2) (i := 118) (by decide +kernel)) (am_w_in (c := 2) (i := 119) (by decide +kernel)) (am_w_in (c := 2) (i := 120) (by decide +kernel)) ⟨by decide +kernel, by decide +kernel, by decide +kernel⟩ ⟨by decide, by decide⟩ ⟨Nat.le_refl _, Nat.le_refl _⟩ hl.1 (by simp [Value.category]) (by decide +kernel) ?_
  refine lv_ishr hx hb (by decide +kernel) ?_
  rw [sj_shr t ht]
  exact W.iret hx hb hr (fun t ht _ => ⟨rfl, ht⟩) (fun q hq => by cases hq) (by decide +kernel) hlk
end SJ
theorem am_str {p : Program} {l : Launch} {e : Env} {R : Room} {s : State} {m : MethodId} {args : Array Value} {below : List Frame} {meth : Method} {c : Code} {cells slots : Nat} {Q : State → Prop} {D : va_G} {cy : Nat → ClassId} {α adV : Nat → Nat} {B0 : Nat} {h : am_H} {cc : ByteArray} {nL fr lo : Nat} (hx : p.tables.exec = Jvm.exec) (hb : c.code = cc) (hml : c.maxLocals = nL) (hown : s.vm.findClass RX5 = some m.cls) (hts : ∀ w ∈ am_TS, w.before args s = true) (_hkk : am_kk D cy α s) (_hB : B0 ≤ s.heap.size) (hfr : fr ≤ R.frames) (hlo : lo ≤ R.locals) (hcs : cells ≤ R.cells ∧ slots ≤ R.slots) (h6 : 6 ≤ fr ∧ 150 ≤ lo) (t idx pc : Nat) (H : Heap) (locs : List Loc) (rl : Array Slot) (rest : List Value) (σ : am_S) (ht : t < 5) (hdec : decode cc pc = .ok (.invokevirtual idx, 3)) (hh : am_hr D cy α adV B0 h σ s H) (_hS : va_S (am_A B0) s.heap H locs) (hrl : rl.size = nL) (hw : (rest.map fun v => v.category).sum ≤ 8) :
      (Cond.methodLink RX5 idx yJ0_length_8abf5 ∈ am_TS → W p l e R s m args below meth c H locs cells slots Q (F0 m (pc + 3) rl (.int (nI (am_txt t).length) :: rest)) → W p l e R s m args below meth c H locs cells slots Q (F0 m pc rl (.ref (α (am_SB + t)) :: rest))) ∧
      ∀ j, j < (am_txt t).length → Cond.methodLink RX5 idx yJ0_charAt_5068e ∈ am_TS → W p l e R s m args below meth c H locs cells slots Q (F0 m (pc + 3) rl (.int ((am_txt t).getD j 0) :: rest)) → W p l e R s m args below meth c H locs cells slots Q (F0 m pc rl (.int (nI j) :: .ref (α (am_SB + t)) :: rest)) := by
  refine ⟨fun hlk kk => ?_, fun j hj hlk kk => ?_⟩
  · exact sj_callV (as := []) (sj_len ht) ⟨hx, hb, hml, hown, hts⟩ hh.2.2 (sj_recv hh.2.2 ht) (am_w_rf (c := 2) (i := 117) rfl rfl) sj_i0 hlk (am_w_in (c := 2) (i := 115) (by decide +kernel)) (am_w_in (c := 2) (i := 116) (by decide +kernel)) ⟨by decide +kernel, by decide +kernel, by decide +kernel⟩ ⟨by omega, by omega⟩ hcs hrl hw hdec kk
  · exact sj_callV (as := [.int (nI j)]) (sj_char ht hj) ⟨hx, hb, hml, hown, hts⟩ hh.2.2 (sj_recv hh.2.2 ht) (am_w_rf (c := 2) (i := 127) rfl rfl) sj_i0 hlk (am_w_in (c := 2) (i := 125) (by decide +kernel)) (am_w_in (c := 2) (i := 126) (by decide +kernel)) ⟨by decide +kernel, by decide +kernel, by show _ = some (1 : Nat); decide +kernel⟩ ⟨by omega, by omega⟩ hcs hrl hw hdec kk
