/-! runs: what the true machine does from a place of a method on (am_run), what a whole call does (am_ev); am_u unfolds a run place by place -/
def am_frm (y : Nat) (p : Program) (s : State) (m : MethodId) (args : Array Value) (meth : Method) (c : Code) : Prop :=
  p.tables.exec = Jvm.exec ∧ c.code = am_bytes y ∧ c.maxLocals = am_max y ∧ meth.sig.returnType = am_ret y ∧ meth.locks = false ∧ s.vm.findClass (am_name y).cls = some m.cls ∧ ∀ w ∈ am_TS, w.before args s = true
def am_run (h : am_H) (y : Nat) (q : am_Q) : am_G := fun pc ls st σ =>
  ∀ (l : Launch) (D : va_G) (cy : Nat → ClassId) (α adV : Nat → Nat) (B0 : Nat) (p : Program) (e : Env) (s : State) (m : MethodId) (args : Array Value) (below : List Frame) (meth : Method) (c : Code) (H : Heap) (locs : List Loc) (rl : Array Slot),
    am_frm y p s m args meth c → am_kk D cy α s → B0 ≤ s.heap.size → am_hr D cy α adV B0 h σ s H → va_S (am_A B0) s.heap H locs → am_lr α ls rl (am_max y) →
    W p l e (am_room y) s m args below meth c H locs 0 0 (MQ below (am_Qc D cy α B0 h q) args s 0 0 (am_A B0)) (F0 m pc rl (st.map (am_cv α)))
def am_ev (h : am_H) : am_C := fun y as σ q => am_mf y ∧ ∀ q' : am_Q, (∀ r σ', q r σ' → q' r σ') → ∀ (l : Launch) (D : va_G) (cy : Nat → ClassId) (α adV : Nat → Nat) (B0 : Nat), Met l (am_name y) (am_wsm y) (am_room y) (am_Pc D cy α adV B0 h σ as) (am_Qc D cy α B0 h q') 0 0 (am_A B0)
theorem am_ev.mono {h : am_H} {y : Nat} {as : List Value} {σ : am_S} {q q' : am_Q} (H : am_ev h y as σ q) (hq : ∀ r σ', q r σ' → q' r σ') : am_ev h y as σ q' := ⟨H.1, fun q'' h2 => H.2 q'' (fun r σ' g => h2 r σ' (hq r σ' g))⟩
/-- a loop's head begins here: it stops there -/
def am_hd : List am_E → Bool
  | (_, _, _, _, _, _, _, _ :: _) :: _ => true
  | _ => false
def am_u (h : am_H) (y : Nat) (q : am_Q) : List am_E → am_G
  | [], _, _, _, _ => False
  | e :: r, pc, ls, st, σ => am_step h 0 (fun _ => 0) (am_ret y) (match am_hd r with
    | true => am_run h y q
    | false => am_u h y q r) (am_run h y q) (am_ev h) q e pc ls st σ
theorem am_kk.warm {D : va_G} {cy : Nat → ClassId} {α : Nat → Nat} {s U : State} (h : am_kk D cy α s) (hW : s.WarmedH U.vm) : am_kk D cy α U := ⟨va_K.moved hW.alike h.1, fun t ht => (h.2 t ht).warm hW⟩
theorem am_hr.warm {D : va_G} {cy : Nat → ClassId} {α adV : Nat → Nat} {B0 : Nat} {h : am_H} {σ : am_S} {s U : State} {H : Heap} (hh : am_hr D cy α adV B0 h σ s H) (hW : s.vm.Alike U.vm) : am_hr D cy α adV B0 h σ U H := ⟨hh.1, hh.2.1, hh.2.2.moved hW⟩
theorem am_Pc_blind {D : va_G} {cy : Nat → ClassId} {α adV : Nat → Nat} {B0 : Nat} {h : am_H} {σ : am_S} {as : List Value} : FrameBlind (am_Pc D cy α adV B0 h σ as) := by
  intro a U g mk q
  obtain ⟨q1, q2, q3, q4⟩ := q
  exact ⟨q1, q2, ⟨va_K.moved (u := U) (U := U.calling g mk a) (Vm.Alike.refl U.vm) q3.1, fun t ht => vk_R.same (u := U) (U := U.calling g mk a) rfl (q3.2 t ht)⟩, am_hr.warm (s := U) (U := U.calling g mk a) q4 (Vm.Alike.refl U.vm)⟩
theorem am_good {x y : Nat} (h : am_mw y) : GoodIn (am_wsm x) (am_wsm y) := by
  intro w hw
  rcases List.mem_cons.mp hw with rfl | hw
  · exact ⟨List.mem_cons_of_mem _ h.1, am_TS_good h.1⟩
  · exact ⟨List.mem_cons_of_mem _ hw, am_TS_good hw⟩
theorem am_goodT {y : Nat} (h : am_mw y) : GoodIn am_TS (am_wsm y) := by
  intro w hw
  rcases List.mem_cons.mp hw with rfl | hw
  · exact ⟨h.1, am_TS_good h.1⟩
  · exact ⟨hw, am_TS_good hw⟩
section CAL
variable {p : Program} {l : Launch} {e : Env} {R : Room} {s : State} {m : MethodId} {args : Array Value} {below : List Frame} {meth : Method} {c : Code} {cells slots : Nat} {Q : State → Prop}
variable {D : va_G} {cy : Nat → ClassId} {α adV : Nat → Nat} {B0 : Nat} {h : am_H} {own : String} {cc : ByteArray} {nL : Nat}
theorem am_after {q : am_Q} {mc ms pc : Nat} {rl : Array Slot} {st0 rest : List Value} {a : Array Value} {H : Heap} {locs : List Loc} {σ : am_S} (hB : B0 ≤ s.heap.size) (hh : am_hr D cy α adV B0 h σ s H) (hS : va_S (am_A B0) s.heap H locs) (hr : va_Run p l e R s m args below meth c H locs cells slots mc ms (F0 m pc rl st0) (rest.map (am_cv α)) (am_Qc D cy α B0 h q a) (am_A B0))
    (kk : ∀ (w : Option Value) (σ' : am_S) (H' : Heap) (locs' : List Loc), q w σ' → am_hr D cy α adV B0 h σ' s H' → va_S (am_A B0) s.heap H' locs' → W p l e R s m args below meth c H' locs' (cells + mc) (slots + ms) Q (F0 m (pc + 3) rl ((am_push w rest).map (am_cv α)))) : W p l e R s m args below meth c H locs cells slots Q (F0 m pc rl st0) := by
  intro T hT X
  obtain ⟨v, st₀, t, T', L', g0, X', gL, e1, e2, hq, st⟩ := hr T hT X
  obtain ⟨r, σ', hv, hq, hP, hD, hF⟩ := hq
  have hF2 : ∀ x : Nat, x < H.size → ¬ am_A B0 x → t.heap[x]? = H[x]? := fun x hx1 hx2 => by
    have := hF.2 x (by rw [g0]; exact hx1) hx2
    rw [this, g0]
  have hsz : H.size ≤ t.heap.size := by have := hF.1; rw [g0] at this; exact this
  have hS' : va_S (am_A B0) s.heap t.heap (locs ++ L') := ⟨Nat.le_trans hS.1 hsz, fun x h1 h2 => (hF2 x (Nat.lt_of_lt_of_le h1 hS.1) h2).trans (hS.2.1 x h1 h2), fun y hy => (List.mem_append.mp hy).elim (hS.2.2 y) (gL y)⟩
  have hv2 : v = r.map (am_cv α) := by
    injection hv
  obtain ⟨t2, a1, b1⟩ := kk r σ' t.heap (locs ++ L') hq ⟨hP, hD, hh.2.2.kept hF2⟩ hS' T' e1 X'
  refine ⟨t2, st t2 ?_, b1⟩
  have hg : ({ F0 m pc rl st0 with pc := (F0 m pc rl st0).pc + 3, stack := v.toList ++ rest.map (am_cv α) } : JFrame) = F0 m (pc + 3) rl ((am_push r rest).map (am_cv α)) := by
    rw [hv2]
    cases r <;> rfl
  rw [hg]
  exact a1
theorem am_pre {σ : am_S} {as : List Value} {H : Heap} {locs : List Loc} (hkk : am_kk D cy α s) (hB : B0 ≤ s.heap.size) (hh : am_hr D cy α adV B0 h σ s H) (hS : va_S (am_A B0) s.heap H locs) : ∀ U : State, U.heap = H → s.WarmedH U.vm → am_Pc D cy α adV B0 h σ as (as.map (am_cv α)).toArray U := by
  intro U hU hW
  refine ⟨rfl, by rw [hU]; exact Nat.le_trans hB hS.1, hkk.warm hW, ?_⟩
  rw [hU]
  exact hh.warm hW.alike
theorem am_callV {Ts : List Cond} {y d ci i idx pc fr lo : Nat} {as' : List Value} {σ : am_S} {r : am_Q} {H : Heap} {locs : List Loc} {rl : Array Slot} {rest : List Value} (hx : p.tables.exec = Jvm.exec) (hb : c.code = cc) (hml : c.maxLocals = nL) (hown : s.vm.findClass own = some m.cls) (hts : ∀ w ∈ am_TS, w.before args s = true) (hkk : am_kk D cy α s) (hB : B0 ≤ s.heap.size) (hfr : fr ≤ R.frames) (hlo : lo ≤ R.locals) (hcs : cells ≤ R.cells ∧ slots ≤ R.slots) (hkd : am_kd y = 0)
    (hev : am_ev h y (.ref i :: as') σ r) (hi : h[i]? = some (ci, 0)) (hci : ci < 12) (hcn : (am_name y).cls = am_mcl ci) (hlen : (Value.ref i :: as').length = d + 1) (hdec : decode cc pc = .ok (.invokevirtual idx, 3)) (hlk : Cond.methodLink own idx (am_name y) ∈ am_TS) (h1 : am_fr y + 1 ≤ fr) (h2 : 8 + (am_max y + 11) + am_lo y ≤ lo) (h3 : (parseMethodDescriptor (am_name y).desc).map (fun d => d.parameters.length) = some d) (hw : am_words rest ≤ 8) (hh : am_hr D cy α adV B0 h σ s H) (hS : va_S (am_A B0) s.heap H locs) (hrl : rl.size = nL)
    (kk : ∀ (w : Option Value) (σ' : am_S) (H' : Heap) (locs' : List Loc), r w σ' → am_hr D cy α adV B0 h σ' s H' → va_S (am_A B0) s.heap H' locs' → W p l e R s m args below meth c H' locs' cells slots Q (F0 m (pc + 3) rl ((am_push w rest).map (am_cv α)))) : W p l e R s m args below meth c H locs cells slots Q (F0 m pc rl (((Value.ref i :: as').reverse ++ rest).map (am_cv α))) := by
  have hmw := hev.1.1
  have hiv := hev.1.2.1 hkd
  have hM := hev.2 r (fun _ _ g => g) l D cy α adV B0
  have hG : GoodIn am_TS (wsV own idx (am_name y).cls (am_name y) (am_wsm y)) := by
    intro w hw
    unfold wsV at hw
    rcases List.mem_append.mp hw with hw | hw
    · simp only [List.mem_cons, List.not_mem_nil, or_false] at hw
      rcases hw with rfl | rfl | rfl | rfl
      · exact ⟨hlk, am_TS_good hlk⟩
      · exact ⟨hiv.1, am_TS_good hiv.1⟩
      · exact ⟨hiv.2, am_TS_good hiv.2⟩
      · exact ⟨hmw.2.1, am_TS_good hmw.2.1⟩
    · exact am_goodT hmw w hw
  have hrec : ∃ cellB : Cell, H[α i]? = some cellB ∧ cellB.vm.isStatics = false ∧ s.vm.findClass (am_name y).cls = some cellB.cls := by
    have hg := am_ws_get (cy := cy) (α := α) (σ := σ) hi
    rw [am_cell_O hci] at hg
    have hc : am_cl[ci]? = some (am_cl[ci]'(by simpa using hci)) := List.getElem?_eq_getElem _
    have := va_recv hkk.1 hh.1 hc hg
    rw [hcn]
    unfold am_mcl
    rw [hc]
    exact this
  have hrun := va_runV (R := R) (p := p) (e := e) (below := below) (meth := meth) (locs := locs) (cells := cells) (slots := slots) (b := α i) (As := as'.map (am_cv α)) (rest := rest.map (am_cv α)) (g := F0 m pc rl (((Value.ref i :: as').reverse ++ rest).map (am_cv α))) (S := ⟨hx, hb, hml, hown, hts⟩) hM
    (cwV (rm := am_room y) d hts hG rfl rfl rfl ⟨rfl, hmw.2.2.1, hmw.2.2.2, h3⟩ ⟨Nat.le_trans h1 hfr, Nat.le_trans h2 hlo⟩)
    ⟨am_Pc_blind, hrec, am_pre (as := .ref i :: as') hkk hB hh hS⟩ rfl (by rw [List.length_map]; simpa using hlen) hrl (by simp [am_cv]) (by
      have := am_words_cv α rest
      exact lv_room (by rw [this]; exact hw)) hdec ⟨by omega, by omega⟩
  exact am_after hB hh hS hrun kk
theorem am_callS {y d idx pc fr lo : Nat} {as : List Value} {σ : am_S} {r : am_Q} {H : Heap} {locs : List Loc} {rl : Array Slot} {rest : List Value} (hx : p.tables.exec = Jvm.exec) (hb : c.code = cc) (hml : c.maxLocals = nL) (hown : s.vm.findClass own = some m.cls) (hts : ∀ w ∈ am_TS, w.before args s = true) (hkk : am_kk D cy α s) (hB : B0 ≤ s.heap.size) (hfr : fr ≤ R.frames) (hlo : lo ≤ R.locals) (hcs : cells ≤ R.cells ∧ slots ≤ R.slots) (hkd : am_kd y = 1)
    (hev : am_ev h y as σ r) (hlen : as.length = d) (hdec : decode cc pc = .ok (.invokestatic idx, 3)) (hlk : Cond.methodLink own idx (am_name y) ∈ am_TS) (h1 : am_fr y + 1 ≤ fr) (h2 : 8 + (am_max y + 11) + am_lo y ≤ lo) (h3 : (parseMethodDescriptor (am_name y).desc).map (fun d => d.parameters.length) = some d) (hw : am_words rest ≤ 8) (hh : am_hr D cy α adV B0 h σ s H) (hS : va_S (am_A B0) s.heap H locs) (hrl : rl.size = nL)
    (kk : ∀ (w : Option Value) (σ' : am_S) (H' : Heap) (locs' : List Loc), r w σ' → am_hr D cy α adV B0 h σ' s H' → va_S (am_A B0) s.heap H' locs' → W p l e R s m args below meth c H' locs' cells slots Q (F0 m (pc + 3) rl ((am_push w rest).map (am_cv α)))) : W p l e R s m args below meth c H locs cells slots Q (F0 m pc rl ((as.reverse ++ rest).map (am_cv α))) := by
  have hmw := hev.1.1
  have hst := hev.1.2.2.1 hkd
  have hM := hev.2 r (fun _ _ g => g) l D cy α adV B0
  have hrun := va_runS (R := R) (p := p) (e := e) (below := below) (meth := meth) (locs := locs) (cells := cells) (slots := slots) (As := as.map (am_cv α)) (rest := rest.map (am_cv α)) (g := F0 m pc rl ((as.reverse ++ rest).map (am_cv α))) (S := ⟨hx, hb, hml, hown, hts⟩) hM
    ⟨callB_of (rm := am_room y) d hts (am_goodT hmw) rfl rfl rfl (hts _ hmw.2.1) (hts _ hlk) ⟨hmw.2.2.1, hmw.2.2.2, h3⟩ ⟨Nat.le_trans h1 hfr, Nat.le_trans h2 hlo⟩, hts _ hst⟩
    ⟨am_Pc_blind, am_pre (as := as) hkk hB hh hS⟩ rfl (by rw [List.length_map]; exact hlen) hrl (by simp) (by
      have := am_words_cv α rest
      exact lv_room (by rw [this]; exact hw)) hdec ⟨by omega, by omega⟩
  exact am_after hB hh hS hrun kk
end CAL
