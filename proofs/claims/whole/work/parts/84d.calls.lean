/-! constructors call constructors -/
def ac_Pc (D : va_G) (cy : Nat → ClassId) (α adV : Nat → Nat) (B0 n0 i : Nat) (σ : am_S) : Array Value → State → Prop := fun v U => v = (([Value.ref i] : List Value).map (am_cv α)).toArray ∧ B0 ≤ U.heap.size ∧ am_kk D cy α U ∧ ac_nk U ∧ am_hr D cy α adV B0 (am_sh.take n0) σ U U.heap
def ac_ev (y n0 n1 i : Nat) (σ : am_S) (q : am_S → Prop) : Prop := am_mf y ∧ ∀ (l : Launch) (D : va_G) (cy : Nat → ClassId) (α adV : Nat → Nat) (B0 : Nat), Met l (am_name y) (am_wsm y) (ac_room y n0 n1) (ac_Pc D cy α adV B0 n0 i σ) (ac_Qc D cy α B0 n0 n1 q) (n1 - n0) (ac_sl n1 - ac_sl n0) (am_A B0)
theorem ac_ev_of {y n0 n1 i : Nat} {q : am_S → Prop} {σ : am_S} (hmf : am_mf y) (hpn : Jvm.plainName (am_name y).cls = true) (hnm : (am_name y).name = "<init>") (hm : 1 ≤ am_max y) (X : ac_run y n0 n1 q n0 0 (am_fill [.ref i] (am_max y)) [] σ) : ac_ev y n0 n1 i σ q := by
  refine ⟨hmf, fun l D cy α adV B0 => ?_⟩
  refine Met.ofW (cc := am_bytes y) (maxL := am_max y) (ret := am_ret y) hpn rfl ?_
  intro p e s m args below meth c s₁ B hml hv
  obtain ⟨rfl, hB, hkk, hnk, hh⟩ := hv
  have hts := atoms_spec (ws := am_wsm y) B.pre
  have hF : am_frm y p s m (([Value.ref i] : List Value).map (am_cv α)).toArray meth c := ⟨B.exec, B.bytes, hml, B.returns, B.notSynchronized, findClass_of_methodNamed B.named, fun w hw => hts w (List.mem_cons_of_mem _ hw)⟩
  have hl0 := lv_entry (([Value.ref i] : List Value).map (am_cv α)) (n := am_max y) (by rw [am_sl_len]; exact hm)
  rw [lg_entry_eq]
  have hl : am_lr α (am_fill [.ref i] (am_max y)) _ (am_max y) := ⟨am_fill_len _ _, hl0.1, hl0.2.1, fun j v hj => by
    have := am_fill_at (α := α) (am_max y) [.ref i] 0 j rfl hj
    rw [Nat.zero_add] at this
    exact hl0.2.2 _ this⟩
  have hw := X l D cy α α adV B0 p e s m _ below meth c s.heap [] _ hF ⟨(name_of_methodNamed B.named B.method).1.trans hnm, hnk⟩ hkk hB (fun _ _ => rfl) hh va_S.rf hl
  rw [Nat.sub_self, Nat.sub_self] at hw
  exact hw
theorem ac_Pc_blind {D : va_G} {cy : Nat → ClassId} {α adV : Nat → Nat} {B0 n0 i : Nat} {σ : am_S} : FrameBlind (ac_Pc D cy α adV B0 n0 i σ) := by
  intro a U g mk q
  obtain ⟨q1, q2, q3, q5, q4⟩ := q
  exact ⟨q1, q2, ⟨va_K.moved (u := U) (U := U.calling g mk a) (Vm.Alike.refl U.vm) q3.1, fun t ht => vk_R.same (u := U) (U := U.calling g mk a) rfl (q3.2 t ht)⟩, ⟨fun x hx => va_Nw.same (u := U) (U := U.calling g mk a) rfl rfl (q5.1 x hx), ac_ov (s := U) (U := U.calling g mk a) (Vm.Alike.refl U.vm) q5.2⟩, am_hr.warm (s := U) (U := U.calling g mk a) q4 (Vm.Alike.refl U.vm)⟩
theorem ac_st_ren {α α' adV : Nat → Nat} {B0 : Nat} {s : State} {H : Heap} (ht : ∀ t, t < 5 → α' (am_SB + t) = α (am_SB + t)) (h : am_st α adV B0 s H) : am_st α' adV B0 s H := by
  obtain ⟨h3, h4⟩ := h
  refine ⟨⟨fun i hi => ?_, fun i j hi hj e => ?_⟩, h4⟩
  · have := h3.1 i hi
    show va_O _ (α' (am_SB + i)) _ _ _ ∧ va_OF _ _ _ _ (α' (am_SB + i)) _ _ _ ∧ va_OF _ _ _ _ (α' (am_SB + i)) _ _ _ ∧ _
    rw [ht i hi]
    exact this
  · have e1 : α' (am_SB + i) = α' (am_SB + j) := e
    rw [ht i hi, ht j hj] at e1
    exact h3.2 i j hi hj e1
theorem ac_r_call {y z n0 n1 n n2 i idx : Nat} {q q2 : am_S → Prop} {host : String} {pc : Nat} {ls : am_L} {st : List Value} {σ : am_S} (hdg : decode (am_bytes y) pc = .ok (.invokespecial idx, 3)) (hlk : Cond.methodLink (am_name y).cls idx (am_name z) ∈ am_TS ∨ ((am_name y).cls, idx, am_name z, host) ∈ ac_nl) (hkd : am_kd z = 2) (hd : (parseMethodDescriptor (am_name z).desc).map (fun d => d.parameters.length) = some 0) (hret : am_ret z = none) (h1 : am_fr z + 1 ≤ am_fr y) (h2 : 8 + (am_max z + 11) + am_lo z ≤ am_lo y) (hn0 : n0 ≤ n) (hn2 : n ≤ n2) (hn1 : n2 ≤ n1) (hw : am_words st ≤ 8) (hls : ac_lowL n ls) (hst : ac_lowS n st) (hev : ac_ev z n n2 i σ q2) (X : ∀ σ', q2 σ' → ac_run y n0 n1 q n2 (pc + 3) ls st σ') : ac_run y n0 n1 q n pc ls (.ref i :: st) σ := by
  intro l D cy α0 α adV B0 p e s m args below meth c H locs rl hF hI' hkk hB hag hh hS hl
  obtain ⟨hx, hb, hml, hret', hlocks, hown, hts⟩ := id hF
  have hM := hev.2 l D cy α adV B0
  have hmw := hev.1.1
  have hinit := hev.1.2.2.2 hkd
  have hm0 := ac_sl_le hn0
  have hm2 := ac_sl_le hn2
  have hm1 := ac_sl_le hn1
  have hws : am_wsm z = Cond.code (am_name z) (am_bytes z) (am_max z) none :: am_TS := by
    unfold am_wsm
    rw [hret]
  have hpre : PreS s H (ac_Pc D cy α adV B0 n i σ) [Value.ref (α i)] := ⟨ac_Pc_blind, fun U hU hW => ⟨rfl, by rw [hU]; exact Nat.le_trans hB hS.1, hkk.warm hW, hI'.2.warm hW, by rw [hU]; exact hh.warm hW.alike⟩⟩
  have hfit : n - n0 + (n2 - n) ≤ (ac_room y n0 n1).cells ∧ ac_sl n - ac_sl n0 + (ac_sl n2 - ac_sl n) ≤ (ac_room y n0 n1).slots := ⟨by show _ ≤ n1 - n0; omega, by show _ ≤ ac_sl n1 - ac_sl n0; omega⟩
  have hrm : 2 * (F0 m pc rl (.ref (α i) :: st.map (am_cv α))).monitorRoom + ((st.map (am_cv α)).map fun v => v.category).sum ≤ 8 := lv_room (by rw [am_words_cv]; exact hw)
  have hrun : va_Run p l e (ac_room y n0 n1) s m args below meth c H locs (n - n0) (ac_sl n - ac_sl n0) (n2 - n) (ac_sl n2 - ac_sl n) (F0 m pc rl (.ref (α i) :: st.map (am_cv α))) (st.map (am_cv α)) (ac_Qc D cy α B0 n n2 q2 [Value.ref (α i)].toArray) (am_A B0) := by
    rcases hlk with hlk | hlk
    · exact va_runI (As := []) (own := (am_name y).cls) (index := idx) (bytes := am_bytes z) (maxL := am_max z) (n := 0) (Ts := am_TS) ⟨hx, hb, hml, hown, hts⟩ hM ⟨callB_of (rm := ac_room z n n2) 0 hts (am_goodT hmw) hws rfl rfl (hts _ hmw.2.1) (hts _ hlk) ⟨hmw.2.2.1, hmw.2.2.2, hd⟩ ⟨h1, h2⟩, hinit.2, hts _ hinit.1⟩ hpre rfl rfl hl.2.1 rfl hrm hdg hfit
    · exact va_runIN (As := []) (own := (am_name y).cls) (host := host) (index := idx) (bytes := am_bytes z) (maxL := am_max z) (n := 0) (Ts := am_TS) ⟨hx, hb, hml, hown, hts⟩ hM ⟨va_cnB (rm := ac_room z n n2) 0 hts (am_goodT hmw) hws rfl rfl (hI'.2.1 _ hlk) (hts _ hmw.2.1) ⟨hmw.2.2.1, hmw.2.2.2, hd⟩ ⟨h1, h2⟩, hinit.2, hts _ hinit.1⟩ hpre rfl rfl hl.2.1 rfl hrm hdg hfit
  intro T hT XT
  obtain ⟨v, st₀, t, T', L', g0, X', gL, e1, e2, hq, stp⟩ := hrun T hT XT
  obtain ⟨σ', α', hv, hq, hag', hP, hD, hFr⟩ := hq
  have hF2 : ∀ x : Nat, x < H.size → ¬ am_A B0 x → t.heap[x]? = H[x]? := fun x hx1 hx2 => by
    have := hFr.2 x (by rw [g0]; exact hx1) hx2
    rw [this, g0]
  have hsz : H.size ≤ t.heap.size := by have := hFr.1; rw [g0] at this; exact this
  have hS' : va_S (am_A B0) s.heap t.heap (locs ++ L') := ⟨Nat.le_trans hS.1 hsz, fun x h1 h2 => (hF2 x (Nat.lt_of_lt_of_le h1 hS.1) h2).trans (hS.2.1 x h1 h2), fun y hy => (List.mem_append.mp hy).elim (hS.2.2 y) (gL y)⟩
  have ha : ∀ i, i < n → α' i = α i := fun i hi => hag' i (Or.inl hi)
  have ht : ∀ t, t < 5 → α' (am_SB + t) = α (am_SB + t) := fun t _ => hag' _ (Or.inr (by unfold am_SB; omega))
  have hw2 := X σ' hq l D cy α0 α' adV B0 p e s m args below meth c t.heap (locs ++ L') rl hF hI' (ac_kk_ren ht hkk) hB (fun i hi => (hag' i (hi.elim (fun h => Or.inl (by omega)) Or.inr)).trans (hag i hi)) ⟨hP, hD, ac_st_ren ht (hh.2.2.kept hF2)⟩ hS' (ac_lrs ha hls hl)
  cases hv
  rw [show n2 - n0 = n - n0 + (n2 - n) by omega, show ac_sl n2 - ac_sl n0 = ac_sl n - ac_sl n0 + (ac_sl n2 - ac_sl n) by omega, ac_cvs ha hst] at hw2
  obtain ⟨t2, a1, b1⟩ := hw2 T' e1 X'
  exact ⟨t2, stp t2 a1, b1⟩
