theorem am_alda {p : Program} {l : Launch} {e : Env} {R : Room} {s : State} {m : MethodId} {args : Array Value} {below : List Frame} {meth : Method} {c : Code} {H : Heap} {locs : List Loc} {cells slots : Nat} {Q : State → Prop} {cc : ByteArray} {pc : Nat} {ls : Array Slot} {rest : List Value} {D : va_G} {cl : List vw_C} {a : Nat} {tys : List (ClassId × FieldType)} {ws : va_W} (hexec : p.tables.exec = Jvm.exec) (hb : c.code = cc) (hK : va_K D cl tys s) (hP : va_P D cl ws H) (q0 t0 : Nat) {cA : ClassId} {ty : FieldType} {n : Nat} {f : Nat → Option Nat} (ha : ws[q0]? = some (a, .inl (cA, n, .inr (.inr (.inr (.inr f)))))) (ht : tys[t0]? = some (cA, .array ty)) {i : Int32} (hin : vp_in i n) (hdg : decode cc pc = .ok (.aaload, 1))
    (kk : W p l e R s m args below meth c H locs cells slots Q (F0 m (pc + 1) ls (va_rf (f i.toNatClampNeg) :: rest))) : W p l e R s m args below meth c H locs cells slots Q (F0 m pc ls (.int i :: .ref a :: rest)) := by
  have hlt : i.toNatClampNeg < n := Nat.not_le.mp fun q => hin (Or.inr q)
  exact W.aald (v := va_rf (f i.toNatClampNeg)) (ty := .array ty) hexec hb (hP q0 _ ha) ((hK.2 t0 _ ht).1 n (fun j => va_rf (f j))) rfl (fun q => by cases q) (by show ¬ (i < 0 ∨ (arrV _ _ _).slots.size ≤ _); rw [arrV_size]; exact hin) (by show (arrV _ _ _).slots[_]? = _; rw [arrV_read _ _ hlt]) rfl rfl hdg kk
section SIM
variable {p : Program} {l : Launch} {e : Env} {R : Room} {s : State} {m : MethodId} {args : Array Value} {below : List Frame} {meth : Method} {c : Code} {cells slots : Nat} {Q : State → Prop}
variable {D : va_G} {cy : Nat → ClassId} {α adV : Nat → Nat} {B0 : Nat} {h : am_H} {L : Nat} {xs : Nat → Int32} {own : String} {cc : ByteArray} {nL : Nat} {ret : Option FieldType}
/-- the true machine goes on from there -/
abbrev am_Go (p : Program) (l : Launch) (e : Env) (R : Room) (s : State) (m : MethodId) (args : Array Value) (below : List Frame) (meth : Method) (c : Code) (cells slots : Nat) (Q : State → Prop) (D : va_G) (cy : Nat → ClassId) (α adV : Nat → Nat) (B0 : Nat) (h : am_H) (nL : Nat) (go : am_G) : Prop :=
  ∀ (pc : Nat) (ls : am_L) (st : List Value) (σ : am_S) (H : Heap) (locs : List Loc) (rl : Array Slot), go pc ls st σ → am_hr D cy α adV B0 h σ s H → va_S (am_A B0) s.heap H locs → am_lr α ls rl nL → W p l e R s m args below meth c H locs cells slots Q (F0 m pc rl (st.map (am_cv α)))
set_option maxHeartbeats 4000000 in
theorem am_sim {go jmp : am_G} {cal : am_C} {q : am_Q} {fr lo : Nat} (hx : p.tables.exec = Jvm.exec) (hb : c.code = cc) (hml : c.maxLocals = nL) (hown : s.vm.findClass own = some m.cls) (hts : ∀ w ∈ am_TS, w.before args s = true) (hkk : am_kk D cy α s) (hok : am_hok h) (hB : B0 ≤ s.heap.size) (hfr : fr ≤ R.frames) (hlo : lo ≤ R.locals) (hcs : cells ≤ R.cells ∧ slots ≤ R.slots)
    (hscr : own = RL → va_X (α am_SC) L xs s s.heap ∧ α am_SC < B0) (hsl : L ≤ 3072 ∧ 3072 < 2 ^ 31)
    (Hgo : am_Go p l e R s m args below meth c cells slots Q D cy α adV B0 h nL go) (Hjmp : am_Go p l e R s m args below meth c cells slots Q D cy α adV B0 h nL jmp)
    (Hcv : ∀ (y d ci i : Nat) (as : List Value) (σ : am_S) (r : am_Q), cal y as σ r → am_kd y = 0 → h[i]? = some (ci, 0) → ci < 12 → (am_name y).cls = am_mcl ci → as.length = d + 1 → (∃ as', as = .ref i :: as') → ∀ (idx pc : Nat) (H : Heap) (locs : List Loc) (rl : Array Slot) (rest : List Value), decode cc pc = .ok (.invokevirtual idx, 3) → Cond.methodLink own idx (am_name y) ∈ am_TS → am_fr y + 1 ≤ fr → 8 + (am_max y + 11) + am_lo y ≤ lo → (parseMethodDescriptor (am_name y).desc).map (fun d => d.parameters.length) = some d → am_words rest ≤ 8 → am_hr D cy α adV B0 h σ s H → va_S (am_A B0) s.heap H locs → rl.size = nL →
      (∀ (w : Option Value) (σ' : am_S) (H' : Heap) (locs' : List Loc), r w σ' → am_hr D cy α adV B0 h σ' s H' → va_S (am_A B0) s.heap H' locs' → W p l e R s m args below meth c H' locs' cells slots Q (F0 m (pc + 3) rl ((am_push w rest).map (am_cv α)))) → W p l e R s m args below meth c H locs cells slots Q (F0 m pc rl ((as.reverse ++ rest).map (am_cv α))))
    (Hcs : ∀ (y d : Nat) (as : List Value) (σ : am_S) (r : am_Q), cal y as σ r → am_kd y = 1 → as.length = d → ∀ (idx pc : Nat) (H : Heap) (locs : List Loc) (rl : Array Slot) (rest : List Value), decode cc pc = .ok (.invokestatic idx, 3) → Cond.methodLink own idx (am_name y) ∈ am_TS → am_fr y + 1 ≤ fr → 8 + (am_max y + 11) + am_lo y ≤ lo → (parseMethodDescriptor (am_name y).desc).map (fun d => d.parameters.length) = some d → am_words rest ≤ 8 → am_hr D cy α adV B0 h σ s H → va_S (am_A B0) s.heap H locs → rl.size = nL →
      (∀ (w : Option Value) (σ' : am_S) (H' : Heap) (locs' : List Loc), r w σ' → am_hr D cy α adV B0 h σ' s H' → va_S (am_A B0) s.heap H' locs' → W p l e R s m args below meth c H' locs' cells slots Q (F0 m (pc + 3) rl ((am_push w rest).map (am_cv α)))) → W p l e R s m args below meth c H locs cells slots Q (F0 m pc rl ((as.reverse ++ rest).map (am_cv α))))
    (Hstr : own = RX5 → (6 ≤ fr ∧ 150 ≤ lo) → ∀ (t idx pc : Nat) (H : Heap) (locs : List Loc) (rl : Array Slot) (rest : List Value) (σ : am_S), t < 5 → decode cc pc = .ok (.invokevirtual idx, 3) → am_hr D cy α adV B0 h σ s H → va_S (am_A B0) s.heap H locs → rl.size = nL → (rest.map fun v => v.category).sum ≤ 8 →
      (Cond.methodLink own idx yJ0_length_8abf5 ∈ am_TS → W p l e R s m args below meth c H locs cells slots Q (F0 m (pc + 3) rl (.int (nI (am_txt t).length) :: rest)) → W p l e R s m args below meth c H locs cells slots Q (F0 m pc rl (.ref (α (am_SB + t)) :: rest))) ∧
      ∀ j, j < (am_txt t).length → Cond.methodLink own idx yJ0_charAt_5068e ∈ am_TS → W p l e R s m args below meth c H locs cells slots Q (F0 m (pc + 3) rl (.int ((am_txt t).getD j 0) :: rest)) → W p l e R s m args below meth c H locs cells slots Q (F0 m pc rl (.int (nI j) :: .ref (α (am_SB + t)) :: rest)))
    (Hri : ∀ (x : Int32) (ty : FieldType) (σ : am_S) (pc : Nat) (H : Heap) (locs : List Loc) (rl : Array Slot), q (some (.int x)) σ → ret = some ty → narrow ty (.int x) = .int x → decode cc pc = .ok (.ireturn, 1) → am_hr D cy α adV B0 h σ s H → va_S (am_A B0) s.heap H locs → W p l e R s m args below meth c H locs cells slots Q (F0 m pc rl [.int x]))
    (Hrl : ∀ (x : Int64) (σ : am_S) (pc : Nat) (H : Heap) (locs : List Loc) (rl : Array Slot), q (some (.long x)) σ → ret = some .long → decode cc pc = .ok (.lreturn, 1) → am_hr D cy α adV B0 h σ s H → va_S (am_A B0) s.heap H locs → W p l e R s m args below meth c H locs cells slots Q (F0 m pc rl [.long x]))
    (Hrv : ∀ (σ : am_S) (pc : Nat) (H : Heap) (locs : List Loc) (rl : Array Slot), q none σ → ret = none → decode cc pc = .ok (.return_, 1) → am_hr D cy α adV B0 h σ s H → va_S (am_A B0) s.heap H locs → W p l e R s m args below meth c H locs cells slots Q (F0 m pc rl []))
    {en : am_E} {t : Nat × Nat} (hdec : decode cc en.1 = .ok (en.2.1, en.2.2.1)) (hchk : am_ok own fr lo en t = true) {pc : Nat} {ls : am_L} {st : List Value} {σ : am_S} {H : Heap} {locs : List Loc} {rl : Array Slot} (X : am_step h L xs ret go jmp cal q en pc ls st σ) (hh : am_hr D cy α adV B0 h σ s H) (hS : va_S (am_A B0) s.heap H locs) (hl : am_lr α ls rl nL) :
    W p l e R s m args below meth c H locs cells slots Q (F0 m pc rl (st.map (am_cv α))) := by
  obtain ⟨I, J, Rr⟩ := σ
  obtain ⟨p0, ins, len, a, d, k, v, sw⟩ := en
  unfold am_step at X
  dsimp only at X hdec hchk
  generalize hbq : Nat.beq p0 pc = bb at X
  cases bb with
  | false => exact X.elim
  | true =>
    have e0 : p0 = pc := Nat.eq_of_beq_eq_true hbq
    subst e0
    dsimp only at X
    cases ins with
    | iconst n =>
      simp only [am_ok, Bool.and_eq_true, decide_eq_true_eq] at hchk
      obtain ⟨rfl, rfl⟩ := hchk
      exact lv_iconst hx hb hdec rfl (Hgo _ _ _ _ _ _ _ X hh hS hl)
    | bipush n =>
      simp only [am_ok, Bool.and_eq_true, decide_eq_true_eq] at hchk
      obtain ⟨rfl, rfl⟩ := hchk
      exact lv_bipush hx hb hdec rfl (Hgo _ _ _ _ _ _ _ X hh hS hl)
    | sipush n =>
      simp only [am_ok, Bool.and_eq_true, decide_eq_true_eq] at hchk
      obtain ⟨rfl, rfl⟩ := hchk
      exact lv_sipush hx hb hdec rfl (Hgo _ _ _ _ _ _ _ X hh hS hl)
    | lconst n =>
      simp only [am_ok, Bool.and_eq_true, decide_eq_true_eq] at hchk
      obtain ⟨rfl, rfl⟩ := hchk
      exact lv_lconst hx hb hdec rfl (Hgo _ _ _ _ _ _ _ X hh hS hl)
    | ldc i =>
      simp only [am_ok, Bool.and_eq_true, decide_eq_true_eq] at hchk
      obtain ⟨rfl, hchk⟩ := hchk
      cases k with
      | zero =>
        cases v with
        | int x => exact lv_ldc hx hb hown (hts _ (am_w_in hchk)) hdec (Hgo _ _ _ _ _ _ _ X hh hS hl)
        | _ => cases hchk
      | succ k =>
        simp only [Bool.and_eq_true, decide_eq_true_eq] at hchk
        obtain ⟨⟨rfl, h2⟩, rfl⟩ := hchk
        exact va_ldcS hx hb hown (hkk.2 a h2) hdec (Hgo _ _ _ _ _ _ _ X hh hS hl)
    | ldc_w i =>
      simp only [am_ok, Bool.and_eq_true, decide_eq_true_eq] at hchk
      obtain ⟨rfl, hchk⟩ := hchk
      cases v with
      | int x => exact lv_ldcw hx hb hown (hts _ (am_w_in hchk)) hdec (Hgo _ _ _ _ _ _ _ X hh hS hl)
      | _ => cases hchk
    | ldc2_w i =>
      simp only [am_ok, Bool.and_eq_true, decide_eq_true_eq] at hchk
      obtain ⟨rfl, hchk⟩ := hchk
      cases v with
      | long x => exact lv_ldc2 hx hb hown (hts _ (am_w_in hchk)) hdec (Hgo _ _ _ _ _ _ _ X hh hS hl)
      | _ => cases hchk
    | iload_n i =>
      obtain rfl : len = 1 := of_decide_eq_true hchk
      obtain ⟨w, h1, h2⟩ := am_lget_at X
      cases w with
      | int x => exact lv_iload_n hx hb hdec rfl (hl.2.2.2 _ _ h1) (Hgo _ _ _ _ _ _ _ h2 hh hS hl)
      | _ => exact h2.elim
    | iload i =>
      obtain rfl : len = 2 := of_decide_eq_true hchk
      obtain ⟨w, h1, h2⟩ := am_lget_at X
      cases w with
      | int x => exact lv_iload hx hb hdec (hl.2.2.2 _ _ h1) (Hgo _ _ _ _ _ _ _ h2 hh hS hl)
      | _ => exact h2.elim
    | lload_n i =>
      obtain rfl : len = 1 := of_decide_eq_true hchk
      obtain ⟨w, h1, h2⟩ := am_lget_at X
      cases w with
      | long x => exact lv_lload_n hx hb hdec rfl (hl.2.2.2 _ _ h1) (Hgo _ _ _ _ _ _ _ h2 hh hS hl)
      | _ => exact h2.elim
    | lload i =>
      obtain rfl : len = 2 := of_decide_eq_true hchk
      obtain ⟨w, h1, h2⟩ := am_lget_at X
      cases w with
      | long x => exact lv_lload hx hb hdec (hl.2.2.2 _ _ h1) (Hgo _ _ _ _ _ _ _ h2 hh hS hl)
      | _ => exact h2.elim
    | aload_n i =>
      obtain rfl : len = 1 := of_decide_eq_true hchk
      obtain ⟨w, h1, h2⟩ := am_lget_at X
      cases w with
      | ref x => exact lv_aload_n hx hb hdec rfl (hl.2.2.2 _ _ h1) (Hgo _ _ _ _ _ _ _ h2 hh hS hl)
      | _ => exact h2.elim
    | aload i =>
      obtain rfl : len = 2 := of_decide_eq_true hchk
      obtain ⟨w, h1, h2⟩ := am_lget_at X
      cases w with
      | ref x => exact lv_aload hx hb hdec (hl.2.2.2 _ _ h1) (Hgo _ _ _ _ _ _ _ h2 hh hS hl)
      | _ => exact h2.elim
    | istore_n i =>
      obtain rfl : len = 1 := of_decide_eq_true hchk
      obtain ⟨x, s', rfl, X⟩ := am_un_at X
      obtain ⟨ls', h1, h2, h3, -, h5⟩ := am_lset_at X
      exact lv_istore_n hx hb hdec rfl hl.has (by rw [← hl.1]; exact h3) rfl (fun rl' hr => Hgo _ _ _ _ _ _ _ h1 hh hS (hl.set1 h2 h5 hr))
    | istore i =>
      obtain rfl : len = 2 := of_decide_eq_true hchk
      obtain ⟨x, s', rfl, X⟩ := am_un_at X
      obtain ⟨ls', h1, h2, h3, -, h5⟩ := am_lset_at X
      exact lv_istore hx hb hdec hl.has (by rw [← hl.1]; exact h3) rfl (fun rl' hr => Hgo _ _ _ _ _ _ _ h1 hh hS (hl.set1 h2 h5 hr))
    | astore_n i =>
      obtain rfl : len = 1 := of_decide_eq_true hchk
      obtain ⟨x, s', rfl, X⟩ := am_rf_at X
      obtain ⟨ls', h1, h2, h3, -, h5⟩ := am_lset_at X
      exact lv_astore_n hx hb hdec rfl hl.has (by rw [← hl.1]; exact h3) rfl (fun rl' hr => Hgo _ _ _ _ _ _ _ h1 hh hS (hl.set1 h2 h5 hr))
    | astore i =>
      obtain rfl : len = 2 := of_decide_eq_true hchk
      obtain ⟨x, s', rfl, X⟩ := am_rf_at X
      obtain ⟨ls', h1, h2, h3, -, h5⟩ := am_lset_at X
      exact lv_astore hx hb hdec hl.has (by rw [← hl.1]; exact h3) rfl (fun rl' hr => Hgo _ _ _ _ _ _ _ h1 hh hS (hl.set1 h2 h5 hr))
    | lstore_n i =>
      obtain rfl : len = 1 := of_decide_eq_true hchk
      obtain ⟨x, s', rfl, X⟩ := am_lun_at X
      obtain ⟨ls', h1, h2, -, h4, h5⟩ := am_lset_at X
      exact lv_lstore_n hx hb hdec rfl hl.has (by rw [← hl.1]; exact h4 ⟨x, rfl⟩) rfl (fun rl' hr => Hgo _ _ _ _ _ _ _ h1 hh hS (hl.set2 h2 h5 hr))
    | lstore i =>
      obtain rfl : len = 2 := of_decide_eq_true hchk
      obtain ⟨x, s', rfl, X⟩ := am_lun_at X
      obtain ⟨ls', h1, h2, -, h4, h5⟩ := am_lset_at X
      exact lv_lstore hx hb hdec hl.has (by rw [← hl.1]; exact h4 ⟨x, rfl⟩) rfl (fun rl' hr => Hgo _ _ _ _ _ _ _ h1 hh hS (hl.set2 h2 h5 hr))
    | iinc i n =>
      simp only [am_ok, Bool.and_eq_true, decide_eq_true_eq] at hchk
      obtain ⟨rfl, rfl⟩ := hchk
      obtain ⟨w, h0, X⟩ := am_lget_at X
      cases w with
      | int x =>
        obtain ⟨ls', h1, h2, h3, -, h5⟩ := am_lset_at X
        obtain ⟨kk, hkk⟩ := List.getElem?_of_mem (am_lv_mem (α := α).mpr ⟨_, h0, rfl⟩)
        exact lv_iinc hx hb hdec hl.has hkk rfl (by rw [← hl.1]; exact h3) rfl (fun rl' hr => Hgo _ _ _ _ _ _ _ h1 hh hS (hl.set1 h2 h5 hr))
      | _ => exact X.elim
    | iadd =>
      obtain rfl : len = 1 := of_decide_eq_true hchk
      obtain ⟨x, y, s', rfl, X⟩ := am_bin_at X
      exact lv_iadd hx hb hdec (Hgo _ _ _ _ _ _ _ X hh hS hl)
    | isub =>
      obtain rfl : len = 1 := of_decide_eq_true hchk
      obtain ⟨x, y, s', rfl, X⟩ := am_bin_at X
      exact lv_isub hx hb hdec (Hgo _ _ _ _ _ _ _ X hh hS hl)
    | imul =>
      obtain rfl : len = 1 := of_decide_eq_true hchk
      obtain ⟨x, y, s', rfl, X⟩ := am_bin_at X
      exact lv_imul hx hb hdec (Hgo _ _ _ _ _ _ _ X hh hS hl)
    | iand =>
      obtain rfl : len = 1 := of_decide_eq_true hchk
      obtain ⟨x, y, s', rfl, X⟩ := am_bin_at X
      exact lv_iand hx hb hdec (Hgo _ _ _ _ _ _ _ X hh hS hl)
    | ior =>
      obtain rfl : len = 1 := of_decide_eq_true hchk
      obtain ⟨x, y, s', rfl, X⟩ := am_bin_at X
      exact lv_ior hx hb hdec (Hgo _ _ _ _ _ _ _ X hh hS hl)
    | ixor =>
      obtain rfl : len = 1 := of_decide_eq_true hchk
      obtain ⟨x, y, s', rfl, X⟩ := am_bin_at X
      exact lv_ixor hx hb hdec (Hgo _ _ _ _ _ _ _ X hh hS hl)
    | ishl =>
      obtain rfl : len = 1 := of_decide_eq_true hchk
      obtain ⟨x, y, s', rfl, X⟩ := am_bin_at X
      exact lv_ishl hx hb hdec (Hgo _ _ _ _ _ _ _ X hh hS hl)
    | ishr =>
      obtain rfl : len = 1 := of_decide_eq_true hchk
      obtain ⟨x, y, s', rfl, X⟩ := am_bin_at X
      exact lv_ishr hx hb hdec (Hgo _ _ _ _ _ _ _ X hh hS hl)
    | iushr =>
      obtain rfl : len = 1 := of_decide_eq_true hchk
      obtain ⟨x, y, s', rfl, X⟩ := am_bin_at X
      exact lv_iushr hx hb hdec rfl (Hgo _ _ _ _ _ _ _ X hh hS hl)
    | idiv =>
      obtain rfl : len = 1 := of_decide_eq_true hchk
      obtain ⟨x, y, s', rfl, X⟩ := am_bin_at X
      exact lv_idiv hx hb hdec X.1 (Hgo _ _ _ _ _ _ _ X.2 hh hS hl)
    | irem =>
      obtain rfl : len = 1 := of_decide_eq_true hchk
      obtain ⟨x, y, s', rfl, X⟩ := am_bin_at X
      exact lv_irem hx hb hdec X.1 (Hgo _ _ _ _ _ _ _ X.2 hh hS hl)
    | ladd =>
      obtain rfl : len = 1 := of_decide_eq_true hchk
      obtain ⟨x, y, s', rfl, X⟩ := am_lbin_at X
      exact lv_ladd hx hb hdec (Hgo _ _ _ _ _ _ _ X hh hS hl)
    | lmul =>
      obtain rfl : len = 1 := of_decide_eq_true hchk
      obtain ⟨x, y, s', rfl, X⟩ := am_lbin_at X
      exact lv_lmul hx hb hdec (Hgo _ _ _ _ _ _ _ X hh hS hl)
    | land =>
      obtain rfl : len = 1 := of_decide_eq_true hchk
      obtain ⟨x, y, s', rfl, X⟩ := am_lbin_at X
      exact lv_land hx hb hdec (Hgo _ _ _ _ _ _ _ X hh hS hl)
    | lor =>
      obtain rfl : len = 1 := of_decide_eq_true hchk
      obtain ⟨x, y, s', rfl, X⟩ := am_lbin_at X
      exact lv_lor hx hb hdec (Hgo _ _ _ _ _ _ _ X hh hS hl)
    | ldiv =>
      obtain rfl : len = 1 := of_decide_eq_true hchk
      obtain ⟨x, y, s', rfl, X⟩ := am_lbin_at X
      exact lv_ldiv hx hb hdec X.1 (Hgo _ _ _ _ _ _ _ X.2 hh hS hl)
    | lrem =>
      obtain rfl : len = 1 := of_decide_eq_true hchk
      obtain ⟨x, y, s', rfl, X⟩ := am_lbin_at X
      exact lv_lrem hx hb hdec X.1 (Hgo _ _ _ _ _ _ _ X.2 hh hS hl)
    | lcmp =>
      obtain rfl : len = 1 := of_decide_eq_true hchk
      obtain ⟨x, y, s', rfl, X⟩ := am_lbin_at X
      exact W.lcmp hx hb hdec (Hgo _ _ _ _ _ _ _ X hh hS hl)
    | lshl =>
      obtain rfl : len = 1 := of_decide_eq_true hchk
      obtain ⟨y, s', rfl, X⟩ := am_un_at X
      obtain ⟨x, s', rfl, X⟩ := am_lun_at X
      exact lv_lshl hx hb hdec rfl (Hgo _ _ _ _ _ _ _ X hh hS hl)
    | ineg =>
      obtain rfl : len = 1 := of_decide_eq_true hchk
      obtain ⟨x, s', rfl, X⟩ := am_un_at X
      exact lv_ineg hx hb hdec (Hgo _ _ _ _ _ _ _ X hh hS hl)
    | i2l =>
      obtain rfl : len = 1 := of_decide_eq_true hchk
      obtain ⟨x, s', rfl, X⟩ := am_un_at X
      exact lv_i2l hx hb hdec rfl (Hgo _ _ _ _ _ _ _ X hh hS hl)
    | i2b =>
      obtain rfl : len = 1 := of_decide_eq_true hchk
      obtain ⟨x, s', rfl, X⟩ := am_un_at X
      exact lv_i2b hx hb hdec rfl (Hgo _ _ _ _ _ _ _ X hh hS hl)
    | i2s =>
      obtain rfl : len = 1 := of_decide_eq_true hchk
      obtain ⟨x, s', rfl, X⟩ := am_un_at X
      exact lv_i2s hx hb hdec rfl (Hgo _ _ _ _ _ _ _ X hh hS hl)
    | i2c =>
      obtain rfl : len = 1 := of_decide_eq_true hchk
      obtain ⟨x, s', rfl, X⟩ := am_un_at X
      exact lv_i2c hx hb hdec rfl (Hgo _ _ _ _ _ _ _ X hh hS hl)
    | l2i =>
      obtain rfl : len = 1 := of_decide_eq_true hchk
      obtain ⟨x, s', rfl, X⟩ := am_lun_at X
      exact lv_l2i hx hb hdec rfl (Hgo _ _ _ _ _ _ _ X hh hS hl)
    | dup =>
      obtain rfl : len = 1 := of_decide_eq_true hchk
      dsimp only at X
      split at X
      · exact lv_dup hx hb hdec rfl (Hgo _ _ _ _ _ _ _ X hh hS hl)
      · exact lv_dup hx hb hdec rfl (Hgo _ _ _ _ _ _ _ X hh hS hl)
      · exact X.elim
    | pop =>
      obtain rfl : len = 1 := of_decide_eq_true hchk
      dsimp only at X
      split at X
      · exact lv_pop hx hb hdec rfl (Hgo _ _ _ _ _ _ _ X hh hS hl)
      · exact lv_pop hx hb hdec rfl (Hgo _ _ _ _ _ _ _ X hh hS hl)
      · exact X.elim
    | dup2 =>
      obtain rfl : len = 1 := of_decide_eq_true hchk
      dsimp only at X
      split at X
      · exact lv_dup2_11 hx hb hdec rfl rfl (Hgo _ _ _ _ _ _ _ X hh hS hl)
      · exact X.elim
    | ifCond cd o =>
      simp only [am_ok, Bool.and_eq_true, decide_eq_true_eq] at hchk
      obtain ⟨rfl, h1⟩ := hchk
      obtain ⟨x, s', rfl, X⟩ := am_un_at X
      cases cd with
      | eq => exact lv_if_eq hx hb hdec h1 (fun q => Hjmp _ _ _ _ _ _ _ (X.1 q) hh hS hl) (fun q => Hgo _ _ _ _ _ _ _ (X.2 q) hh hS hl)
      | ne => exact lv_if_ne hx hb hdec h1 (fun q => Hjmp _ _ _ _ _ _ _ (X.1 q) hh hS hl) (fun q => Hgo _ _ _ _ _ _ _ (X.2 q) hh hS hl)
      | lt => exact lv_if_lt hx hb hdec h1 (fun q => Hjmp _ _ _ _ _ _ _ (X.1 q) hh hS hl) (fun q => Hgo _ _ _ _ _ _ _ (X.2 q) hh hS hl)
      | ge => exact lv_if_ge hx hb hdec h1 (fun q => Hjmp _ _ _ _ _ _ _ (X.1 q) hh hS hl) (fun q => Hgo _ _ _ _ _ _ _ (X.2 q) hh hS hl)
      | gt => exact lv_if_gt hx hb hdec h1 (fun q => Hjmp _ _ _ _ _ _ _ (X.1 q) hh hS hl) (fun q => Hgo _ _ _ _ _ _ _ (X.2 q) hh hS hl)
      | le => exact lv_if_le hx hb hdec h1 (fun q => Hjmp _ _ _ _ _ _ _ (X.1 q) hh hS hl) (fun q => Hgo _ _ _ _ _ _ _ (X.2 q) hh hS hl)
    | if_icmp cd o =>
      simp only [am_ok, Bool.and_eq_true, decide_eq_true_eq] at hchk
      obtain ⟨rfl, h1⟩ := hchk
      obtain ⟨x, y, s', rfl, X⟩ := am_bin_at X
      cases cd with
      | eq => exact lv_icmp_eq hx hb hdec h1 (fun q => Hjmp _ _ _ _ _ _ _ (X.1 q) hh hS hl) (fun q => Hgo _ _ _ _ _ _ _ (X.2 q) hh hS hl)
      | ne => exact lv_icmp_ne hx hb hdec h1 (fun q => Hjmp _ _ _ _ _ _ _ (X.1 q) hh hS hl) (fun q => Hgo _ _ _ _ _ _ _ (X.2 q) hh hS hl)
      | lt => exact lv_icmp_lt hx hb hdec h1 (fun q => Hjmp _ _ _ _ _ _ _ (X.1 q) hh hS hl) (fun q => Hgo _ _ _ _ _ _ _ (X.2 q) hh hS hl)
      | ge => exact lv_icmp_ge hx hb hdec h1 (fun q => Hjmp _ _ _ _ _ _ _ (X.1 q) hh hS hl) (fun q => Hgo _ _ _ _ _ _ _ (X.2 q) hh hS hl)
      | gt => exact lv_icmp_gt hx hb hdec h1 (fun q => Hjmp _ _ _ _ _ _ _ (X.1 q) hh hS hl) (fun q => Hgo _ _ _ _ _ _ _ (X.2 q) hh hS hl)
      | le => exact lv_icmp_le hx hb hdec h1 (fun q => Hjmp _ _ _ _ _ _ _ (X.1 q) hh hS hl) (fun q => Hgo _ _ _ _ _ _ _ (X.2 q) hh hS hl)
    | goto o =>
      simp only [am_ok, Bool.and_eq_true, decide_eq_true_eq] at hchk
      obtain ⟨rfl, h1⟩ := hchk
      exact lv_goto hx hb hdec h1 (Hjmp _ _ _ _ _ _ _ X hh hS hl)
    | tableswitch df l0 hi os =>
      simp only [am_ok, Bool.and_eq_true, decide_eq_true_eq] at hchk
      obtain ⟨⟨h1, h2⟩, h3⟩ := hchk
      obtain ⟨x, s', rfl, X⟩ := am_un_at X
      rcases am_swc_at h2 X with ⟨g1, g2⟩ | ⟨i, o, t', g1, g2, g3, g4⟩
      · exact lv_tableOut hx hb hdec (by rw [h3]; exact g1) h1 (Hjmp _ _ _ _ _ _ _ g2 hh hS hl)
      · have hi' : i < os.toList.length := (List.getElem?_eq_some_iff.mp g2).1
        exact lv_tableIn hx hb hdec (by omega) (by omega) (by rw [show (x.toInt - l0).toNat = i by omega, ← Array.getElem?_toList]; exact g2) g3 (Hjmp _ _ _ _ _ _ _ g4 hh hS hl)
    | getfield i =>
      simp only [am_ok, Bool.and_eq_true, decide_eq_true_eq] at hchk
      obtain ⟨rfl, hchk⟩ := hchk
      obtain ⟨o, s', rfl, Y⟩ := am_rf_at X
      clear X
      split at hchk
      · rename_i C T N hcl
        simp only [Bool.and_eq_true, decide_eq_true_eq] at hchk
        obtain ⟨⟨h1, h2⟩, h3⟩ := hchk
        obtain ⟨f1, f2, f3, f4⟩ := am_ft_ok hcl
        have hin := am_cls hcl
        have hlk := hts _ (am_w_in h2)
        have key : ∀ hi : h[o]? = some (a, 0), W p l e R s m args below meth c H locs cells slots Q (F0 m (p0 + 3) rl (am_fv α (I, J, Rr) o a d :: s'.map (am_cv α))) → W p l e R s m args below meth c H locs cells slots Q (F0 m p0 rl (.ref (α o) :: s'.map (am_cv α))) := by
          intro hi kk
          have hg := am_ws_get (cy := cy) (α := α) (σ := (I, J, Rr)) hi
          rw [am_cell_O f1] at hg
          exact va_get (ci := a) hx hb hts hin hown hkk.1 hh.1 o hg hcl d h1 hlk (fun x hx => hx) (am_fs_at (by rw [f2]; exact h1)) hdec kk
        split at Y
        · obtain ⟨j, g1, g2, g3⟩ := Y
          refine key g1 ?_
          have hv : am_fv α (I, J, Rr) o a d = .ref (α j) := by
            unfold am_fv
            rw [if_pos (h3.mp rfl)]
            show va_rf ((Rr o d).map α) = _
            rw [g2]
            rfl
          rw [hv]
          exact Hgo _ _ _ _ _ _ _ g3 hh hS hl
        · rename_i hk
          refine key Y.1 ?_
          have hv : am_fv α (I, J, Rr) o a d = .int (I o d) := by
            unfold am_fv
            rw [if_neg (fun q => hk (h3.mpr q))]
          rw [hv]
          exact Hgo _ _ _ _ _ _ _ Y.2 hh hS hl
      · cases hchk
    | putfield i =>
      simp only [am_ok, Bool.and_eq_true, decide_eq_true_eq] at hchk
      obtain ⟨rfl, hchk⟩ := hchk
      split at hchk
      · rename_i C T N hcl
        simp only [Bool.and_eq_true, decide_eq_true_eq] at hchk
        obtain ⟨⟨⟨⟨h1, h2⟩, h3⟩, h4⟩, h5⟩ := hchk
        obtain ⟨f1, f2, f3, f4⟩ := am_ft_ok hcl
        have hin := am_cls hcl
        have hlk := hts _ (am_w_in h2)
        dsimp only at X
        split at X
        · rename_i x o s'
          have key : ∀ (hi : h[o]? = some (a, 0)) (hR : am_isR (am_ft a d) = false) (hn : narrow (am_ft a d) (.int x) = .int x) (hf : fits (am_ft a d) (.int x) = true) (X : go (p0 + 3) ls s' (am_up I o d x, J, Rr)), W p l e R s m args below meth c H locs cells slots Q (F0 m p0 rl (.int x :: .ref (α o) :: s'.map (am_cv α))) := by
            intro hi hR hn hf X
            have hg := am_ws_get (cy := cy) (α := α) (σ := (I, J, Rr)) hi
            rw [am_cell_O f1] at hg
            refine va_put (ci := a) (v := .int x) hx hb hts hin (am_ft a) f3 f4 hown hkk.1 hh.1 hh.2.1 hS o hg hcl d h1 hlk (fun x hx => hx) h3 (f3 d h1) hn hf (by rw [List.length_map, List.length_range, f2]; exact h1) hdec (fun H1 locs1 hP hD hS1 => ?_)
            refine Hgo _ _ _ _ _ _ _ X (hh.put hS (σ' := (am_up I o d x, J, Rr)) hi (fun j hj => ⟨am_row_up hj, rfl, rfl⟩) (am_S_eq hB hS hS1) ?_ ?_) hS1 hl
            · rw [am_cell_O f1, am_lst_set (by rw [f2]; exact h1) hR]
              exact hP
            · rw [am_cell_O f1, am_lst_set (by rw [f2]; exact h1) hR]
              exact hD
          split at X
          · have ht := h4 rfl
            exact key X.1 (by rw [ht]; rfl) (by rw [ht]; rfl) (by rw [ht]; rfl) X.2
          · have ht := h5 rfl
            rcases X.2.1 with rfl | rfl
            · exact key X.1 (by rw [ht]; rfl) (by rw [ht]; rfl) (by rw [ht]; rfl) X.2.2
            · exact key X.1 (by rw [ht]; rfl) (by rw [ht]; rfl) (by rw [ht]; rfl) X.2.2
          · exact X.elim
        · exact X.elim
      · cases hchk
    | iaload =>
      simp only [am_ok, Bool.and_eq_true, decide_eq_true_eq] at hchk
      obtain ⟨rfl, hk⟩ := hchk
      obtain ⟨i, s1, rfl, Y⟩ := am_un_at X
      clear X
      obtain ⟨o, s', rfl, Z⟩ := am_rf_at Y
      clear Y
      split at Z
      · obtain ⟨n, j, g1, g2, rfl, g4⟩ := Z
        obtain ⟨i1, i2⟩ := am_inI g2 (hok _ _ _ g1)
        have hg := am_ws_get (cy := cy) (α := α) (σ := (I, J, Rr)) g1
        rw [am_cell_I (by decide)] at hg
        refine va_iald hx hb hkk.1 hh.1 o 2 hg rfl i1 hdec ?_
        rw [i2]
        exact Hgo _ _ _ _ _ _ _ g4 hh hS hl
      · rename_i hne
        rcases hk with rfl | rfl
        · exact absurd rfl hne
        · obtain ⟨rfl, j, g2, rfl, g4⟩ := Z
          obtain ⟨hX, hXb⟩ := hscr rfl
          obtain ⟨z1, z2⟩ := hsl
          obtain ⟨i1, i2⟩ := am_inI g2 (Nat.lt_of_le_of_lt z1 z2)
          refine va_sld hx hb hX (Nat.lt_of_lt_of_le hXb hB) (Nat.not_le.mpr hXb) hS i1 hdec ?_
          rw [i2]
          exact Hgo _ _ _ _ _ _ _ g4 hh hS hl
    | arraylength =>
      simp only [am_ok, Bool.and_eq_true, decide_eq_true_eq] at hchk
      obtain ⟨rfl, rfl⟩ := hchk
      obtain ⟨o, s', rfl, Y⟩ := am_rf_at X
      clear X
      obtain ⟨rfl, Y⟩ := Y
      obtain ⟨hX, hXb⟩ := hscr rfl
      exact va_slen hx hb hX (Nat.lt_of_lt_of_le hXb hB) (Nat.not_le.mpr hXb) hS hdec (Hgo _ _ _ _ _ _ _ Y hh hS hl)
    | baload =>
      simp only [am_ok, Bool.and_eq_true, decide_eq_true_eq] at hchk
      obtain ⟨rfl, hk⟩ := hchk
      obtain ⟨i, s1, rfl, Y⟩ := am_un_at X
      clear X
      obtain ⟨o, s', rfl, Z⟩ := am_rf_at Y
      clear Y
      obtain ⟨n, j, g1, g2, rfl, g4⟩ := Z
      obtain ⟨i1, i2⟩ := am_inI g2 (hok _ _ _ g1)
      have hg := am_ws_get (cy := cy) (α := α) (σ := (I, J, Rr)) g1
      rcases hk with rfl | rfl
      · rw [am_cell_I (by decide)] at hg
        refine va_bald hx hb hkk.1 hh.1 o 0 hg rfl i1 hdec ?_
        rw [i2]
        exact Hgo _ _ _ _ _ _ _ g4 hh hS hl
      · rw [am_cell_I (by decide)] at hg
        refine va_zald hx hb hkk.1 hh.1 o 4 hg rfl i1 hdec ?_
        rw [i2]
        exact Hgo _ _ _ _ _ _ _ g4 hh hS hl
    | caload =>
      obtain rfl : len = 1 := of_decide_eq_true hchk
      obtain ⟨i, s1, rfl, Y⟩ := am_un_at X
      clear X
      obtain ⟨o, s', rfl, Z⟩ := am_rf_at Y
      clear Y
      obtain ⟨n, j, g1, g2, rfl, g4⟩ := Z
      obtain ⟨i1, i2⟩ := am_inI g2 (hok _ _ _ g1)
      have hg := am_ws_get (cy := cy) (α := α) (σ := (I, J, Rr)) g1
      rw [am_cell_I (by decide)] at hg
      refine va_cald hx hb hkk.1 hh.1 o 1 hg rfl i1 hdec ?_
      rw [i2]
      exact Hgo _ _ _ _ _ _ _ g4 hh hS hl
    | laload =>
      obtain rfl : len = 1 := of_decide_eq_true hchk
      obtain ⟨i, s1, rfl, Y⟩ := am_un_at X
      clear X
      obtain ⟨o, s', rfl, Z⟩ := am_rf_at Y
      clear Y
      obtain ⟨n, j, g1, g2, rfl, g4⟩ := Z
      obtain ⟨i1, i2⟩ := am_inI g2 (hok _ _ _ g1)
      have hg := am_ws_get (cy := cy) (α := α) (σ := (I, J, Rr)) g1
      rw [am_cell_J] at hg
      refine va_lald hx hb hkk.1 hh.1 o 3 hg rfl i1 hdec ?_
      rw [i2]
      exact Hgo _ _ _ _ _ _ _ g4 hh hS hl
    | aaload =>
      simp only [am_ok, Bool.and_eq_true, decide_eq_true_eq] at hchk
      obtain ⟨rfl, hk⟩ := hchk
      obtain ⟨i, s1, rfl, Y⟩ := am_un_at X
      clear X
      obtain ⟨o, s', rfl, Z⟩ := am_rf_at Y
      clear Y
      obtain ⟨n, j, g1, g2, rfl, r, g3, g4⟩ := Z
      obtain ⟨i1, i2⟩ := am_inI g2 (hok _ _ _ g1)
      have hg := am_ws_get (cy := cy) (α := α) (σ := (I, J, Rr)) g1
      rw [am_cell_R (by omega)] at hg
      have hv : va_rf ((fun j => ((I, J, Rr).2.2 o j).map α) (nI j).toNatClampNeg) = .ref (α r) := by
        rw [i2]
        show va_rf ((Rr o j).map α) = _
        rw [g3]
        rfl
      rcases hk with rfl | rfl | rfl
      · refine va_aldq hx hb hkk.1 hh.1 o 5 hg rfl i1 hdec ?_
        rw [hv]
        exact Hgo _ _ _ _ _ _ _ g4 hh hS hl
      · refine va_aldq hx hb hkk.1 hh.1 o 6 hg rfl i1 hdec ?_
        rw [hv]
        exact Hgo _ _ _ _ _ _ _ g4 hh hS hl
      · refine am_alda hx hb hkk.1 hh.1 o 7 hg rfl i1 hdec ?_
        rw [hv]
        exact Hgo _ _ _ _ _ _ _ g4 hh hS hl
    | iastore =>
      obtain rfl : len = 1 := of_decide_eq_true hchk
      obtain ⟨x, s0, rfl, Y0⟩ := am_un_at X
      clear X
      obtain ⟨i, s1, rfl, Y⟩ := am_un_at Y0
      clear Y0
      obtain ⟨o, s', rfl, Z⟩ := am_rf_at Y
      clear Y
      obtain ⟨n, j, g1, g2, rfl, g4⟩ := Z
      obtain ⟨i1, i2⟩ := am_inI g2 (hok _ _ _ g1)
      have hg := am_ws_get (cy := cy) (α := α) (σ := (I, J, Rr)) g1
      rw [am_cell_I (by decide)] at hg
      refine va_iast hx hb hkk.1 hh.1 hh.2.1 hS o 2 hg rfl i1 hdec (fun H1 locs1 hP hD hS1 => ?_)
      rw [i2] at hP hD
      refine Hgo _ _ _ _ _ _ _ g4 (hh.put hS (σ' := (am_up I o j x, J, Rr)) g1 (fun j hj => ⟨am_row_up hj, rfl, rfl⟩) (am_S_eq hB hS hS1) ?_ ?_) hS1 hl
      · rw [am_cell_I (by decide)]
        dsimp only
        rw [am_up_self]
        exact hP
      · rw [am_cell_I (by decide)]
        dsimp only
        rw [am_up_self]
        exact hD
    | bastore =>
      simp only [am_ok, Bool.and_eq_true, decide_eq_true_eq] at hchk
      obtain ⟨rfl, hk⟩ := hchk
      obtain ⟨x, s0, rfl, Y0⟩ := am_un_at X
      clear X
      obtain ⟨i, s1, rfl, Y⟩ := am_un_at Y0
      clear Y0
      obtain ⟨o, s', rfl, Z⟩ := am_rf_at Y
      clear Y
      obtain ⟨n, j, g1, g2, rfl, g4⟩ := Z
      obtain ⟨i1, i2⟩ := am_inI g2 (hok _ _ _ g1)
      have hg := am_ws_get (cy := cy) (α := α) (σ := (I, J, Rr)) g1
      rcases hk with rfl | rfl
      · rw [am_cell_I (by decide)] at hg
        refine va_bast hx hb hkk.1 hh.1 hh.2.1 hS o 0 hg rfl i1 hdec (fun H1 locs1 hP hD hS1 => ?_)
        rw [i2] at hP hD
        refine Hgo _ _ _ _ _ _ _ g4 (hh.put hS (σ' := (am_up I o j (vp_nar .byte x), J, Rr)) g1 (fun j hj => ⟨am_row_up hj, rfl, rfl⟩) (am_S_eq hB hS hS1) ?_ ?_) hS1 hl
        · rw [am_cell_I (by decide)]
          dsimp only
          rw [am_up_self]
          exact hP
        · rw [am_cell_I (by decide)]
          dsimp only
          rw [am_up_self]
          exact hD
      · rw [am_cell_I (by decide)] at hg
        refine va_zast hx hb hkk.1 hh.1 hh.2.1 hS o 4 hg rfl i1 hdec (fun H1 locs1 hP hD hS1 => ?_)
        rw [i2] at hP hD
        refine Hgo _ _ _ _ _ _ _ g4 (hh.put hS (σ' := (am_up I o j (vp_nar .boolean x), J, Rr)) g1 (fun j hj => ⟨am_row_up hj, rfl, rfl⟩) (am_S_eq hB hS hS1) ?_ ?_) hS1 hl
        · rw [am_cell_I (by decide)]
          dsimp only
          rw [am_up_self]
          exact hP
        · rw [am_cell_I (by decide)]
          dsimp only
          rw [am_up_self]
          exact hD
    | castore =>
      obtain rfl : len = 1 := of_decide_eq_true hchk
      obtain ⟨x, s0, rfl, Y0⟩ := am_un_at X
      clear X
      obtain ⟨i, s1, rfl, Y⟩ := am_un_at Y0
      clear Y0
      obtain ⟨o, s', rfl, Z⟩ := am_rf_at Y
      clear Y
      obtain ⟨n, j, g1, g2, rfl, g4⟩ := Z
      obtain ⟨i1, i2⟩ := am_inI g2 (hok _ _ _ g1)
      have hg := am_ws_get (cy := cy) (α := α) (σ := (I, J, Rr)) g1
      rw [am_cell_I (by decide)] at hg
      refine va_cast hx hb hkk.1 hh.1 hh.2.1 hS o 1 hg rfl i1 hdec (fun H1 locs1 hP hD hS1 => ?_)
      rw [i2] at hP hD
      refine Hgo _ _ _ _ _ _ _ g4 (hh.put hS (σ' := (am_up I o j (vp_nar .char x), J, Rr)) g1 (fun j hj => ⟨am_row_up hj, rfl, rfl⟩) (am_S_eq hB hS hS1) ?_ ?_) hS1 hl
      · rw [am_cell_I (by decide)]
        dsimp only
        rw [am_up_self]
        exact hP
      · rw [am_cell_I (by decide)]
        dsimp only
        rw [am_up_self]
        exact hD
    | lastore =>
      obtain rfl : len = 1 := of_decide_eq_true hchk
      obtain ⟨x, s0, rfl, Y0⟩ := am_lun_at X
      clear X
      obtain ⟨i, s1, rfl, Y⟩ := am_un_at Y0
      clear Y0
      obtain ⟨o, s', rfl, Z⟩ := am_rf_at Y
      clear Y
      obtain ⟨n, j, g1, g2, rfl, g4⟩ := Z
      obtain ⟨i1, i2⟩ := am_inI g2 (hok _ _ _ g1)
      have hg := am_ws_get (cy := cy) (α := α) (σ := (I, J, Rr)) g1
      rw [am_cell_J] at hg
      refine va_last hx hb hkk.1 hh.1 hh.2.1 hS o 3 hg rfl i1 hdec (fun H1 locs1 hP hD hS1 => ?_)
      rw [i2] at hP hD
      refine Hgo _ _ _ _ _ _ _ g4 (hh.put hS (σ' := (I, am_up J o j x, Rr)) g1 (fun j hj => ⟨rfl, am_row_up hj, rfl⟩) (am_S_eq hB hS hS1) ?_ ?_) hS1 hl
      · rw [am_cell_J]
        dsimp only
        rw [am_up_selfL]
        exact hP
      · rw [am_cell_J]
        dsimp only
        rw [am_up_selfL]
        exact hD
    | aastore =>
      simp only [am_ok, Bool.and_eq_true, decide_eq_true_eq] at hchk
      obtain ⟨rfl, hk⟩ := hchk
      obtain ⟨x, s0, rfl, Y0⟩ := am_rf_at X
      clear X
      obtain ⟨i, s1, rfl, Y⟩ := am_un_at Y0
      clear Y0
      obtain ⟨o, s', rfl, Z⟩ := am_rf_at Y
      clear Y
      obtain ⟨n, j, g1, g2, rfl, g3, g4⟩ := Z
      obtain ⟨i1, i2⟩ := am_inI g2 (hok _ _ _ g1)
      have hg := am_ws_get (cy := cy) (α := α) (σ := (I, J, Rr)) g1
      have hgx := am_ws_get (cy := cy) (α := α) (σ := (I, J, Rr)) g3
      have hup : (fun j' => ((I, J, am_up Rr o j (some x)).2.2 o j').map α) = va_up (fun j' => ((I, J, Rr).2.2 o j').map α) j (some (α x)) := by
        funext j'
        by_cases e : j' = j
        · simp [am_up, va_up, e]
        · simp [am_up, va_up, e]
      rcases hk with ⟨rfl, rfl⟩ | ⟨rfl, rfl⟩
      · rw [am_cell_R (by decide)] at hg
        rw [am_cell_O (by decide)] at hgx
        refine va_astq (r := (RX7, TX7, 4)) hx hb hkk.1 hh.1 hh.2.1 hS o 5 x 7 hg rfl hgx rfl i1 hdec (fun H1 locs1 hP hD hS1 => ?_)
        rw [i2] at hP hD
        refine Hgo _ _ _ _ _ _ _ g4 (hh.put hS (σ' := (I, J, am_up Rr o j (some x))) g1 (fun j hj => ⟨rfl, rfl, am_row_up hj⟩) (am_S_eq hB hS hS1) ?_ ?_) hS1 hl
        · rw [am_cell_R (by decide), hup]
          exact hP
        · rw [am_cell_R (by decide), hup]
          exact hD
      · rw [am_cell_R (by decide)] at hg
        rw [am_cell_O (by decide)] at hgx
        refine va_astq (r := (RX8, TX8, 5)) hx hb hkk.1 hh.1 hh.2.1 hS o 6 x 8 hg rfl hgx rfl i1 hdec (fun H1 locs1 hP hD hS1 => ?_)
        rw [i2] at hP hD
        refine Hgo _ _ _ _ _ _ _ g4 (hh.put hS (σ' := (I, J, am_up Rr o j (some x))) g1 (fun j hj => ⟨rfl, rfl, am_row_up hj⟩) (am_S_eq hB hS hS1) ?_ ?_) hS1 hl
        · rw [am_cell_R (by decide), hup]
          exact hP
        · rw [am_cell_R (by decide), hup]
          exact hD
    | invokevirtual i =>
      simp only [am_ok, Bool.and_eq_true, decide_eq_true_eq] at hchk
      obtain ⟨rfl, hchk⟩ := hchk
      dsimp only at X
      match k, hchk, X with
      | 0, hchk, X =>
        simp only [Bool.and_eq_true, decide_eq_true_eq] at hchk
        obtain ⟨o, s', rfl, Y⟩ := am_rf_at X
        clear X
        split at Y
        · rename_i hw
          obtain ⟨t', rfl, g2, g3⟩ := Y
          exact (Hstr hchk.1.1 hchk.1.2 t' i p0 H locs rl _ (I, J, Rr) g2 hdec hh hS hl.2.1 (by rw [am_words_cv]; exact Nat.le_of_ble_eq_true hw)).1 (am_w_in hchk.2) (Hgo _ _ _ _ _ _ _ g3 hh hS hl)
        · exact Y.elim
      | 1, hchk, X =>
        simp only [Bool.and_eq_true, decide_eq_true_eq] at hchk
        obtain ⟨x, s1, rfl, Y0⟩ := am_un_at X
        clear X
        obtain ⟨o, s', rfl, Y⟩ := am_rf_at Y0
        clear Y0
        split at Y
        · rename_i hw
          obtain ⟨t', j, rfl, g2, g3, rfl, g4⟩ := Y
          exact (Hstr hchk.1.1 hchk.1.2 t' i p0 H locs rl _ (I, J, Rr) g2 hdec hh hS hl.2.1 (by rw [am_words_cv]; exact Nat.le_of_ble_eq_true hw)).2 j g3 (am_w_in hchk.2) (Hgo _ _ _ _ _ _ _ g4 hh hS hl)
        · exact Y.elim
      | ci + 2, hchk, X =>
        simp only [Bool.and_eq_true, decide_eq_true_eq] at hchk
        obtain ⟨⟨⟨⟨⟨⟨c1, c2⟩, c3⟩, c4⟩, c5⟩, c6⟩, c7⟩ := hchk
        obtain ⟨as, s', rfl, g2, Y⟩ := am_pop_at X
        clear X
        rw [List.append_nil] at Y
        split at Y
        · rename_i hw
          split at Y
          · exact Hcv a d ci _ _ _ _ Y.2 c7 Y.1 c6 c5 g2 ⟨_, rfl⟩ i p0 H locs rl s' hdec (am_w_in c1) c2 c3 c4 (Nat.le_of_ble_eq_true hw) hh hS hl.2.1 (fun w σ' H' locs' gg hh' hS' => Hgo _ _ _ _ _ _ _ gg hh' hS' hl)
          · exact Y.elim
        · exact Y.elim
    | invokestatic i =>
      simp only [am_ok, Bool.and_eq_true, decide_eq_true_eq] at hchk
      obtain ⟨rfl, hchk⟩ := hchk
      dsimp only at X
      match k, hchk, X with
      | 0, hchk, X =>
        simp only [Bool.and_eq_true, decide_eq_true_eq] at hchk
        obtain ⟨⟨⟨⟨c1, c2⟩, c3⟩, c4⟩, c7⟩ := hchk
        obtain ⟨as, s', rfl, g2, Y⟩ := am_pop_at X
        clear X
        rw [List.append_nil] at Y
        split at Y
        · rename_i hw
          exact Hcs a d _ _ _ Y c7 g2 i p0 H locs rl s' hdec (am_w_in c1) c2 c3 c4 (Nat.le_of_ble_eq_true hw) hh hS hl.2.1 (fun w σ' H' locs' gg hh' hS' => Hgo _ _ _ _ _ _ _ gg hh' hS' hl)
        · exact Y.elim
      | 1, hchk, X =>
        simp only [Bool.and_eq_true, decide_eq_true_eq] at hchk
        obtain ⟨⟨c1, c2⟩, c3⟩ := hchk
        obtain ⟨n, s0, rfl, Y1⟩ := am_un_at X
        clear X
        obtain ⟨dp, s1, rfl, Y2⟩ := am_un_at Y1
        clear Y1
        obtain ⟨o, s2, rfl, Y3⟩ := am_rf_at Y2
        clear Y2
        obtain ⟨sp, s3, rfl, Y4⟩ := am_un_at Y3
        clear Y3
        obtain ⟨u, s', rfl, Y⟩ := am_rf_at Y4
        clear Y4
        split at Y
        · rename_i hw
          obtain ⟨nu, nt, i', j', m', g1, g2, g3, g4, rfl, rfl, rfl, g8⟩ := Y
          have b1 := hok _ _ _ g1
          have b2 := hok _ _ _ g2
          have hg1 := am_ws_get (cy := cy) (α := α) (σ := (I, J, Rr)) g1
          have hg2 := am_ws_get (cy := cy) (α := α) (σ := (I, J, Rr)) g2
          rw [am_cell_I (by decide)] at hg1 hg2
          have e1 : (nI i').toNatClampNeg = i' := nI_clamp (by omega)
          have e2 : (nI j').toNatClampNeg = j' := nI_clamp (by omega)
          have e3 : (nI m').toNatClampNeg = m' := nI_clamp (by omega)
          refine va_copyi hx hb (by rw [hml]; exact hl.2.1.symm) hown (hts _ (am_w_in c1)) (hts _ am_acn) (hts _ am_acs) (hts _ am_aci) hkk.1 hh.1 hh.2.1 hS u o 2 2 hg1 hg2 rfl rfl rfl (nI_pos (by omega)) (nI_pos (by omega)) (nI_pos (by omega)) (by rw [e1, e3]; exact g3) (by rw [e2, e3]; exact g4) (fun _ _ => rfl) (by omega) (Nat.le_trans (Nat.add_le_add_right (by rw [am_words_cv]; exact Nat.le_of_ble_eq_true hw) _) (Nat.le_trans c3 hlo)) hdec (fun H1 locs1 hP hD hS1 => ?_)
          rw [e1, e2, e3] at hP hD
          refine Hgo _ _ _ _ _ _ _ g8 (hh.put hS (σ' := (am_row I o (va_cpy (I u) (I o) i' j' m'), J, Rr)) g2 (fun j hj => ⟨am_rowr hj, rfl, rfl⟩) (am_S_eq hB hS hS1) ?_ ?_) hS1 hl
          · rw [am_cell_I (by decide)]
            dsimp only
            rw [am_row_self]
            exact hP
          · rw [am_cell_I (by decide)]
            dsimp only
            rw [am_row_self]
            exact hD
        · exact Y.elim
      | 2, hchk, X =>
        simp only [Bool.and_eq_true, decide_eq_true_eq] at hchk
        obtain ⟨⟨c1, c2⟩, c3⟩ := hchk
        obtain ⟨n, s0, rfl, Y1⟩ := am_un_at X
        clear X
        obtain ⟨dp, s1, rfl, Y2⟩ := am_un_at Y1
        clear Y1
        obtain ⟨o, s2, rfl, Y3⟩ := am_rf_at Y2
        clear Y2
        obtain ⟨sp, s3, rfl, Y4⟩ := am_un_at Y3
        clear Y3
        obtain ⟨u, s', rfl, Y⟩ := am_rf_at Y4
        clear Y4
        split at Y
        · rename_i hw
          obtain ⟨nu, nt, i', j', m', g1, g2, g3, g4, rfl, rfl, rfl, g8⟩ := Y
          have b1 := hok _ _ _ g1
          have b2 := hok _ _ _ g2
          have hg1 := am_ws_get (cy := cy) (α := α) (σ := (I, J, Rr)) g1
          have hg2 := am_ws_get (cy := cy) (α := α) (σ := (I, J, Rr)) g2
          rw [am_cell_J] at hg1 hg2
          have e1 : (nI i').toNatClampNeg = i' := nI_clamp (by omega)
          have e2 : (nI j').toNatClampNeg = j' := nI_clamp (by omega)
          have e3 : (nI m').toNatClampNeg = m' := nI_clamp (by omega)
          refine va_copyl hx hb (by rw [hml]; exact hl.2.1.symm) hown (hts _ (am_w_in c1)) (hts _ am_acn) (hts _ am_acs) (hts _ am_aci) hkk.1 hh.1 hh.2.1 hS u o 3 3 hg1 hg2 rfl rfl rfl (nI_pos (by omega)) (nI_pos (by omega)) (nI_pos (by omega)) (by rw [e1, e3]; exact g3) (by rw [e2, e3]; exact g4) (fun _ _ => rfl) (by omega) (Nat.le_trans (Nat.add_le_add_right (by rw [am_words_cv]; exact Nat.le_of_ble_eq_true hw) _) (Nat.le_trans c3 hlo)) hdec (fun H1 locs1 hP hD hS1 => ?_)
          rw [e1, e2, e3] at hP hD
          refine Hgo _ _ _ _ _ _ _ g8 (hh.put hS (σ' := (I, am_row J o (va_cpy (J u) (J o) i' j' m'), Rr)) g2 (fun j hj => ⟨rfl, am_rowr hj, rfl⟩) (am_S_eq hB hS hS1) ?_ ?_) hS1 hl
          · rw [am_cell_J]
            dsimp only
            rw [am_row_self]
            exact hP
          · rw [am_cell_J]
            dsimp only
            rw [am_row_self]
            exact hD
        · exact Y.elim
      | 3, hchk, X =>
        simp only [Bool.and_eq_true, decide_eq_true_eq] at hchk
        obtain ⟨⟨c1, c2⟩, c3⟩ := hchk
        obtain ⟨x, y, s', rfl, Y⟩ := am_bin_at X
        clear X
        split at Y
        · rename_i hw
          exact va_mmax hx hb (by rw [hml]; exact hl.2.1.symm) hown (hts _ (am_w_in c1)) (hts _ am_mxs) (hts _ am_mxi) (hts _ am_mxc) (by omega) (by rw [am_words_cv]; have := Nat.le_of_ble_eq_true hw; omega) hcs.1 hcs.2 hdec (Hgo _ _ _ _ _ _ _ Y hh hS hl)
        · exact Y.elim
      | 4, hchk, X =>
        simp only [Bool.and_eq_true, decide_eq_true_eq] at hchk
        obtain ⟨⟨c1, c2⟩, c3⟩ := hchk
        obtain ⟨x, y, s', rfl, Y⟩ := am_bin_at X
        clear X
        split at Y
        · rename_i hw
          exact va_mmin hx hb (by rw [hml]; exact hl.2.1.symm) hown (hts _ (am_w_in c1)) (hts _ am_mns) (hts _ am_mxi) (hts _ am_mnc) (by omega) (by rw [am_words_cv]; have := Nat.le_of_ble_eq_true hw; omega) hcs.1 hcs.2 hdec (Hgo _ _ _ _ _ _ _ Y hh hS hl)
        · exact Y.elim
      | k + 5, hchk, X =>
        simp only [Bool.and_eq_true, decide_eq_true_eq] at hchk
        obtain ⟨⟨c1, c2⟩, c3⟩ := hchk
        obtain ⟨n, s0, rfl, Y1⟩ := am_un_at X
        clear X
        obtain ⟨dp, s1, rfl, Y2⟩ := am_un_at Y1
        clear Y1
        obtain ⟨o, s2, rfl, Y3⟩ := am_rf_at Y2
        clear Y2
        obtain ⟨sp, s3, rfl, Y4⟩ := am_un_at Y3
        clear Y3
        obtain ⟨u, s', rfl, Y⟩ := am_rf_at Y4
        clear Y4
        split at Y
        · rename_i hw
          obtain ⟨nu, nt, i', j', m', g1, g2, g3, g4, rfl, rfl, rfl, g8⟩ := Y
          have b1 := hok _ _ _ g1
          have b2 := hok _ _ _ g2
          have hg1 := am_ws_get (cy := cy) (α := α) (σ := (I, J, Rr)) g1
          have hg2 := am_ws_get (cy := cy) (α := α) (σ := (I, J, Rr)) g2
          rw [am_cell_J] at hg1 hg2
          have e1 : (nI i').toNatClampNeg = i' := nI_clamp (by omega)
          have e2 : (nI j').toNatClampNeg = j' := nI_clamp (by omega)
          have e3 : (nI m').toNatClampNeg = m' := nI_clamp (by omega)
          refine va_copyl hx hb (by rw [hml]; exact hl.2.1.symm) hown (hts _ (am_w_in c1)) (hts _ am_acn) (hts _ am_acs) (hts _ am_aci) hkk.1 hh.1 hh.2.1 hS u o 3 3 hg1 hg2 rfl rfl rfl (nI_pos (by omega)) (nI_pos (by omega)) (nI_pos (by omega)) (by rw [e1, e3]; exact g3) (by rw [e2, e3]; exact g4) (fun _ _ => rfl) (by omega) (Nat.le_trans (Nat.add_le_add_right (by rw [am_words_cv]; exact Nat.le_of_ble_eq_true hw) _) (Nat.le_trans c3 hlo)) hdec (fun H1 locs1 hP hD hS1 => ?_)
          rw [e1, e2, e3] at hP hD
          refine Hgo _ _ _ _ _ _ _ g8 (hh.put hS (σ' := (I, am_row J o (va_cpy (J u) (J o) i' j' m'), Rr)) g2 (fun j hj => ⟨rfl, am_rowr hj, rfl⟩) (am_S_eq hB hS hS1) ?_ ?_) hS1 hl
          · rw [am_cell_J]
            dsimp only
            rw [am_row_self]
            exact hP
          · rw [am_cell_J]
            dsimp only
            rw [am_row_self]
            exact hD
        · exact Y.elim
    | ireturn =>
      obtain rfl : len = 1 := of_decide_eq_true hchk
      obtain ⟨x, s', rfl, Y⟩ := am_un_at X
      clear X
      split at Y
      · split at Y
        · exact Hri x .int _ _ _ _ _ Y rfl rfl hdec hh hS
        · rcases Y.1 with rfl | rfl
          · exact Hri 0 .boolean _ _ _ _ _ Y.2 rfl rfl hdec hh hS
          · exact Hri 1 .boolean _ _ _ _ _ Y.2 rfl rfl hdec hh hS
        · exact Hri x _ _ _ _ _ _ Y.2 rfl Y.1 hdec hh hS
        · exact Y.elim
      · exact Y.elim
    | lreturn =>
      obtain rfl : len = 1 := of_decide_eq_true hchk
      obtain ⟨x, s', rfl, Y⟩ := am_lun_at X
      clear X
      split at Y
      · split at Y
        · exact Hrl x _ _ _ _ _ Y rfl hdec hh hS
        · exact Y.elim
      · exact Y.elim
    | return_ =>
      obtain rfl : len = 1 := of_decide_eq_true hchk
      dsimp only at X
      split at X
      · exact Hrv _ _ _ _ _ X rfl hdec hh hS
      · exact X.elim
    | _ => exact X.elim
end SIM
