/-! the law's own run: n cells stand; X: the machine, the start and where all lies -/
abbrev al_T : Type := Program × Launch × Env × State × MethodId × List Frame × Method × Code × Nat × va_G × (Nat → ClassId) × (Nat → Nat) × (Nat → Nat)
def al_run (X : al_T) (n : Nat) : am_G := match X with
  | (p, l, e, s, m, below, meth, c, b, D, cy, adV, β) => fun pc ls st σ => ∀ (α : Nat → Nat) (H : Heap) (locs : List Loc) (rl : Array Slot), (∀ i, 255 ≤ i → α i = β i) → am_hr D cy α adV s.heap.size (am_sh.take n) σ s H → va_S (am_A s.heap.size) s.heap H locs → am_lr α ls rl 4 →
    W p l e room_1 s m #[Value.ref b] below meth c H locs n (ac_sl n) (lw_Z below #[Value.ref b] s) (F0 m pc rl (st.map (am_cv α)))
def al_ok (X : al_T) (L : Nat) (xs : Nat → Int32) : Prop := match X with
  | (p, _, _, s, m, _, meth, c, b, D, cy, _, β) => lw_At p s m meth c b L xs ∧ am_kk D cy β s ∧ β am_SC = b ∧ L ≤ 3072 ∧ ac_nk s
theorem al_sl {n : Nat} (h : n ≤ 255) : ac_sl n ≤ 7302250 := Nat.le_trans (ac_sl_le h) (by decide +kernel)
theorem al_hts {args : Array Value} {s : State} (h : ∀ w ∈ lw_tbl, w.before args s = true) : ∀ w ∈ am_TS, w.before args s = true := fun w hw => h w (am_TS_tbl hw)
theorem al_plain {X : al_T} {L : Nat} {xs : Nat → Int32} (A : al_ok X L xs) {n : Nat} (hn : n ≤ 255) {x : am_E} {t : Nat × Nat} (hd : decode code x.1 = .ok (x.2.1, x.2.2.1)) (hk : am_ok RL 10 352 x t = true) {go : am_G} (hgo : ∀ pc ls st σ, go pc ls st σ → al_run X n pc ls st σ) {pc : Nat} {ls : am_L} {st : List Value} {σ : am_S} (Y : am_step (am_sh.take n) L xs (some .boolean) go (al_run X n) (am_ev (am_sh.take n)) (fun r _ => r = some (.int 1)) x pc ls st σ) : al_run X n pc ls st σ := by
  obtain ⟨p, l, e, s, m, below, meth, c, b, D, cy, adV, β⟩ := X
  obtain ⟨⟨hx, hb, hret, hml, hown, htb, hX, hbl, hlocks, hgv⟩, hkk0, hβ, hL, hnk⟩ := A
  intro α H locs rl hag hh hS hl
  have hts := al_hts htb
  have hkk : am_kk D cy α s := ac_kk_ren (fun t _ => hag _ (by unfold am_SB; omega)) hkk0
  have hsc : α am_SC = b := (hag _ (by unfold am_SC; omega)).trans hβ
  have hown2 : s.vm.findClass RL = some m.cls := hown
  have hcs : n ≤ room_1.cells ∧ ac_sl n ≤ room_1.slots := ⟨by show n ≤ 600000; omega, al_sl hn⟩
  refine am_sim (own := RL) (cc := code) (nL := 4) (fr := 10) (lo := 352) (L := L) (xs := xs) (ret := some .boolean) (cal := am_ev (am_sh.take n)) (go := go) (jmp := al_run (p, l, e, s, m, below, meth, c, b, D, cy, adV, β) n) (q := fun r _ => r = some (.int 1)) (t := t) hx hb hml hown2 hts hkk ac_hok (Nat.le_refl _) (Nat.le_refl _) (Nat.le_refl _) hcs (fun _ => by rw [hsc]; exact ⟨hX, hbl⟩) ⟨hL, by decide⟩
    (fun pc ls st σ H locs rl g hh hS hl => hgo pc ls st σ g α H locs rl hag hh hS hl)
    (fun pc ls st σ H locs rl g hh hS hl => g α H locs rl hag hh hS hl)
    ?_ ?_ ?_ ?_ ?_ ?_ hd hk Y hh hS hl
  · intro y' d ci i as σ r hev hkd hi hci hcn hlen has idx pc H locs rl rest hdec hlk h1 h2 h3 hw hh hS hrl kk
    obtain ⟨as', rfl⟩ := has
    exact am_callV (Ts := []) hx hb hml hown2 hts hkk (Nat.le_refl _) (Nat.le_refl _) (Nat.le_refl _) hcs hkd hev hi hci hcn hlen hdec hlk h1 h2 h3 hw hh hS hrl kk
  · intro y' d as σ r hev hkd hlen idx pc H locs rl rest hdec hlk h1 h2 h3 hw hh hS hrl kk
    exact am_callS hx hb hml hown2 hts hkk (Nat.le_refl _) (Nat.le_refl _) (Nat.le_refl _) hcs hkd hev hlen hdec hlk h1 h2 h3 hw hh hS hrl kk
  · intro ho
    exact absurd ho (by decide)
  · intro x ty σ pc H locs rl hq hty hn2 hdec hh hS
    have h2 : some (Value.int x) = some (Value.int 1) := hq
    have e1 : x = 1 := Value.int.inj (Option.some.inj h2)
    subst e1
    refine va_forget (fun q hq => hS.2.2 q hq) ?_
    exact W.widen (k := 600000) (n := 7302250) hcs.1 hcs.2 (lw_ret hx hb hret hlocks hdec)
  · intro x σ pc H locs rl hq
    have h2 : some (Value.long x) = some (Value.int 1) := hq
    injection h2 with h2
    cases h2
  · intro σ pc H locs rl hq
    have h2 : (none : Option Value) = some (Value.int 1) := hq
    cases h2
def al_lowS (n : Nat) (st : List Value) : Prop := ∀ i, Value.ref i ∈ st → i < n ∨ 255 ≤ i
def al_lowL (n : Nat) (ls : am_L) : Prop := ∀ i, some (Value.ref i) ∈ ls → i < n ∨ 255 ≤ i
theorem al_cv1 {α α' : Nat → Nat} {n : Nat} (ha : ∀ i, i < n ∨ 255 ≤ i → α' i = α i) {v : Value} (h : ∀ i, v = .ref i → i < n ∨ 255 ≤ i) : am_cv α' v = am_cv α v := by
  cases v with
  | ref i =>
    show Value.ref (α' i) = Value.ref (α i)
    rw [ha i (h i rfl)]
  | _ => rfl
theorem al_cvs {α α' : Nat → Nat} {n : Nat} (ha : ∀ i, i < n ∨ 255 ≤ i → α' i = α i) {st : List Value} (h : al_lowS n st) : st.map (am_cv α') = st.map (am_cv α) := by
  apply List.map_congr_left
  intro v hv
  exact al_cv1 ha (fun i e => h i (by rw [← e]; exact hv))
theorem al_lrs {α α' : Nat → Nat} {n k : Nat} (ha : ∀ i, i < n ∨ 255 ≤ i → α' i = α i) {ls : am_L} {rl : Array Slot} (h : al_lowL n ls) (hl : am_lr α ls rl k) : am_lr α' ls rl k := by
  refine ⟨hl.1, hl.2.1, hl.2.2.1, fun i v hv => ?_⟩
  rw [al_cv1 ha (fun j e => h j (by rw [← e]; exact List.mem_of_getElem? hv))]
  exact hl.2.2.2 i v hv
theorem al_new {X : al_T} {L : Nat} {xs : Nat → Int32} (A : al_ok X L xs) {n ci N index : Nat} {C : String} {T : u_T} {pc : Nat} {ls : am_L} {st : List Value} {σ : am_S} (hdg : decode code pc = .ok (.new index, 3)) (hcl : am_cl[ci]? = some (C, T, N)) (hlk : Cond.classLink RL index C ∈ am_TS) (hsh : am_sh[n]? = some (ci, 0)) (hI : ∀ j, σ.1 n j = 0) (hR : ∀ j, σ.2.2 n j = none) (hlow : ac_low n σ) (hls : al_lowL n ls) (hst : al_lowS n st) (Y : al_run X (n + 1) (pc + 3) ls (.ref n :: st) σ) : al_run X n pc ls st σ := by
  obtain ⟨p, l, e, s, m, below, meth, c, b, D, cy, adV, β⟩ := X
  obtain ⟨⟨hx, hb, hret, hml, hown, htb, hX, hbl, hlocks, hgv⟩, hkk0, hβ, hL, hnk⟩ := A
  intro α H locs rl hag hh hS hl
  have hts := al_hts htb
  have hkk : am_kk D cy α s := ac_kk_ren (fun t _ => hag _ (by unfold am_SB; omega)) hkk0
  have hown2 : s.vm.findClass RL = some m.cls := hown
  have hlt : n < 255 := by
    have := ac_lt hsh
    rw [ac_sh_len] at this
    exact this
  have ha : ∀ i, i < n → ac_put α n H.size (n + 1) i = α i := fun i hi => ac_put_lo hi
  have ha2 : ∀ i, i < n ∨ 255 ≤ i → ac_put α n H.size (n + 1) i = α i := fun i hi => hi.elim (fun h => ac_put_lo h) (fun h => ac_put_hi (by omega))
  have ht : ∀ t, t < 5 → ac_put α n H.size (n + 1) (am_SB + t) = α (am_SB + t) := fun t _ => ac_put_hi (by unfold am_SB; omega)
  have hz := am_ft_ok hcl
  have hsz := ac_sl_next hsh
  have hss : ac_sz (ci, 0) = N := by
    unfold ac_sz
    rw [if_pos hz.1, hz.2.1]
  rw [hss] at hsz
  have hm := al_sl (n := n + 1) (by omega)
  rw [← al_cvs ha2 hst]
  refine ac_new (C := C) (T := T) (N := N) (ci := ci) (index := index) hx hb hts hown2 hcl hlk (ac_mk hcl).1 (ac_mk hcl).2 hsh ac_put_n hI hR (fun j hj => ac_dv hz.1 j (by rw [hz.2.1]; exact hj)) (by show n + 1 ≤ 600000; omega) (by show ac_sl n + N ≤ 7302250; omega) hdg (ac_kk_ren ht hkk) (ac_hr_ren ha ht hlow hh) (Nat.le_refl _) hS (fun H1 hh1 hS1 => ?_)
  have hw := Y (ac_put α n H.size (n + 1)) H1 locs rl (fun i hi => (ha2 i (Or.inr hi)).trans (hag i hi)) hh1 hS1 (al_lrs ha2 hls hl)
  rw [hsz] at hw
  exact hw
theorem al_call {X : al_T} {L : Nat} {xs : Nat → Int32} (A : al_ok X L xs) {z n n2 i idx : Nat} {q2 : am_S → Prop} {pc : Nat} {ls : am_L} {st : List Value} {σ : am_S} (hdg : decode code pc = .ok (.invokespecial idx, 3)) (hlk : Cond.methodLink RL idx (am_name z) ∈ am_TS) (hkd : am_kd z = 2) (hd : (parseMethodDescriptor (am_name z).desc).map (fun d => d.parameters.length) = some 0) (hret : am_ret z = none) (h1 : am_fr z + 1 ≤ 10) (h2 : 8 + (am_max z + 11) + am_lo z ≤ 352) (hn2 : n ≤ n2) (h255 : n2 ≤ 255) (hw : am_words st ≤ 8) (hls : al_lowL n ls) (hst : al_lowS n st) (hev : ac_ev z n n2 i σ q2) (Y : ∀ σ', q2 σ' → al_run X n2 (pc + 3) ls st σ') : al_run X n pc ls (.ref i :: st) σ := by
  obtain ⟨p, l, e, s, m, below, meth, c, b, D, cy, adV, β⟩ := X
  obtain ⟨⟨hx, hb, hret', hml, hown, htb, hX, hbl, hlocks, hgv⟩, hkk0, hβ, hL, hnk⟩ := A
  intro α H locs rl hag hh hS hl
  have hts := al_hts htb
  have hkk : am_kk D cy α s := ac_kk_ren (fun t _ => hag _ (by unfold am_SB; omega)) hkk0
  have hown2 : s.vm.findClass RL = some m.cls := hown
  have hM := hev.2 l D cy α adV s.heap.size
  have hmw := hev.1.1
  have hinit := hev.1.2.2.2 hkd
  have hm2 := ac_sl_le hn2
  have hm := al_sl h255
  have hws : am_wsm z = Cond.code (am_name z) (am_bytes z) (am_max z) none :: am_TS := by
    unfold am_wsm
    rw [hret]
  have hpre : PreS s H (ac_Pc D cy α adV s.heap.size n i σ) [Value.ref (α i)] := ⟨ac_Pc_blind, fun U hU hW => ⟨rfl, by rw [hU]; exact hS.1, hkk.warm hW, hnk.warm hW, by rw [hU]; exact hh.warm hW.alike⟩⟩
  have hfit : n + (n2 - n) ≤ room_1.cells ∧ ac_sl n + (ac_sl n2 - ac_sl n) ≤ room_1.slots := ⟨by show _ ≤ 600000; omega, by show _ ≤ 7302250; omega⟩
  have hrm : 2 * (F0 m pc rl (.ref (α i) :: st.map (am_cv α))).monitorRoom + ((st.map (am_cv α)).map fun v => v.category).sum ≤ 8 := lv_room (by rw [am_words_cv]; exact hw)
  have hrun : va_Run p l e room_1 s m #[Value.ref b] below meth c H locs n (ac_sl n) (n2 - n) (ac_sl n2 - ac_sl n) (F0 m pc rl (.ref (α i) :: st.map (am_cv α))) (st.map (am_cv α)) (ac_Qc D cy α s.heap.size n n2 q2 [Value.ref (α i)].toArray) (am_A s.heap.size) :=
    va_runI (As := []) (own := RL) (index := idx) (bytes := am_bytes z) (maxL := am_max z) (n := 0) (Ts := am_TS) ⟨hx, hb, hml, hown2, hts⟩ hM ⟨callB_of (rm := ac_room z n n2) 0 hts (am_goodT hmw) hws rfl rfl (hts _ hmw.2.1) (hts _ hlk) ⟨hmw.2.2.1, hmw.2.2.2, hd⟩ ⟨h1, h2⟩, hinit.2, hts _ hinit.1⟩ hpre rfl rfl hl.2.1 rfl hrm hdg hfit
  intro T hT XT
  obtain ⟨v, st₀, t, T', L', g0, X', gL, e1, e2, hq, stp⟩ := hrun T hT XT
  obtain ⟨σ', α', hv, hq, hag', hP, hD, hFr⟩ := hq
  have hF2 : ∀ x : Nat, x < H.size → ¬ am_A s.heap.size x → t.heap[x]? = H[x]? := fun x hx1 hx2 => by
    have := hFr.2 x (by rw [g0]; exact hx1) hx2
    rw [this, g0]
  have hsz : H.size ≤ t.heap.size := by have := hFr.1; rw [g0] at this; exact this
  have hS' : va_S (am_A s.heap.size) s.heap t.heap (locs ++ L') := ⟨Nat.le_trans hS.1 hsz, fun x h1 h2 => (hF2 x (Nat.lt_of_lt_of_le h1 hS.1) h2).trans (hS.2.1 x h1 h2), fun y hy => (List.mem_append.mp hy).elim (hS.2.2 y) (gL y)⟩
  have ht : ∀ t, t < 5 → α' (am_SB + t) = α (am_SB + t) := fun t _ => hag' _ (Or.inr (by unfold am_SB; omega))
  have hw2 := Y σ' hq α' t.heap (locs ++ L') rl (fun i hi => (hag' i (Or.inr hi)).trans (hag i hi)) ⟨hP, hD, ac_st_ren ht (hh.2.2.kept hF2)⟩ hS' (al_lrs hag' hls hl)
  cases hv
  rw [show n2 = n + (n2 - n) by omega] at hw2
  rw [al_cvs hag' hst] at hw2
  have es : ac_sl (n + (n2 - n)) = ac_sl n + (ac_sl n2 - ac_sl n) := by
    rw [show n + (n2 - n) = n2 by omega]
    omega
  rw [es] at hw2
  obtain ⟨t2, a1, b1⟩ := hw2 T' e1 X'
  exact ⟨t2, stp t2 a1, b1⟩
