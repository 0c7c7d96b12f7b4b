/-! the row for an array of arrays (names the library's Shelf42.MA6: a round over it is read over the whole library) -/
theorem sm_outer (c : ClassId) (N h0 : Nat) : ∀ i : Nat, Jvm.Free.Multi.outerC c N h0 i = arrV c N (fun j => va_rf (if j < i then some (h0 + 1 + j) else none))
  | 0 => by
    show ({ cls := c, slots := Array.replicate N .null, vm := .none } : Cell) = _
    rw [arrV_new]
    exact ac_arrV (fun j _ => by simp [va_rf])
  | i + 1 => by
    show (Jvm.Free.Multi.outerC c N h0 i).setSlot i (.ref (h0 + 1 + i)) = _
    rw [sm_outer c N h0 i, arrV_store]
    refine ac_arrV (fun j _ => ?_)
    unfold updV
    by_cases e : j = i
    · subst e
      simp [va_rf]
    · rw [if_neg e]
      show va_rf (if j < i then some (h0 + 1 + j) else none) = va_rf (if j < i + 1 then some (h0 + 1 + j) else none)
      by_cases h : j < i
      · rw [if_pos h, if_pos (by omega)]
      · rw [if_neg h, if_neg (by omega)]
theorem ac_mna {p : Program} {l : Launch} {e : Env} {R : Room} {s : State} {m : MethodId} {args : Array Value} {below : List Frame} {meth : Method} {c : Code} {cells slots : Nat} {Q : State → Prop} {D : va_G} {cy : Nat → ClassId} {α adV : Nat → Nat} {B0 n N K index : Nat} {σ : am_S} {own : String} {cc : ByteArray} {pc : Nat} {H : Heap} {locs : List Loc} {rl : Array Slot} {rest : List Value} {x y : Int32} (hexec : p.tables.exec = Jvm.exec) (hb : c.code = cc) (hts : ∀ w ∈ am_TS, w.before args s = true) (hown : s.vm.findClass own = some m.cls) (hlk : Cond.classLink own index ("[" ++ (FieldType.array .int).toString) ∈ am_TS) (hover : (Cond.arrayOver (.array .int)).before args s = true) (harr : Cond.arrayClass .int ∈ am_TS) (hα : ∀ i, n ≤ i → i < n + 1 + N → α i = H.size + (i - n)) (hsh0 : am_sh[n]? = some (19, N)) (hsh : ∀ j, j < N → am_sh[n + 1 + j]? = some (14, K)) (hI : ∀ j, j < N → ∀ i, σ.1 (n + 1 + j) i = 0) (hR : ∀ j, j < N → σ.2.2 n j = some (n + 1 + j)) (hxN : x = nI N) (hyK : y = nI K) (hN : N * 4 ≤ 536870912) (hK : K * 4 ≤ 536870912) (hcells : cells + (1 + N) ≤ R.cells) (hslots : slots + (N + N * K) ≤ R.slots) (hdg : decode cc pc = .ok (.multianewarray index 2, 4)) (hkk : am_kk D cy α s) (hh : am_hr D cy α adV B0 (am_sh.take n) σ s H) (hB : B0 ≤ s.heap.size) (hS : va_S (am_A B0) s.heap H locs)
    (kk : ∀ H1 : Heap, am_hr D cy α adV B0 (am_sh.take (n + 1 + N)) σ s H1 → va_S (am_A B0) s.heap H1 locs → W p l e R s m args below meth c H1 locs (cells + 1 + N) (slots + N + N * K) Q (F0 m (pc + 4) rl (.ref (α n) :: rest))) : W p l e R s m args below meth c H locs cells slots Q (F0 m pc rl (.int y :: .int x :: rest)) := by
  subst hxN
  subst hyK
  have c1 : (nI N).toNatClampNeg = N := nI_clamp (by omega)
  have c2 : (nI K).toNatClampNeg = K := nI_clamp (by omega)
  intro T hT Xs
  obtain ⟨vm₁, cA, comp, -, fA, fC, -, -, X', step⟩ := Xs.multianewarray2F hexec (ty := .int) hown (hts _ hlk) hover (hts _ harr) (g := F0 m pc rl (.int (nI K) :: .int (nI N) :: rest)) rfl (by rw [hb]; exact hdg) rfl (ac_nn (by omega)) (ac_nn (by omega)) (by rw [c1]; exact hN) (by rw [c2]; exact hK) (by rw [c2]; omega) rfl rfl (by rw [c1]; exact hcells) (by rw [c1, c2]; exact hslots)
  rw [c1, c2] at X' step
  have eA : cA = cy 19 := Option.some.inj (fA.symm.trans (hkk.1.2 7 _ rfl).2)
  have eC : comp = cy 14 := Option.some.inj (fC.symm.trans (hkk.1.2 2 _ rfl).2)
  subst eA
  subst eC
  generalize hF : Jvm.Free.Multi.fill (T.setVm vm₁) (cy 19) (cy 14) N K (defaultValue .int) N = F at X' step
  have hTh : (T.setVm vm₁).heap = H := hT
  obtain ⟨f1, f2, -, -⟩ := Jvm.Free.Multi.fill_facts (T.setVm vm₁) (cy 19) (cy 14) N K (defaultValue .int) N
  rw [hF, hTh] at f1 f2
  have hold : ∀ q : Nat, q < H.size → F.heap[q]? = H[q]? := fun q hq => by
    have := Jvm.Free.Multi.fill_old (T.setVm vm₁) (cy 19) (cy 14) N K (defaultValue .int) (a := q) (by rw [hTh]; exact hq) N
    rw [hF, hTh] at this
    exact this
  have hrow : ∀ j : Nat, j < N → F.heap[H.size + 1 + j]? = some (arrV (cy 14) K (fun _ => .int 0)) := fun j hj => by
    have := Jvm.Free.Multi.fill_inner (T.setVm vm₁) (cy 19) (cy 14) N K (defaultValue .int) N j hj
    rw [hF, hTh] at this
    rw [this, ← arrV_new]
    rfl
  rw [sm_outer] at f2
  have hg := ac_multi hα (Nat.le_trans hB hS.1) hh hsh0 hsh hI hR hold f2 hrow
  have hk2 := kk F.heap hg (ac_S hS (by omega) hold)
  rw [hα n (Nat.le_refl _) (by omega), Nat.sub_self, Nat.add_zero] at hk2
  obtain ⟨t, a1, b1⟩ := hk2 F rfl X'
  exact ⟨t, step t (by rw [hT]; exact a1), b1⟩
theorem ac_ws_congr {cy : Nat → ClassId} {α : Nat → Nat} {n : Nat} {σ σ' : am_S} (h : ∀ i, i < n → σ'.1 i = σ.1 i ∧ σ'.2.1 i = σ.2.1 i ∧ σ'.2.2 i = σ.2.2 i) : am_ws cy α (am_sh.take n) σ' = am_ws cy α (am_sh.take n) σ := by
  apply List.ext_getElem?
  intro k
  unfold am_ws
  rw [List.getElem?_mapIdx, List.getElem?_mapIdx]
  by_cases hk : k < n
  · obtain ⟨o1, o2, o3⟩ := h k hk
    cases (am_sh.take n)[k]? with
    | none => rfl
    | some z => simp [am_cell_congr o1 o2 o3]
  · rw [List.getElem?_take, if_neg hk]
    rfl
theorem ac_hr_congr {D : va_G} {cy : Nat → ClassId} {α adV : Nat → Nat} {B0 n : Nat} {σ σ' : am_S} {s : State} {H : Heap} (h : ∀ i, i < n → σ'.1 i = σ.1 i ∧ σ'.2.1 i = σ.2.1 i ∧ σ'.2.2 i = σ.2.2 i) (hh : am_hr D cy α adV B0 (am_sh.take n) σ s H) : am_hr D cy α adV B0 (am_sh.take n) σ' s H := by
  obtain ⟨h1, h2, h3⟩ := hh
  exact ⟨by rw [ac_ws_congr h]; exact h1, by rw [ac_ws_congr h]; exact h2, h3⟩
theorem ac_sl_rows {n N K : Nat} (h0 : am_sh[n]? = some (19, N)) : ∀ m, (∀ j, j < m → am_sh[n + 1 + j]? = some (14, K)) → ac_sl (n + 1 + m) = ac_sl n + N + m * K
  | 0, _ => by
    have h1 := ac_sl_next h0
    have h2 : ac_sz (19, N) = N := rfl
    rw [h2] at h1
    show ac_sl (n + 1) = _
    rw [Nat.zero_mul]
    omega
  | m + 1, h => by
    have ih := ac_sl_rows h0 m (fun j hj => h j (by omega))
    have h1 := ac_sl_next (h m (by omega))
    have h2 : ac_sz (14, K) = K := rfl
    rw [h2] at h1
    have h3 : (m + 1) * K = m * K + K := Nat.succ_mul m K
    show ac_sl (n + 1 + m + 1) = _
    omega
theorem ac_r_mna {y n0 n1 n N K index : Nat} {q : am_S → Prop} {x x2 : Int32} {pc : Nat} {ls : am_L} {st : List Value} {σ σ' : am_S} (hdg : decode (am_bytes y) pc = .ok (.multianewarray index 2, 4)) (hlk : Cond.classLink (am_name y).cls index ("[" ++ (FieldType.array .int).toString) ∈ am_TS) (harr : Cond.arrayClass .int ∈ am_TS) (hsh0 : am_sh[n]? = some (19, N)) (hsh : ∀ j, j < N → am_sh[n + 1 + j]? = some (14, K)) (hn0 : n0 ≤ n) (hn1 : n + 1 + N ≤ n1) (hxN : x = nI N) (hyK : x2 = nI K) (hN : N * 4 ≤ 536870912) (hK : K * 4 ≤ 536870912) (hsg : ∀ i, i < n → σ'.1 i = σ.1 i ∧ σ'.2.1 i = σ.2.1 i ∧ σ'.2.2 i = σ.2.2 i) (hI : ∀ j, j < N → ∀ i, σ'.1 (n + 1 + j) i = 0) (hR : ∀ j, j < N → σ'.2.2 n j = some (n + 1 + j)) (hlow : ac_low n σ) (hls : ac_lowL n ls) (hst : ac_lowS n st) (X : ac_run y n0 n1 q (n + 1 + N) (pc + 4) ls (.ref n :: st) σ') : ac_run y n0 n1 q n pc ls (.int x2 :: .int x :: st) σ := by
  intro l D cy α0 α adV B0 p e s m args below meth c H locs rl hF hI' hkk hB hag hh hS hl
  obtain ⟨hx, hb, hml, hret, hlocks, hown, hts⟩ := id hF
  have hlt : n + 1 + N ≤ 255 := by
    by_cases hz : N = 0
    · have := ac_lt hsh0
      rw [ac_sh_len] at this
      omega
    · have := ac_lt (hsh (N - 1) (by omega))
      rw [ac_sh_len] at this
      omega
  have ha : ∀ i, i < n → ac_put α n H.size (n + 1 + N) i = α i := fun i hi => ac_put_lo hi
  have htt : ∀ t, t < 5 → ac_put α n H.size (n + 1 + N) (am_SB + t) = α (am_SB + t) := fun t _ => ac_put_hi (by unfold am_SB; omega)
  have hsz := ac_sl_rows hsh0 N hsh
  have hm0 := ac_sl_le hn0
  have hm1 := ac_sl_le hn1
  show W p l e _ s m args below meth c H locs _ _ _ (F0 m pc rl (.int x2 :: .int x :: st.map (am_cv α)))
  rw [← ac_cvs ha hst]
  refine ac_mna (N := N) (K := K) hx hb hts hown hlk (hI'.2.2 _).2.2 harr (fun i h1 h2 => ac_put_in h1 h2) hsh0 hsh hI hR hxN hyK hN hK (by show _ ≤ n1 - n0; omega) (by show _ ≤ ac_sl n1 - ac_sl n0; omega) hdg (ac_kk_ren htt hkk) (ac_hr_congr hsg (ac_hr_ren ha htt hlow hh)) hB hS (fun H1 hh1 hS1 => ?_)
  have hw := X l D cy α0 (ac_put α n H.size (n + 1 + N)) adV B0 p e s m args below meth c H1 locs rl hF hI' (ac_kk_ren htt hkk) hB (fun i hi => by
    rw [← hag i hi]
    rcases hi with hi | hi
    · exact ac_put_lo (by omega)
    · exact ac_put_hi (by omega)) hh1 hS1 (ac_lrs ha hls hl)
  rw [show n + 1 + N - n0 = n - n0 + 1 + N by omega, show ac_sl (n + 1 + N) - ac_sl n0 = ac_sl n - ac_sl n0 + N + N * K by omega] at hw
  exact hw
