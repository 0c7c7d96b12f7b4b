/-! from the law's entry to its end -/
theorem whole_start {p : Program} {e : Env} {s : State} {m : MethodId} {below : List Frame} {meth : Method} {c : Code} (l : Launch) (hflags : l.flags = flags0) {b L : Nat} {xs : Nat → Int32} (hL : L ≤ 3072) (C0 : lw_At p s m meth c b L xs) : W p l e room_1 s m #[Value.ref b] below meth c s.heap [] 0 0 (lw_Z below #[Value.ref b] s) (entryFrame m ([Value.ref b] : List Value).toArray 4) := by
  obtain ⟨hx, hb, hret, hml, hown, htb, hX, hbl, hlocks, hgv⟩ := id C0
  obtain ⟨D, cy, hK⟩ := al_K htb
  obtain ⟨adK, adV, hst, hR⟩ := al_stat htb hgv
  have hβ : ∀ t, t < 5 → (fun i => if i = am_SC then b else adK (i - am_SB)) (am_SB + t) = (fun i => adK (i - am_SB)) (am_SB + t) := fun t ht => by
    show (if am_SB + t = am_SC then b else adK (am_SB + t - am_SB)) = _
    rw [if_neg (by unfold am_SB am_SC; omega)]
  have hβ2 : (fun i => if i = am_SC then b else adK (i - am_SB)) am_SC = b := if_pos rfl
  have hst2 := ac_st_ren (α := fun i => adK (i - am_SB)) (α' := fun i => if i = am_SC then b else adK (i - am_SB)) hβ hst
  have hkk : am_kk D cy (fun i => if i = am_SC then b else adK (i - am_SB)) s := ⟨hK, fun t ht => by
    rw [hβ t ht]
    show vk_R RX5 (am_si t) (am_sx t) (adK (am_SB + t - am_SB)) s
    rw [Nat.add_sub_cancel_left]
    exact hR t ht⟩
  generalize (fun i => if i = am_SC then b else adK (i - am_SB)) = β at hβ2 hst2 hkk
  have A : al_ok (p, l, e, s, m, below, meth, c, b, D, cy, adV, β) L xs := ⟨C0, hkk, hβ2, hL, al_nk htb⟩
  have h := al_all A hL
  have ev : ([Value.ref am_SC] : List Value).map (am_cv β) = [Value.ref b] := by
    show [Value.ref (β am_SC)] = _
    rw [hβ2]
  have hl0 := lv_entry (([Value.ref am_SC] : List Value).map (am_cv β)) (n := 4) (by rw [am_sl_len]; decide)
  have hl : am_lr β [some (.ref am_SC), none, none, none] ((lg_sl (([Value.ref am_SC] : List Value).map (am_cv β)) ++ List.replicate (4 - (lg_sl (([Value.ref am_SC] : List Value).map (am_cv β))).length) Slot.unset).toArray) 4 := ⟨rfl, hl0.1, hl0.2.1, fun i v hv => by
    have := am_fill_at (α := β) 4 [.ref am_SC] 0 i rfl hv
    rw [Nat.zero_add] at this
    exact hl0.2.2 _ this⟩
  rw [ev] at hl
  rw [lg_entry_eq]
  exact h β s.heap [] _ (fun _ _ => rfl) ⟨fun k q hq => (by cases hq), ⟨fun i j p q hp => (by cases hp), fun k q hq => (by cases hq)⟩, hst2⟩ va_S.rf hl
