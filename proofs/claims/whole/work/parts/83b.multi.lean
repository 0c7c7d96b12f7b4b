/-! an array of arrays: its cells once all are there -/
theorem ac_arrV {cA : ClassId} {N : Nat} {f g : Nat → Value} (h : ∀ j, j < N → f j = g j) : arrV cA N f = arrV cA N g := by
  have e : (fun j : Fin N => f j.val) = (fun j : Fin N => g j.val) := funext fun j => h j.val j.isLt
  unfold arrV
  rw [e]
theorem ac_tk {M k : Nat} (h : k < M) : (am_sh.take M)[k]? = am_sh[k]? := by
  rw [List.getElem?_take, if_pos h]
theorem ac_get {cy : Nat → ClassId} {α : Nat → Nat} {σ : am_S} {M k : Nat} {q : Nat × va_E} (h : (am_ws cy α (am_sh.take M) σ)[k]? = some q) : ∃ x, k < M ∧ am_sh[k]? = some x ∧ q = (α k, am_cell cy α σ k x) := by
  unfold am_ws at h
  rw [List.getElem?_mapIdx] at h
  by_cases hk : k < M
  · rw [ac_tk hk] at h
    cases hx : am_sh[k]? with
    | none => rw [hx] at h; cases h
    | some x =>
      rw [hx] at h
      exact ⟨x, hk, rfl, (Option.some.inj h).symm⟩
  · rw [List.getElem?_take, if_neg hk] at h
    cases h
theorem ac_ws_at {cy : Nat → ClassId} {α : Nat → Nat} {σ : am_S} {M k : Nat} {x : Nat × Nat} (hk : k < M) (hx : am_sh[k]? = some x) : (am_ws cy α (am_sh.take M) σ)[k]? = some (α k, am_cell cy α σ k x) := am_ws_get (by rw [ac_tk hk]; exact hx)
/-- all cells up to M stand if those up to n did and each of the others is there -/
theorem ac_more {D : va_G} {cy : Nat → ClassId} {α adV : Nat → Nat} {B0 n M : Nat} {σ : am_S} {s : State} {H H1 : Heap} (hα : ∀ i, n ≤ i → i < M → α i = H.size + (i - n)) (hB : B0 ≤ H.size) (hh : am_hr D cy α adV B0 (am_sh.take n) σ s H) (o1 : ∀ q : Nat, q < H.size → H1[q]? = H[q]?) (hnew : ∀ k x, n ≤ k → k < M → am_sh[k]? = some x → va_at D am_cl (H.size + (k - n), am_cell cy α σ k x) H1) : am_hr D cy α adV B0 (am_sh.take M) σ s H1 := by
  have hold : ∀ k x, k < n → am_sh[k]? = some x → α k < H.size := fun k x hk hx => (hh.1 k _ (ac_ws_at hk hx)).lt
  refine ⟨fun k q hq => ?_, ⟨fun i j p q hp hq e => ?_, fun k q hq => ?_⟩, hh.2.2.kept fun a ha _ => o1 a ha⟩
  · obtain ⟨x, h1, h2, rfl⟩ := ac_get hq
    by_cases hk : k < n
    · have h3 := hh.1 k _ (ac_ws_at hk h2)
      exact h3.kept (o1 _ h3.lt)
    · rw [hα k (by omega) h1]
      exact hnew k x (by omega) h1 h2
  · obtain ⟨x, h1, h2, rfl⟩ := ac_get hp
    obtain ⟨y, h3, h4, rfl⟩ := ac_get hq
    have e1 : α i = α j := e
    by_cases hi : i < n
    · by_cases hj : j < n
      · exact hh.2.1.1 i j _ _ (ac_ws_at hi h2) (ac_ws_at hj h4) e1
      · have := hold i x hi h2
        rw [hα j (by omega) h3] at e1
        omega
    · rw [hα i (by omega) h1] at e1
      by_cases hj : j < n
      · have := hold j y hj h4
        omega
      · rw [hα j (by omega) h3] at e1
        omega
  · obtain ⟨x, h1, h2, rfl⟩ := ac_get hq
    by_cases hk : k < n
    · exact hh.2.1.2 k _ (ac_ws_at hk h2)
    · show B0 ≤ α k
      rw [hα k (by omega) h1]
      omega
theorem ac_multi {D : va_G} {cy : Nat → ClassId} {α adV : Nat → Nat} {B0 n N K : Nat} {σ : am_S} {s : State} {H H1 : Heap} (hα : ∀ i, n ≤ i → i < n + 1 + N → α i = H.size + (i - n)) (hB : B0 ≤ H.size) (hh : am_hr D cy α adV B0 (am_sh.take n) σ s H) (hsh0 : am_sh[n]? = some (19, N)) (hsh : ∀ j, j < N → am_sh[n + 1 + j]? = some (14, K)) (hI : ∀ j, j < N → ∀ i, σ.1 (n + 1 + j) i = 0) (hR : ∀ j, j < N → σ.2.2 n j = some (n + 1 + j)) (o1 : ∀ q : Nat, q < H.size → H1[q]? = H[q]?) (e1 : H1[H.size]? = some (arrV (cy 19) N (fun j => va_rf (if j < N then some (H.size + 1 + j) else none)))) (e2 : ∀ j, j < N → H1[H.size + 1 + j]? = some (arrV (cy 14) K (fun _ => .int 0))) : am_hr D cy α adV B0 (am_sh.take (n + 1 + N)) σ s H1 := by
  refine ac_more (n := n) hα hB hh o1 (fun k x hk hM hx => ?_)
  by_cases hkn : k = n
  · subst hkn
    rw [hsh0] at hx
    cases hx
    show H1[H.size + (k - k)]? = some (vp_cell _ _)
    rw [Nat.sub_self, Nat.add_zero, e1]
    congr 1
    show _ = arrV (cy 19) N (fun j => va_rf ((σ.2.2 k j).map α))
    refine ac_arrV (fun j hj => ?_)
    rw [hR j hj, if_pos hj]
    show va_rf (some (H.size + 1 + j)) = va_rf (some (α (k + 1 + j)))
    rw [hα (k + 1 + j) (by omega) (by omega)]
    congr 2
    omega
  · obtain ⟨j, rfl⟩ : ∃ j, k = n + 1 + j := ⟨k - (n + 1), by omega⟩
    have hj : j < N := by omega
    rw [hsh j hj] at hx
    cases hx
    show H1[H.size + (n + 1 + j - n)]? = some (vp_cell _ _)
    have h2 := e2 j hj
    rw [show H.size + 1 + j = H.size + (n + 1 + j - n) by omega] at h2
    rw [h2]
    congr 1
    show _ = arrV (cy 14) K (fun i => .int (σ.1 (n + 1 + j) i))
    exact ac_arrV (fun i _ => by rw [hI j hj i])
/-- where new cells will lie is free: cells and what they hold speak of the old ones only -/
def ac_low (n : Nat) (σ : am_S) : Prop := ∀ i k j, i < n → σ.2.2 i k = some j → j < n
theorem ac_ren {cy : Nat → ClassId} {α α' : Nat → Nat} {n : Nat} {σ : am_S} (ha : ∀ i, i < n → α' i = α i) (hl : ac_low n σ) : am_ws cy α' (am_sh.take n) σ = am_ws cy α (am_sh.take n) σ := by
  apply List.ext_getElem?
  intro k
  by_cases hk : k < n
  · cases hx : am_sh[k]? with
    | none =>
      unfold am_ws
      rw [List.getElem?_mapIdx, List.getElem?_mapIdx, ac_tk hk, hx]
      rfl
    | some x =>
      rw [ac_ws_at hk hx, ac_ws_at hk hx, ha k hk]
      have hm : ∀ j, (σ.2.2 k j).map α' = (σ.2.2 k j).map α := fun j => by
        cases hr : σ.2.2 k j with
        | none => rfl
        | some o =>
          show some (α' o) = some (α o)
          rw [ha o (hl k j o hk hr)]
      have hf : ∀ ci, am_fv α' σ k ci = am_fv α σ k ci := fun ci => by
        funext j
        unfold am_fv
        rw [hm]
      have hg : (fun j => (σ.2.2 k j).map α') = (fun j => (σ.2.2 k j).map α) := funext hm
      unfold am_cell
      rw [hf, hg]
  · unfold am_ws
    rw [List.getElem?_mapIdx, List.getElem?_mapIdx, List.getElem?_take, if_neg hk]
    rfl
theorem ac_hr_ren {D : va_G} {cy : Nat → ClassId} {α α' adV : Nat → Nat} {B0 n : Nat} {σ : am_S} {s : State} {H : Heap} (ha : ∀ i, i < n → α' i = α i) (ht : ∀ t, t < 5 → α' (am_SB + t) = α (am_SB + t)) (hl : ac_low n σ) (hh : am_hr D cy α adV B0 (am_sh.take n) σ s H) : am_hr D cy α' adV B0 (am_sh.take n) σ s H := by
  obtain ⟨h1, h2, h3, h4⟩ := hh
  refine ⟨by rw [ac_ren ha hl]; exact h1, by rw [ac_ren ha hl]; exact h2, ⟨fun i hi => ?_, fun i j hi hj e => ?_⟩, h4⟩
  · have := h3.1 i hi
    show va_O _ (α' (am_SB + i)) _ _ _ ∧ va_OF _ _ _ _ (α' (am_SB + i)) _ _ _ ∧ va_OF _ _ _ _ (α' (am_SB + i)) _ _ _ ∧ _
    rw [ht i hi]
    exact this
  · have e1 : α' (am_SB + i) = α' (am_SB + j) := e
    rw [ht i hi, ht j hj] at e1
    exact h3.2 i j hi hj e1
theorem ac_kk_ren {D : va_G} {cy : Nat → ClassId} {α α' : Nat → Nat} {s : State} (ht : ∀ t, t < 5 → α' (am_SB + t) = α (am_SB + t)) (h : am_kk D cy α s) : am_kk D cy α' s := ⟨h.1, fun t hh => by rw [ht t hh]; exact h.2 t hh⟩
