/-! an array of arrays: its cells once all are there -/
theorem ac_arrV {cA : ClassId} {N : Nat} {f g : Nat → Value} (h : ∀ j, j < N → f j = g j) : arrV cA N f = arrV cA N g := by
  have e : (fun j : Fin N => f j.val) = (fun j : Fin N => g j.val) := funext fun j => h j.val j.isLt
  unfold arrV
  rw [e]
theorem ac_tk {M k : Nat} (h : k < M) : (am_sh.take M)[k]? = am_sh[k]? := by
  rw [List.getElem?_take, if_pos h]
theorem ac_get {cy : Nat → ClassId} {α : Nat → Nat} {σ : am_S} {M k : Nat} {q : Nat × va_E} (h : (am_ws cy α (am_sh.take M) σ)[k]? = some q) : ∃ x, k < M ∧ am_sh[k]? = some x ∧ q = (α k, am_cell cy α σ k x) := by
  unfold am_ws at h
  rw [List.getElem?_mapIdx] at h
  by_cases hk : k < M
  · rw [ac_tk hk] at h
    cases hx : am_sh[k]? with
    | none => rw [hx] at h; cases h
    | some x =>
      rw [hx] at h
      exact ⟨x, hk, rfl, (Option.some.inj h).symm⟩
  · rw [List.getElem?_take, if_neg hk] at h
    cases h
theorem ac_ws_at {cy : Nat → ClassId} {α : Nat → Nat} {σ : am_S} {M k : Nat} {x : Nat × Nat} (hk : k < M) (hx : am_sh[k]? = some x) : (am_ws cy α (am_sh.take M) σ)[k]? = some (α k, am_cell cy α σ k x) := am_ws_get (by rw [ac_tk hk]; exact hx)
theorem ac_D {cy : Nat → ClassId} {α : Nat → Nat} {σ : am_S} {B0 M : Nat} (hα : ∀ i, i < M → α i = B0 + i) : va_D (am_A B0) (am_ws cy α (am_sh.take M) σ) := by
  refine ⟨fun i j p q hp hq e => ?_, fun k q hq => ?_⟩
  · obtain ⟨x, h1, -, rfl⟩ := ac_get hp
    obtain ⟨y, h2, -, rfl⟩ := ac_get hq
    have e1 : α i = α j := e
    rw [hα i h1, hα j h2] at e1
    omega
  · obtain ⟨x, h1, -, rfl⟩ := ac_get hq
    show B0 ≤ α k
    rw [hα k h1]
    omega
/-- all cells up to M stand if those up to n did and each of the others is there -/
theorem ac_more {D : va_G} {cy : Nat → ClassId} {α adV : Nat → Nat} {B0 n M : Nat} {σ : am_S} {s : State} {H H1 : Heap} (hnM : n ≤ M) (hα : ∀ i, i < M → α i = B0 + i) (hz : H.size = B0 + n) (hh : am_hr D cy α adV B0 (am_sh.take n) σ s H) (o1 : ∀ q : Nat, q < H.size → H1[q]? = H[q]?) (hnew : ∀ k x, n ≤ k → k < M → am_sh[k]? = some x → va_at D am_cl (B0 + k, am_cell cy α σ k x) H1) : am_hr D cy α adV B0 (am_sh.take M) σ s H1 := by
  refine ⟨fun k q hq => ?_, ac_D hα, hh.2.2.kept fun a ha _ => o1 a ha⟩
  obtain ⟨x, h1, h2, rfl⟩ := ac_get hq
  by_cases hk : k < n
  · have h3 := hh.1 k _ (ac_ws_at hk h2)
    exact h3.kept (o1 _ h3.lt)
  · rw [hα k h1]
    exact hnew k x (by omega) h1 h2
theorem ac_multi {D : va_G} {cy : Nat → ClassId} {α adV : Nat → Nat} {B0 n N K : Nat} {σ : am_S} {s : State} {H H1 : Heap} (hα : ∀ i, i < n + 1 + N → α i = B0 + i) (hz : H.size = B0 + n) (hh : am_hr D cy α adV B0 (am_sh.take n) σ s H) (hsh0 : am_sh[n]? = some (19, N)) (hsh : ∀ j, j < N → am_sh[n + 1 + j]? = some (14, K)) (hI : ∀ j, j < N → ∀ i, σ.1 (n + 1 + j) i = 0) (hR : ∀ j, j < N → σ.2.2 n j = some (n + 1 + j)) (o1 : ∀ q : Nat, q < H.size → H1[q]? = H[q]?) (e1 : H1[H.size]? = some (arrV (cy 19) N (fun j => va_rf (if j < N then some (H.size + 1 + j) else none)))) (e2 : ∀ j, j < N → H1[H.size + 1 + j]? = some (arrV (cy 14) K (fun _ => .int 0))) : am_hr D cy α adV B0 (am_sh.take (n + 1 + N)) σ s H1 := by
  refine ac_more (n := n) (by omega) hα hz hh o1 (fun k x hk hM hx => ?_)
  by_cases hkn : k = n
  · subst hkn
    rw [hsh0] at hx
    cases hx
    show H1[B0 + k]? = some (vp_cell _ _)
    rw [← hz, e1]
    congr 1
    show _ = arrV (cy 19) N (fun j => va_rf ((σ.2.2 k j).map α))
    refine ac_arrV (fun j hj => ?_)
    rw [hR j hj, if_pos hj, hz]
    show va_rf (some (B0 + k + 1 + j)) = va_rf (some (α (k + 1 + j)))
    rw [hα (k + 1 + j) (by omega)]
    congr 2
    omega
  · obtain ⟨j, rfl⟩ : ∃ j, k = n + 1 + j := ⟨k - (n + 1), by omega⟩
    have hj : j < N := by omega
    rw [hsh j hj] at hx
    cases hx
    show H1[B0 + (n + 1 + j)]? = some (vp_cell _ _)
    have h2 := e2 j hj
    rw [show H.size + 1 + j = B0 + (n + 1 + j) by omega] at h2
    rw [h2]
    congr 1
    show _ = arrV (cy 14) K (fun i => .int (σ.1 (n + 1 + j) i))
    exact ac_arrV (fun i _ => by rw [hI j hj i])
