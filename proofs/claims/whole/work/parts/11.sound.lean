/-! what am_u says holds of the true machine -/
def am_fill : List Value → Nat → am_L
  | _, 0 => []
  | [], n + 1 => none :: am_fill [] n
  | .long z :: r, n + 1 => some (.long z) :: (match n with
    | 0 => []
    | k + 1 => none :: am_fill r k)
  | v :: r, n + 1 => some v :: am_fill r n
theorem am_Wmono {p : Program} {l : Launch} {e : Env} {R : Room} {s : State} {m : MethodId} {args : Array Value} {below : List Frame} {meth : Method} {c : Code} {H : Heap} {locs : List Loc} {cells slots : Nat} {Q Q' : State → Prop} {g : JFrame} (hq : ∀ t, Q t → Q' t) (h : W p l e R s m args below meth c H locs cells slots Q g) : W p l e R s m args below meth c H locs cells slots Q' g := fun T hT X => by
  obtain ⟨t, a, b⟩ := h T hT X
  exact ⟨t, a, hq t b⟩
theorem am_sound {h : am_H} {y : Nat} {q : am_Q} (hp : am_pl y) (hok : am_hok h) : ∀ (cd : List am_E), (∀ x ∈ cd, x ∈ am_code y) → ∀ (pc : Nat) (ls : am_L) (st : List Value) (σ : am_S), am_u h y q cd pc ls st σ → am_run h y q pc ls st σ := by
  intro cd
  induction cd with
  | nil => intro _ _ _ _ _ X; exact X.elim
  | cons x r ih =>
    intro hc pc ls st σ X l D cy α adV B0 p e s m args below meth c H locs rl hF hkk hB hh hS hl
    obtain ⟨t, hd, hk⟩ := hp.2.2.2 x (hc x List.mem_cons_self)
    obtain ⟨hx, hb, hml, hret, hlocks, hown, hts⟩ := id hF
    refine am_sim (fr := am_fr y) (lo := am_lo y) (L := 0) (xs := fun _ => 0) (ret := am_ret y) (cal := am_ev h) (go := match am_hd r with | true => am_run h y q | false => am_u h y q r) (jmp := am_run h y q) (q := q) (t := t) hx hb hml hown hts hkk hok hB (Nat.le_refl _) (Nat.le_refl _) ⟨Nat.le_refl _, Nat.le_refl _⟩ (fun e => absurd e hp.2.2.1) ⟨Nat.zero_le _, by decide⟩
      (fun pc ls st σ H locs rl g hh hS hl => by
        cases hb : am_hd r with
        | true =>
          rw [hb] at g
          exact g l D cy α adV B0 p e s m args below meth c H locs rl hF hkk hB hh hS hl
        | false =>
          rw [hb] at g
          exact ih (fun x hx => hc x (List.mem_cons_of_mem _ hx)) pc ls st σ g l D cy α adV B0 p e s m args below meth c H locs rl hF hkk hB hh hS hl)
      (fun pc ls st σ H locs rl g hh hS hl => g l D cy α adV B0 p e s m args below meth c H locs rl hF hkk hB hh hS hl)
      ?_ ?_ ?_ ?_ ?_ ?_ hd hk X hh hS hl
    · intro y' d ci i as σ r hev hkd hi hci hcn hlen has idx pc H locs rl rest hdec hlk h1 h2 h3 hw hh hS hrl kk
      obtain ⟨as', rfl⟩ := has
      exact am_callV (Ts := []) hx hb hml hown hts hkk hB (Nat.le_refl _) (Nat.le_refl _) ⟨Nat.le_refl _, Nat.le_refl _⟩ hkd hev hi hci hcn hlen hdec hlk h1 h2 h3 hw hh hS hrl kk
    · intro y' d as σ r hev hkd hlen idx pc H locs rl rest hdec hlk h1 h2 h3 hw hh hS hrl kk
      exact am_callS hx hb hml hown hts hkk hB (Nat.le_refl _) (Nat.le_refl _) ⟨Nat.le_refl _, Nat.le_refl _⟩ hkd hev hlen hdec hlk h1 h2 h3 hw hh hS hrl kk
    · intro ho h6 t idx pc H locs rl rest σ ht hdec hh hS hrl hw
      rw [ho] at hown ⊢
      exact am_str hx hb hml hown hts hkk hB (Nat.le_refl _) (Nat.le_refl _) ⟨Nat.le_refl _, Nat.le_refl _⟩ h6 t idx pc H locs rl rest σ ht hdec hh hS hrl hw
    · intro x ty σ pc H locs rl hq hty hn hdec hh hS
      exact W.zret (ty := ty) hx hb (hret.trans hty) hn (fun t ht _ => ⟨some (.int x), σ, rfl, hq, by rw [ht]; exact hh.1, hh.2.1, hS.F ht⟩) hS.2.2 hdec
    · intro x σ pc H locs rl hq hty hdec hh hS
      exact W.lret hx hb (hret.trans hty) (fun t ht _ => ⟨some (.long x), σ, rfl, hq, by rw [ht]; exact hh.1, hh.2.1, hS.F ht⟩) hS.2.2 hdec
    · intro σ pc H locs rl hq hty hdec hh hS
      exact W.vret hx hb (hret.trans hty) (fun t ht _ => ⟨none, σ, rfl, hq, by rw [ht]; exact hh.1, hh.2.1, hS.F ht⟩) hS.2.2 hdec
theorem am_at_mem {x : am_E} : ∀ {cd : List am_E} {pc : Nat}, x ∈ am_at cd pc → x ∈ cd
  | [], _, h => h
  | e :: r, pc, h => by
    unfold am_at at h
    split at h
    · exact h
    · exact List.mem_cons_of_mem _ (am_at_mem h)
theorem am_fill_len : ∀ (n : Nat) (as : List Value), (am_fill as n).length = n := by
  intro n
  induction n using Nat.strongRecOn with
  | ind n ih =>
    intro as
    match n, as with
    | 0, as => cases as <;> rfl
    | n + 1, [] => simp [am_fill, ih n (by omega)]
    | 1, .long z :: r => rfl
    | n + 2, .long z :: r => simp [am_fill, ih n (by omega)]
    | n + 1, .int _ :: r => simp [am_fill, ih n (by omega)]
    | n + 1, .float _ :: r => simp [am_fill, ih n (by omega)]
    | n + 1, .double _ :: r => simp [am_fill, ih n (by omega)]
    | n + 1, .null :: r => simp [am_fill, ih n (by omega)]
    | n + 1, .ref _ :: r => simp [am_fill, ih n (by omega)]
    | n + 1, .retAddr _ :: r => simp [am_fill, ih n (by omega)]
def am_nod : List Value → Bool
  | [] => true
  | .double _ :: _ => false
  | _ :: r => am_nod r
theorem am_fill_at {α : Nat → Nat} {v : Value} : ∀ (n : Nat) (as : List Value) (b i : Nat), am_nod as = true → (am_fill as n)[i]? = some (some v) → (b + i, am_cv α v) ∈ lv_args b (as.map (am_cv α)) := by
  intro n
  induction n using Nat.strongRecOn with
  | ind n ih =>
    intro as b i hd hi
    have one : ∀ (w : Value) (r : List Value) (k : Nat), n = k + 1 → w.category = 1 → as = w :: r → am_fill as n = some w :: am_fill r k → am_nod r = true → (b + i, am_cv α v) ∈ lv_args b (as.map (am_cv α)) := by
      intro w r k hk hw ha hf hr
      subst ha
      rw [hf] at hi
      rw [List.map_cons]
      unfold lv_args
      rw [if_neg (by rw [am_cv_cat, hw]; decide)]
      cases i with
      | zero =>
        have e : w = v := by simpa using hi
        subst e
        exact List.mem_cons_self
      | succ i =>
        have := ih k (by omega) r (b + 1) i hr (by simpa using hi)
        rw [show b + 1 + i = b + (i + 1) by omega] at this
        exact List.mem_cons_of_mem _ this
    match n, as with
    | 0, as => cases as <;> simp [am_fill] at hi
    | n + 1, [] =>
      cases i with
      | zero => simp [am_fill] at hi
      | succ i =>
        have := ih n (by omega) [] (b + 1) i rfl (by simpa [am_fill] using hi)
        simp [lv_args] at this
    | 1, .long z :: r =>
      cases i with
      | zero =>
        have e : v = .long z := by simpa [am_fill] using hi.symm
        subst e
        exact List.mem_cons_self
      | succ i => simp [am_fill] at hi
    | n + 2, .long z :: r =>
      match i with
      | 0 =>
        have e : v = .long z := by simpa [am_fill] using hi.symm
        subst e
        exact List.mem_cons_self
      | 1 => simp [am_fill] at hi
      | i + 2 =>
        have := ih n (by omega) r (b + 2) i hd (by simpa [am_fill] using hi)
        rw [show b + 2 + i = b + (i + 2) by omega] at this
        exact List.mem_cons_of_mem _ this
    | n + 1, .int x :: r => exact one (.int x) r n rfl rfl rfl rfl hd
    | n + 1, .float x :: r => exact one (.float x) r n rfl rfl rfl rfl hd
    | n + 1, .null :: r => exact one .null r n rfl rfl rfl rfl hd
    | n + 1, .ref x :: r => exact one (.ref x) r n rfl rfl rfl rfl hd
    | n + 1, .retAddr x :: r => exact one (.retAddr x) r n rfl rfl rfl rfl hd
    | n + 1, .double x :: r => cases hd
theorem am_sl_len (α : Nat → Nat) : ∀ as : List Value, (lg_sl (as.map (am_cv α))).length = am_words as
  | [] => rfl
  | v :: r => by
    have ih := am_sl_len α r
    unfold lg_sl at ih ⊢
    rw [List.map_cons, List.flatMap_cons, List.length_append, ih, am_cv_cat]
    show _ = v.category + am_words r
    rcases lv_cat v with h | h <;> simp [h]
theorem am_jmp {h : am_H} {y : Nat} {q : am_Q} (hp : am_pl y) (hok : am_hok h) {pc : Nat} {ls : am_L} {st : List Value} {σ : am_S} (X : am_u h y q (am_at (am_code y) pc) pc ls st σ) : am_run h y q pc ls st σ := am_sound hp hok _ (fun _ hx => am_at_mem hx) pc ls st σ X
theorem am_ev_of {h : am_H} {y : Nat} {q : am_Q} {as : List Value} {σ : am_S} (hp : am_pl y) (hok : am_hok h) (hw : am_words as ≤ am_max y) (hd : am_nod as = true) (X : am_u h y q (am_code y) 0 (am_fill as (am_max y)) [] σ) : am_ev h y as σ q := by
  refine ⟨hp.1, fun q' hq l D cy α adV B0 => ?_⟩
  refine Met.ofW (cc := am_bytes y) (maxL := am_max y) (ret := am_ret y) hp.2.1 rfl ?_
  intro p e s m args below meth c s₁ B hml hv
  obtain ⟨rfl, hB, hkk, hh⟩ := hv
  have hts := atoms_spec (ws := am_wsm y) B.pre
  have hF : am_frm y p s m (as.map (am_cv α)).toArray meth c := ⟨B.exec, B.bytes, hml, B.returns, B.notSynchronized, findClass_of_methodNamed B.named, fun w hw => hts w (List.mem_cons_of_mem _ hw)⟩
  have hl0 := lv_entry (as.map (am_cv α)) (n := am_max y) (by rw [am_sl_len]; exact hw)
  rw [lg_entry_eq]
  have hl : am_lr α (am_fill as (am_max y)) _ (am_max y) := ⟨am_fill_len _ _, hl0.1, hl0.2.1, fun i v hi => by
    have := am_fill_at (α := α) (am_max y) as 0 i hd hi
    rw [Nat.zero_add] at this
    exact hl0.2.2 _ this⟩
  refine am_Wmono ?_ (am_sound hp hok _ (fun _ h => h) 0 _ [] σ X l D cy α adV B0 p e s m _ below meth c s.heap [] _ hF hkk hB hh va_S.rf hl)
  rintro t ⟨o, h1, h2, ⟨r, σ', g1, g2, g3, g4, g5⟩, h4⟩
  exact ⟨o, h1, h2, ⟨r, σ', g1, hq r σ' g2, g3, g4, g5⟩, h4⟩
