/-! a constructor's run: n cells stand now, n0 stood at its entry, n1 will stand at its end -/
def ac_sz (x : Nat × Nat) : Nat := if x.1 < 12 then am_nf x.1 else x.2
def ac_sl (n : Nat) : Nat := ((am_sh.take n).map ac_sz).sum
theorem ac_sl_next {n : Nat} {x : Nat × Nat} (h : am_sh[n]? = some x) : ac_sl (n + 1) = ac_sl n + ac_sz x := by
  unfold ac_sl
  rw [ac_take h]
  simp
/-- links to constructors of nest mates -/
def ac_nl : List (String × Nat × MethodName × String) := [("MeetingGroups", 9, ⟨"MeetingGroups$State", "<init>", "()V"⟩, "MeetingGroups"), ("MeetingGroups$State", 27, ⟨"MeetingGroups$Plans", "<init>", "()V"⟩, "MeetingGroups"), ("MeetingGroups$History", 21, ⟨"MeetingGroups$State", "<init>", "()V"⟩, "MeetingGroups"), ("MeetingGroups", 35, ⟨"MeetingGroups$Reader", "<init>", "()V"⟩, "MeetingGroups"), ("MeetingGroups$Reader", 24, ⟨"MeetingGroups$Tape", "<init>", "()V"⟩, "MeetingGroups"), ("MeetingGroups", 42, ⟨"MeetingGroups$Holding", "<init>", "()V"⟩, "MeetingGroups"), ("MeetingGroups$Probing", 11, ⟨"MeetingGroups$Holding", "<init>", "()V"⟩, "MeetingGroups"), ("MeetingGroups", 56, ⟨"MeetingGroups$Packing", "<init>", "()V"⟩, "MeetingGroups"), ("MeetingGroups", 63, ⟨"MeetingGroups$Row", "<init>", "()V"⟩, "MeetingGroups"), ("MeetingGroups", 74, ⟨"MeetingGroups$Sheet", "<init>", "()V"⟩, "MeetingGroups")]
/-- the nest mates' constructors are linked; rows of objects and of rows can be made -/
def ac_nk (s : State) : Prop := (∀ x ∈ ac_nl, va_Nw (.methodLinkNest x.1 x.2.1 x.2.2.1 x.2.2.2) s) ∧ ∀ A : Array Value, (Cond.arrayOver (.object RX7)).before A s = true ∧ (Cond.arrayOver (.object RX8)).before A s = true ∧ (Cond.arrayOver (.array .int)).before A s = true
theorem ac_ov {s U : State} (hvm : s.vm.Alike U.vm) (h : ∀ A : Array Value, (Cond.arrayOver (.object RX7)).before A s = true ∧ (Cond.arrayOver (.object RX8)).before A s = true ∧ (Cond.arrayOver (.array .int)).before A s = true) : ∀ A : Array Value, (Cond.arrayOver (.object RX7)).before A U = true ∧ (Cond.arrayOver (.object RX8)).before A U = true ∧ (Cond.arrayOver (.array .int)).before A U = true := fun A => ⟨va_AO.use (va_AO.moved hvm (va_AO.of (h #[]).1)), va_AO.use (va_AO.moved hvm (va_AO.of (h #[]).2.1)), over_moved hvm (h #[]).2.2⟩
theorem ac_nk.warm {s U : State} (hW : s.WarmedH U.vm) (h : ac_nk s) : ac_nk U := ⟨fun x hx => va_Nw.warmM hW (h.1 x hx), ac_ov hW.alike h.2⟩
def ac_room (y n0 n1 : Nat) : Room := { frames := am_fr y, cells := n1 - n0, slots := ac_sl n1 - ac_sl n0, locals := am_lo y }
def ac_Qc (D : va_G) (cy : Nat → ClassId) (α0 : Nat → Nat) (B0 n0 n1 : Nat) (q : am_S → Prop) : Array Value → State → Outcome → State → Prop := fun _ st o t =>
  ∃ (σ : am_S) (α : Nat → Nat), o = .returned none ∧ q σ ∧ (∀ i, i < n0 ∨ 255 ≤ i → α i = α0 i) ∧ va_P D am_cl (am_ws cy α (am_sh.take n1) σ) t.heap ∧ va_D (am_A B0) (am_ws cy α (am_sh.take n1) σ) ∧ va_F (am_A B0) st t
def ac_run (y n0 n1 : Nat) (q : am_S → Prop) (n : Nat) : am_G := fun pc ls st σ =>
  ∀ (l : Launch) (D : va_G) (cy : Nat → ClassId) (α0 α adV : Nat → Nat) (B0 : Nat) (p : Program) (e : Env) (s : State) (m : MethodId) (args : Array Value) (below : List Frame) (meth : Method) (c : Code) (H : Heap) (locs : List Loc) (rl : Array Slot),
    am_frm y p s m args meth c → (meth.name = "<init>" ∧ ac_nk s) → am_kk D cy α s → B0 ≤ s.heap.size → (∀ i, i < n0 ∨ 255 ≤ i → α i = α0 i) → am_hr D cy α adV B0 (am_sh.take n) σ s H → va_S (am_A B0) s.heap H locs → am_lr α ls rl (am_max y) →
    W p l e (ac_room y n0 n1) s m args below meth c H locs (n - n0) (ac_sl n - ac_sl n0) (MQ below (ac_Qc D cy α0 B0 n0 n1 q) args s (n1 - n0) (ac_sl n1 - ac_sl n0) (am_A B0)) (F0 m pc rl (st.map (am_cv α)))
theorem ac_hok {n : Nat} : am_hok (am_sh.take n) := fun i k m h => by
  by_cases hi : i < n
  · rw [ac_tk hi] at h
    exact am_hok0 i k m h
  · rw [List.getElem?_take, if_neg hi] at h
    cases h
theorem ac_plain {y n0 n1 n : Nat} {q : am_S → Prop} (hrl : (am_name y).cls ≠ RL) (hn : n ≤ n1) (hsl : ac_sl n ≤ ac_sl n1) {x : am_E} {t : Nat × Nat} (hd : decode (am_bytes y) x.1 = .ok (x.2.1, x.2.2.1)) (hk : am_ok (am_name y).cls (am_fr y) (am_lo y) x t = true) {pc : Nat} {ls : am_L} {st : List Value} {σ : am_S} (X : am_step (am_sh.take n) 0 (fun _ => 0) (am_ret y) (ac_run y n0 n1 q n) (ac_run y n0 n1 q n) (fun _ _ _ _ => False) (fun r σ => r = none ∧ n = n1 ∧ q σ) x pc ls st σ) : ac_run y n0 n1 q n pc ls st σ := by
  intro l D cy α0 α adV B0 p e s m args below meth c H locs rl hF hI hkk hB hag hh hS hl
  obtain ⟨hx', hb, hml, hret, hlocks, hown, hts⟩ := id hF
  refine am_sim (fr := am_fr y) (lo := am_lo y) (L := 0) (xs := fun _ => 0) (ret := am_ret y) (cal := fun _ _ _ _ => False) (go := ac_run y n0 n1 q n) (jmp := ac_run y n0 n1 q n) (q := fun r σ => r = none ∧ n = n1 ∧ q σ) (t := t) hx' hb hml hown hts hkk ac_hok hB (Nat.le_refl _) (Nat.le_refl _) ⟨Nat.sub_le_sub_right hn n0, Nat.sub_le_sub_right hsl _⟩ (fun e => absurd e hrl) ⟨Nat.zero_le _, by decide⟩
    (fun pc ls st σ H locs rl g hh hS hl => g l D cy α0 α adV B0 p e s m args below meth c H locs rl hF hI hkk hB hag hh hS hl)
    (fun pc ls st σ H locs rl g hh hS hl => g l D cy α0 α adV B0 p e s m args below meth c H locs rl hF hI hkk hB hag hh hS hl)
    ?_ ?_ ?_ ?_ ?_ ?_ hd hk X hh hS hl
  · intro _ _ _ _ _ _ _ hev
    exact hev.elim
  · intro _ _ _ _ _ hev
    exact hev.elim
  · intro ho h6 t idx pc H locs rl rest σ ht hdec hh hS hrl hw
    rw [ho] at hown ⊢
    exact am_str hx' hb hml hown hts hkk hB (Nat.le_refl _) (Nat.le_refl _) ⟨Nat.sub_le_sub_right hn n0, Nat.sub_le_sub_right hsl _⟩ h6 t idx pc H locs rl rest σ ht hdec hh hS hrl hw
  · intro x ty σ pc H locs rl hq
    cases hq.1
  · intro x σ pc H locs rl hq
    cases hq.1
  · intro σ pc H locs rl hq hty hdec hh hS
    obtain ⟨-, h1, hq⟩ := hq
    subst h1
    exact W.vret hx' hb (hret.trans hty) (fun t ht _ => ⟨σ, α, rfl, hq, hag, by rw [ht]; exact hh.1, hh.2.1, hS.F ht⟩) hS.2.2 hdec
