/-! constructors: what is known of each -/
theorem ac_all_at {own : String} {cc : ByteArray} {fr lo : Nat} : ∀ {c : List am_E} {ts : List (Nat × Nat)}, ac_all own cc fr lo c ts = true → ∀ e ∈ c, ∃ t, decode cc e.1 = .ok (e.2.1, e.2.2.1) ∧ ac_ok own fr lo e t = true
  | [], _, _, e, he => by cases he
  | x :: r, [], h, e, he => by
    simp only [ac_all, Bool.and_eq_true, am_dec, decide_eq_true_eq] at h
    rcases List.mem_cons.mp he with rfl | he
    · exact ⟨(0, 0), h.1.1, h.1.2⟩
    · exact ac_all_at h.2 e he
  | x :: r, t :: ts, h, e, he => by
    simp only [ac_all, Bool.and_eq_true, am_dec, decide_eq_true_eq] at h
    rcases List.mem_cons.mp he with rfl | he
    · exact ⟨t, h.1.1, h.1.2⟩
    · exact ac_all_at h.2 e he
def ac_pl (y : Nat) : Prop := am_mf y ∧ Jvm.plainName (am_name y).cls = true ∧ (am_name y).cls ≠ RL ∧ (am_name y).name = "<init>" ∧ 1 ≤ am_max y ∧ am_kd y = 2 ∧ am_ret y = none ∧ ∀ e ∈ am_code y, ∃ t, decode (am_bytes y) e.1 = .ok (e.2.1, e.2.2.1) ∧ ac_ok (am_name y).cls (am_fr y) (am_lo y) e t = true
theorem ac_p_Hi_init : ac_pl m_Hi_init := ⟨am_f_Hi_init, by decide +kernel, by decide +kernel, by decide +kernel, by decide +kernel, by decide +kernel, by decide +kernel, ac_all_at ac_k_Hi_init⟩
theorem ac_p_Ho_init : ac_pl m_Ho_init := ⟨am_f_Ho_init, by decide +kernel, by decide +kernel, by decide +kernel, by decide +kernel, by decide +kernel, by decide +kernel, ac_all_at ac_k_Ho_init⟩
theorem ac_p_Pa_init : ac_pl m_Pa_init := ⟨am_f_Pa_init, by decide +kernel, by decide +kernel, by decide +kernel, by decide +kernel, by decide +kernel, by decide +kernel, ac_all_at ac_k_Pa_init⟩
theorem ac_p_Pl_init : ac_pl m_Pl_init := ⟨am_f_Pl_init, by decide +kernel, by decide +kernel, by decide +kernel, by decide +kernel, by decide +kernel, by decide +kernel, ac_all_at ac_k_Pl_init⟩
theorem ac_p_Pr_init : ac_pl m_Pr_init := ⟨am_f_Pr_init, by decide +kernel, by decide +kernel, by decide +kernel, by decide +kernel, by decide +kernel, by decide +kernel, ac_all_at ac_k_Pr_init⟩
theorem ac_p_Re_init : ac_pl m_Re_init := ⟨am_f_Re_init, by decide +kernel, by decide +kernel, by decide +kernel, by decide +kernel, by decide +kernel, by decide +kernel, ac_all_at ac_k_Re_init⟩
theorem ac_p_Ro_init : ac_pl m_Ro_init := ⟨am_f_Ro_init, by decide +kernel, by decide +kernel, by decide +kernel, by decide +kernel, by decide +kernel, by decide +kernel, ac_all_at ac_k_Ro_init⟩
theorem ac_p_Sh_init : ac_pl m_Sh_init := ⟨am_f_Sh_init, by decide +kernel, by decide +kernel, by decide +kernel, by decide +kernel, by decide +kernel, by decide +kernel, ac_all_at ac_k_Sh_init⟩
theorem ac_p_St_init : ac_pl m_St_init := ⟨am_f_St_init, by decide +kernel, by decide +kernel, by decide +kernel, by decide +kernel, by decide +kernel, by decide +kernel, ac_all_at ac_k_St_init⟩
theorem ac_p_Ta_init : ac_pl m_Ta_init := ⟨am_f_Ta_init, by decide +kernel, by decide +kernel, by decide +kernel, by decide +kernel, by decide +kernel, by decide +kernel, ac_all_at ac_k_Ta_init⟩
theorem ac_p_MG_init : ac_pl m_MG_init := ⟨am_f_MG_init, by decide +kernel, by decide +kernel, by decide +kernel, by decide +kernel, by decide +kernel, by decide +kernel, ac_all_at ac_k_MG_init⟩
theorem ac_p_MD_init : ac_pl m_MD_init := ⟨am_f_MD_init, by decide +kernel, by decide +kernel, by decide +kernel, by decide +kernel, by decide +kernel, by decide +kernel, ac_all_at ac_k_MD_init⟩
