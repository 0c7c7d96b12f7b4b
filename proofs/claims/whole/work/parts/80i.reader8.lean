/-! the class's Reader: a fault of the tape, or none -/
section RD
variable {f g : Nat → Nat} {I : Nat → Nat → Int32} {J : Nat → Nat → Int64} {u : Nat → Nat} {n : Nat}
theorem ev_isName2 {t a b : Nat} {x y : Int32} (h : CT I u n) (hx : x = nI a) (hy : y = nI b) (ht : t < 5) (ha : a ≤ b) (hb : b ≤ n) : am_ev am_sh m_Re_isName [.ref 201, .ref (am_SB + t), .int x, .int y] (I, J, am_Rf f g) (Rt (.int (b2i (isNm u n t a b))) (I, J, am_Rf f g)) := by
  rw [hx, hy]
  exact ev_isName h ht ha hb
theorem ev_faultOfTape (h : CT I u n) : am_ev am_sh m_Re_faultOfTape [.ref 201] (I, J, am_Rf f g) (FtQ f g I J (txt u n)) := by
  have f0 : FrC (am_up (am_up (am_up I 201 0 0) 201 1 0) 201 6 0) I := (((FrC.rf I).up0).up0).up0
  have n0 := nx_le (u := u) (n := n) (p := 0) (Nat.zero_le _)
  have n1 := ln_le (u := u) (n := n) (n - nx u n 0) (nx u n 0) (by omega)
  refine s_Re_faultOfTape ⟨rfl, rfl, rfl, rfl, (ev_next (p := 0) (h.fr f0) (by rw [am_up_eq]; rfl) (Nat.zero_le _)).mono ?_⟩
  rintro x σ' ⟨rfl, I1, rfl, a1, a2⟩
  refine ⟨rfl, rfl, (ev_skipName (p := nx u n 0) ((h.fr f0).fr a2.fr) a1 n0).mono ?_⟩
  rintro x σ' ⟨rfl, I2, rfl, b1, b2⟩
  have c2 : CT I2 u n := ((h.fr f0).fr a2.fr).fr b2.fr
  have f2 : FrC I2 I := (b2.fr.tr a2.fr).tr f0
  have t2 : TL I2 [] := by
    refine TL.sat (TL.sat ?_ a2) b2
    refine ⟨?_, by simp, fun k v hk => by simp at hk⟩
    rw [am_up_ne (by omega), am_up_eq]
    rfl
  have z2 : I2 201 0 = nI 0 := by
    rw [b2 201 0 (by omega), a2 201 0 (by omega), am_up_ne (by omega), am_up_ne (by omega), am_up_eq]
    rfl
  have nm := fun {t : Nat} (ht : t < 5) {K : am_Q} => (ev_isName2 (f := f) (g := g) (J := J) (t := t) c2 a1 b1 ht n1.2 n1.1).rt (K := K)
  refine ⟨rfl, rfl, nm (t := 0) (by omega) ?_⟩
  unfold txt
  cases h0 : isNm u n 0 (nx u n 0) (ln u n (nx u n 0)) with
  | true =>
    rw [if_pos rfl]
    refine br_f (by decide) ⟨rfl, (rd_fault f2 (ev_majority c2 b1 n1.1 t2)).mono ?_⟩
    rintro w σ' ⟨I5, b, rfl, rfl, ev⟩
    refine ⟨rfl, ev.mono ?_⟩
    rintro x σ' ⟨I3, rfl, k1, ⟨k2, rfl⟩ | ⟨s, l, k2, rfl, k4⟩⟩
    · exact ⟨I3, rfl, k1, Or.inl ⟨k2, rfl⟩⟩
    · exact ⟨I3, rfl, k1, Or.inr ⟨s, l, k2, rfl, k4⟩⟩
  | false =>
  rw [if_neg (by decide)]
  refine br_t rfl (j_Re_faultOfTape ⟨rfl, nm (t := 1) (by omega) ?_⟩)
  cases h1 : isNm u n 1 (nx u n 0) (ln u n (nx u n 0)) with
  | true =>
    rw [if_pos rfl]
    refine br_f (by decide) ⟨rfl, (rd_fault f2 (ev_grid c2 b1 n1.1 t2)).mono ?_⟩
    rintro w σ' ⟨I5, b, rfl, rfl, ev⟩
    refine ⟨rfl, ev.mono ?_⟩
    rintro x σ' ⟨I3, rfl, k1, ⟨k2, rfl⟩ | ⟨s, l, k2, rfl, k4⟩⟩
    · exact ⟨I3, rfl, k1, Or.inl ⟨k2, rfl⟩⟩
    · exact ⟨I3, rfl, k1, Or.inr ⟨s, l, k2, rfl, k4⟩⟩
  | false =>
  rw [if_neg (by decide)]
  refine br_t rfl (j_Re_faultOfTape ⟨rfl, nm (t := 2) (by omega) ?_⟩)
  cases h2 : isNm u n 2 (nx u n 0) (ln u n (nx u n 0)) with
  | true =>
    rw [if_pos rfl]
    refine br_f (by decide) ⟨rfl, (ev_wall c2 b1 n1.1 z2 t2).mono ?_⟩
    rintro x σ' ⟨I3, rfl, rfl, k1, k2, k3, k4⟩
    rcases hw : finW u n (qWid u n 3 (ln u n (nx u n 0)) 0 []) with ⟨p', o⟩
    rw [hw] at k2 k4
    cases o with
    | none =>
      refine ⟨fun e => absurd rfl e, fun _ => ⟨rfl, j_Re_faultOfTape ⟨I3, rfl, k1.tr f2, Or.inl ⟨rfl, ?_⟩⟩⟩⟩
      rw [k2]
      rfl
    | some ws =>
      obtain ⟨w1, w2, w3, w4, w5⟩ := k4 ws rfl
      obtain ⟨o1, o2, o3⟩ := w4.ok w5
      have hwal : Wal I3 (lw ws) ws.length := by
        refine ⟨o1, ⟨w5, w4.1⟩, w2, by rw [o2]; exact w1, fun k hk => ?_⟩
        have hg : ws[k]? = some ws[k] := List.getElem?_eq_getElem hk
        rw [o3 k _ hg]
        have := w4.2.1 ws[k] (List.getElem_mem hk)
        exact ⟨w3 k _ hg, this.1, this.2⟩
      refine ⟨fun _ => j_Re_faultOfTape ⟨rfl, (ev_isWallTold hwal k3).mono ?_⟩, fun e => absurd (show b2i true = 0 from e) (by decide)⟩
      rintro x σ' ⟨I4, rfl, rfl, m1, m2⟩
      by_cases tot : totN (lw ws) ws.length ≤ 12
      · have q0 : wres (nx u n 0) (p', some ws) = (p', some (ws.sum, walL (lw ws) ws.length)) := if_pos tot
        rw [decide_eq_true tot, q0]
        exact ⟨fun e => absurd e (by decide), fun _ => j_Re_faultOfTape ⟨I4, rfl, (m1.fr.tr k1).tr f2, Or.inr ⟨ws.sum, _, rfl, rfl, by rw [m1.2 0 (by omega)]; exact w1, m2 tot⟩⟩⟩
      · have q0 : wres (nx u n 0) (p', some ws) = (nx u n 0, none) := if_neg tot
        rw [decide_eq_false tot, q0]
        refine ⟨fun _ => j_Re_faultOfTape ⟨I4, rfl, (m1.fr.tr k1).tr f2, Or.inl ⟨rfl, ?_⟩⟩, fun e => absurd rfl e⟩
        rw [a1]
  | false =>
  rw [if_neg (by decide)]
  refine br_t rfl (j_Re_faultOfTape ⟨rfl, nm (t := 3) (by omega) ?_⟩)
  cases h3 : isNm u n 3 (nx u n 0) (ln u n (nx u n 0)) with
  | true =>
    rw [if_pos rfl]
    refine br_f (by decide) ⟨rfl, (rd_fault f2 (ev_plane c2 b1 n1.1 t2)).mono ?_⟩
    rintro w σ' ⟨I5, b, rfl, rfl, ev⟩
    refine ⟨rfl, ev.mono ?_⟩
    rintro x σ' ⟨I3, rfl, k1, ⟨k2, rfl⟩ | ⟨s, l, k2, rfl, k4⟩⟩
    · exact ⟨I3, rfl, k1, Or.inl ⟨k2, rfl⟩⟩
    · exact ⟨I3, rfl, k1, Or.inr ⟨s, l, k2, rfl, k4⟩⟩
  | false =>
  rw [if_neg (by decide)]
  refine br_t rfl (j_Re_faultOfTape ⟨rfl, nm (t := 4) (by omega) ?_⟩)
  cases h4 : isNm u n 4 (nx u n 0) (ln u n (nx u n 0)) with
  | true =>
    rw [if_pos rfl]
    refine br_f (by decide) ⟨rfl, (rd_fault f2 (ev_figures c2 b1 n1.1 t2)).mono ?_⟩
    rintro w σ' ⟨I5, b, rfl, rfl, ev⟩
    refine ⟨rfl, ev.mono ?_⟩
    rintro x σ' ⟨I3, rfl, k1, ⟨k2, rfl⟩ | ⟨s, l, k2, rfl, k4⟩⟩
    · exact j_Re_faultOfTape ⟨I3, rfl, k1, Or.inl ⟨k2, rfl⟩⟩
    · exact j_Re_faultOfTape ⟨I3, rfl, k1, Or.inr ⟨s, l, k2, rfl, k4⟩⟩
  | false =>
    rw [if_neg (by decide)]
    refine br_t rfl (j_Re_faultOfTape ⟨I2, rfl, f2, Or.inl ⟨rfl, ?_⟩⟩)
    rw [a1]
end RD
