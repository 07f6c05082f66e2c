/-! THE OPERATIONS, ONE BY ONE -/
/-- both answer the same, and the sides hold together -/
def Op (r : Int32) (m : Option (Int32 × ST)) (j : Nat) : Prop := ∃ τ, m = some (r, τ) ∧ Inv τ j
theorem Op.of {r : Int32} {m : Option (Int32 × ST)} {j : Nat} {τ : ST} (h : m = some (r, τ)) (hi : Inv τ j) : Op r m j := ⟨τ, h, hi⟩
section OPS
variable {σ : ST} {j : Nat}
theorem op_blank (h : Inv σ j) : (f_LT_blank σ).1 = (f_M_blank (f_LT_blank σ).2).1 ∧ Inv (f_M_blank (f_LT_blank σ).2).2 j := by
  obtain ⟨pn, cd, N, kd, go, P, k, h1, h2, h3, h4, h5⟩ := h
  have f : Fr σ (f_M_blank (f_LT_blank σ).2).2 [101, 3101] [] := Fr.sI (Fr.sI Fr.rf (by decide)) (by decide)
  refine ⟨?_, 0, cd, N, kd, go, P, k, ⟨by decide, rfl, rfl, fun k hk => absurd hk (by omega)⟩, h2.fr f f (by decide), h3.fr f f (by decide), h4.fr f f (by decide), h5.fr f f (by decide)⟩
  show gI σ 101 = gI σ 3101
  rw [h1.2.1, h1.2.2.1]
theorem op_forget (h : Inv σ j) : (f_LT_forget σ).1 = (f_M_forget (f_LT_forget σ).2).1 ∧ Inv (f_M_forget (f_LT_forget σ).2).2 j := by
  obtain ⟨pn, cd, N, kd, go, P, k, h1, h2, h3, h4, h5⟩ := h
  have f : Fr σ (f_M_forget (f_LT_forget σ).2).2 [1705, 3116] [] := Fr.sI (Fr.sI Fr.rf (by decide)) (by decide)
  refine ⟨?_, pn, cd, N, kd, go, P, 0, h1.fr f f (by decide), h2.fr f f (by decide), h3.fr f f (by decide), ⟨by decide, rfl, rfl, fun k hk => absurd hk (by omega)⟩, h5.fr f f (by decide)⟩
  show gI σ 1705 = gI σ 3116
  rw [h4.2.1, h4.2.2.1]
theorem op_letter (h : Inv σ j) (p : Int32) : Op (f_LT_letter p σ).1 (f_M_letter p (f_LT_letter p σ).2) j := by
  have h0 := h
  obtain ⟨pn, cd, N, kd, go, P, k, h1, h2, h3, h4, h5⟩ := h
  obtain ⟨a1, a2, a3, a4⟩ := h1
  unfold f_LT_letter f_M_letter
  rw [L_1, L_126, in_eq]
  by_cases q1 : p < 1
  · rw [if_pos q1, if_pos q1, if_pos rfl]; exact ⟨σ, rfl, h0⟩
  · rw [if_neg q1, if_neg q1]
    by_cases q2 : p ≤ 126
    · obtain ⟨c, c1, c2, e⟩ := rng (a := 1) (b := 126) (by decide) q1 q2 (by decide)
      have q3 : ¬ (126 : Int32) < p := by subst e; rw [l_126]; exact nI_nlt (by omega) (by omega)
      rw [if_pos q2, if_neg q3, if_neg n10, a2, l_28]
      by_cases q4 : pn < 28
      · rw [if_pos (nI_lt q4 (by decide))]
        have eP : f_Page_write p σ = sI (sA σ 2 pn p) 101 (nI (pn + 1)) := by
          unfold f_Page_write
          rw [a2, put_in q4 (by decide)]
          show sI (sA σ 2 pn p) 101 (gI σ 101 + 1) = _
          rw [a2, l_1, add_nI]
        rw [eP]
        generalize hυ : sI (sA σ 2 pn p) 101 (nI (pn + 1)) = υ
        have e1 : gI υ 3101 = nI pn := by rw [← hυ]; exact a3
        have e2 : gI υ 101 = nI (pn + 1) := by rw [← hυ]; rfl
        show Op (gI υ 101) (if gI υ 3101 = nI 28 then _ else _) j
        have e3 : gI (sA υ 32 pn p) 3101 = nI pn := e1
        rw [e1, if_neg (fun z => absurd (nI_inj (by omega) (by decide) z) (by omega)), if_pos (inB_t q4 (by decide)), nI_clamp (by omega), e3, l_1, add_nI, e2]
        refine ⟨_, rfl, ?_⟩
        have f : Fr σ (sI (sA υ 32 pn p) 3101 (nI (pn + 1))) [101, 3101] [2, 32] := by
          rw [← hυ]; exact Fr.sI (Fr.sA (Fr.sI (Fr.sA Fr.rf (by decide)) (by decide)) (by decide)) (by decide)
        refine ⟨pn + 1, fun k => if k = pn then c else cd k, N, kd, go, P, k, ⟨by omega, ?_, rfl, fun i hi => ?_⟩, h2.fr f f (by decide), h3.fr f f (by decide), h4.fr f f (by decide), h5.fr f f (by decide)⟩
        · rw [← hυ]; rfl
        · rw [← hυ]
          simp only [gA_sI, gA_sA']
          by_cases q : i = pn
          · subst q
            simp [c1, c2, e]
          · have := a4 i (by omega)
            simp [q, this]
      · have : pn = 28 := by omega
        subst this
        rw [if_neg (nI_nlt (Nat.le_refl _) (by decide))]
        show Op _ (if gI σ 3101 = nI 28 then _ else _) j
        rw [a3, if_pos rfl]; exact ⟨σ, rfl, h0⟩
    · have q3 : (126 : Int32) < p := by rw [fa_lt]; rw [fa_le] at q2; omega
      rw [if_neg q2, if_pos q3, if_pos rfl]; exact ⟨σ, rfl, h0⟩
end OPS
/-! crossing -/
section CROSS
variable {σ τ : ST} {N P : Nat} {kd : Nat → Nat} {go : Nat → Nat → Nat}
theorem who_loop (hc : Rc σ τ N P) (x : Int32) : ∀ (n i : Nat) (v : Int32), P - i < n → i ≤ P → ∃ w, f_Camp_partiesAt_17_L4 n x v (nI i) σ = some w ∧ f_M_whoIsAt_L4 n x v (nI i) τ = some w := by
  obtain ⟨h3, g1, g2, g3⟩ := hc
  intro n
  induction n with
  | zero => intro i v h; omega
  | succ n ih =>
    intro i v hn hi
    rw [f_Camp_partiesAt_17_L4, f_M_whoIsAt_L4, g1, g2]
    by_cases q : i < P
    · have r := (g3 i q).2.1
      rw [if_neg (nI_ge q (by omega)), if_neg (nI_ge q (by omega)), cell_in (by omega) (by decide), l_4, mul_nI, if_pos (inB_t (by omega) (by decide)), nI_clamp (by omega), r, l_1, add_nI]
      have hor : v ||| 0 = v := by simp
      by_cases z : gA σ 18 i = x
      · rw [if_pos z, if_pos z]; exact ih _ _ (by omega) (by omega)
      · rw [if_neg z, if_neg z, hor]; exact ih _ _ (by omega) (by omega)
    · have : i = P := by omega
      subst this
      rw [if_pos (nI_le (Nat.le_refl _) (by omega)), if_pos (nI_le (Nat.le_refl _) (by omega))]
      exact ⟨v, rfl, rfl⟩
theorem who_ok (hc : Rc σ τ N P) (x : Int32) : ∃ w, f_Camp_partiesAt_17 x σ = some w ∧ f_M_whoIsAt x τ = some w := by
  obtain ⟨w, h1, h2⟩ := who_loop hc x 400 0 0 (by have := hc.1; omega) (by omega)
  have h1' : f_Camp_partiesAt_17_L4 400 x 0 0 σ = some w := h1
  have h2' : f_M_whoIsAt_L4 400 x 0 0 τ = some w := h2
  refine ⟨w, ?_, ?_⟩
  · unfold f_Camp_partiesAt_17; rw [h1']; rfl
  · unfold f_M_whoIsAt; rw [h2']; rfl
theorem tellC (hC : Mc σ N kd go) (hM : Mm τ N kd go) (hc : Rc σ τ N P) {c : Nat} (h : c < N) (x : Int32) : ∃ v, f_LT_crossing (nI c) x σ = some v ∧ f_M_tellCrossing (nI c) x τ = some v := by
  have hN := hC.1
  have hh : f_Mine_has (nI c) σ = 1 := by
    unfold f_Mine_has
    rw [hC.2.1, ite_in h (by omega)]
  unfold f_LT_crossing f_M_tellCrossing
  rw [hh, if_neg n10]
  by_cases q0 : x = 0
  · rw [if_pos q0, if_pos q0, if_pos (inB_t (by omega) (by decide)), nI_clamp (by omega), m_kind hC h, (hM.2.2.1 c h).2]; exact ⟨_, rfl, rfl⟩
  rw [if_neg q0, if_neg q0]
  by_cases q1 : x = 1
  · obtain ⟨t1, t2⟩ := hM.to h (show 0 < 2 by decide)
    have t3 := m_leads hC h (show 0 < 2 by decide)
    rw [if_pos q1, if_pos q1, q1, l_2, l_1, mul_nI, add_nI, sub_nI (by omega), show 2 * c + 1 - 1 = 2 * c by omega, if_pos (inB_t (by omega) (by decide)), nI_clamp (by omega)]
    exact ⟨_, congrArg some t3, congrArg some t2⟩
  rw [if_neg q1, if_neg q1]
  by_cases q2 : x = 2
  · obtain ⟨t1, t2⟩ := hM.to h (show 1 < 2 by decide)
    have t3 := m_leads hC h (show 1 < 2 by decide)
    rw [if_pos q2, if_pos q2, q2, l_2, l_1, mul_nI, add_nI, sub_nI (by omega), show 2 * c + 2 - 1 = 2 * c + 1 by omega, if_pos (inB_t (by omega) (by decide)), nI_clamp (by omega)]
    exact ⟨_, congrArg some t3, congrArg some t2⟩
  rw [if_neg q2, if_neg q2]
  by_cases q3 : x = 3
  · rw [if_pos q3, if_pos q3, m_sound hC h, mm_sound hM h]; exact ⟨_, rfl, rfl⟩
  rw [if_neg q3, if_neg q3]
  by_cases q4 : x = 4
  · rw [if_pos q4, if_pos q4, m_oil hC h, mm_burn hM h]; exact ⟨_, rfl, rfl⟩
  rw [if_neg q4, if_neg q4]
  by_cases q5 : x = 5
  · obtain ⟨w, w1, w2⟩ := who_ok hc (nI c)
    rw [if_pos q5, if_pos q5, w1, w2]; exact ⟨_, rfl, rfl⟩
  rw [if_neg q5, if_neg q5]; exact ⟨_, rfl, rfl⟩
theorem eq_crossing (hC : Mc σ N kd go) (hM : Mm τ N kd go) (hc : Rc σ τ N P) (p x : Int32) : ∃ v, f_LT_crossing p x σ = some v ∧ f_M_crossing p x τ = some v := by
  unfold f_M_crossing
  rcases cross_cases hC hM p with ⟨h1, h2⟩ | ⟨c, h, e, h1, h2⟩
  · unfold f_LT_crossing
    rw [h1, h2, if_pos rfl, if_pos rfl]; exact ⟨_, rfl, rfl⟩
  · subst e
    obtain ⟨v, v1, v2⟩ := tellC hC hM hc h x
    rw [h2, if_neg n10, v2]; exact ⟨v, v1, rfl⟩
theorem eq_as (hC : Mc σ N kd go) (hM : Mm τ N kd go) (p x : Int32) : f_M_as p x τ = some (f_LT_as p x σ) := by
  have hN := hC.1
  unfold f_M_as f_LT_as
  rcases cross_cases hC hM p with ⟨h1, h2⟩ | ⟨c, h, e, h1, h2⟩
  · rw [h1, h2, if_pos rfl, if_pos rfl]
  · subst e
    have e4 : (4 : Int64) = (nI 4).toInt64 := by decide
    rw [h1, h2, if_neg n10, if_neg n10, e4]
    rcases in_dec 4 (by decide) x with ⟨k, hk, e, i1⟩ | ⟨-, i1, i2⟩
    · rw [i1, if_neg n10]
      subst e
      have hx : nI k < 5 := by rw [l_5]; exact nI_lt (by omega) (by decide)
      rw [if_neg (nI_pos (by omega)), if_pos hx]
      unfold f_LT_isSuch
      rw [m_kind hC h, if_pos (inB_t (by omega) (by decide)), nI_clamp (by omega), (hM.2.2.1 c h).2]
      by_cases q0 : nI k = 0
      · rw [if_pos q0, if_pos q0, if_neg n10]
      rw [if_neg q0, if_neg q0]
      by_cases q1 : nI k = nI (kd c)
      · rw [if_pos q1, if_pos q1, if_neg n10]
      rw [if_neg q1, if_neg q1]
      by_cases q2 : nI k = 1
      · rw [if_pos q2, if_pos q2]
        by_cases q3 : nI (kd c) = 4
        · rw [if_pos q3, if_pos q3, if_pos (inB_t (by omega) (by decide)), if_neg n10]
        · rw [if_neg q3, if_neg q3, if_pos (inB_t (by omega) (by decide)), if_pos rfl]
      · rw [if_neg q2, if_neg q2, if_pos rfl]
    · rw [i2, if_pos rfl]
      by_cases q : x < 0
      · rw [if_pos q]
      · have i1 := i1.resolve_left q
        have : ¬ x < 5 := by rw [fa_lt]; rw [fa_le] at i1; have : (nI (4 + 1)).toInt = (5 : Int32).toInt := by decide
                             omega
        rw [if_neg q, if_neg this]
end CROSS
