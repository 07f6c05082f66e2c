/-! THE PARTIES -/
theorem i40 (c : Nat) : (4 : Int32) * nI c = nI (4 * c) := by rw [l_4, mul_nI]
theorem i41 (c : Nat) : (4 : Int32) * nI c + 1 = nI (4 * c + 1) := by rw [l_4, mul_nI, l_1, add_nI]
theorem i42 (c : Nat) : (4 : Int32) * nI c + 2 = nI (4 * c + 2) := by rw [l_4, mul_nI, l_2, add_nI]
theorem i43 (c : Nat) : (4 : Int32) * nI c + 3 = nI (4 * c + 3) := by rw [l_4, mul_nI, l_3, add_nI]
theorem i40' (c : Nat) : (4 : Int32) * nI c + 0 = nI (4 * c) := by rw [l_4, mul_nI, l_0, add_nI]; rfl
section PARTY
variable {σ τ : ST} {N P : Nat} {kd : Nat → Nat} {go : Nat → Nat → Nat}
theorem RcG.rt {i1 b0 b1 b2 b3 i2 m : Nat} {τ' : ST} {I A : List Nat} (h : RcG i1 b0 b1 b2 b3 i2 m σ τ N P) (g : Fr τ τ' I A) (d : i2 ∉ I ∧ m ∉ A) : RcG i1 b0 b1 b2 b3 i2 m σ τ' N P := by
  unfold RcG
  rw [g.1 i2 d.1, g.2 m d.2]; exact h
theorem Rc.rt {τ' : ST} {I A : List Nat} (h : Rc σ τ N P) (g : Fr τ τ' I A) (d : 3111 ∉ I ∧ 36 ∉ A) : Rc σ τ' N P := RcG.rt h g d
/-- a row is written -/
theorem Rc.row {σ' τ' : ST} {c P' : Nat} (h : Rc σ τ N P) (h3 : P' ≤ 3) (hp : ∀ p, p < P' → p ≠ c → p < P) (e1 : gI σ' 1700 = nI P') (e2 : gI τ' 3111 = nI P') (e3 : ∀ p, p ≠ c → gA σ' 18 p = gA σ 18 p ∧ gA σ' 19 p = gA σ 19 p ∧ gA σ' 20 p = gA σ 20 p ∧ gA σ' 21 p = gA σ 21 p) (e4 : ∀ i, i < 4 * c ∨ 4 * c + 4 ≤ i → gA τ' 36 i = gA τ 36 i) (e5 : (∃ q, q < N ∧ gA σ' 18 c = nI q) ∧ gA τ' 36 (4 * c) = gA σ' 18 c ∧ gA τ' 36 (4 * c + 1) = gA σ' 19 c ∧ gA τ' 36 (4 * c + 2) = gA σ' 20 c ∧ gA τ' 36 (4 * c + 3) = gA σ' 21 c) : Rc σ' τ' N P' := by
  refine ⟨h3, e1, e2, fun p hpp => ?_⟩
  by_cases q : p = c
  · rw [q]; exact e5
  · obtain ⟨a0, a1, a2, a3⟩ := e3 p q
    obtain ⟨b0, b1, b2, b3, b4⟩ := h.2.2.2 p (hp p hpp q)
    rw [a0, a1, a2, a3, e4 _ (by omega), e4 _ (by omega), e4 _ (by omega), e4 _ (by omega)]
    exact ⟨b0, b1, b2, b3, b4⟩
theorem since_ok (hc : Rc σ τ N P) {c : Nat} (h : c < P) : f_M_sinceOf (nI c) τ = some (f_Camp_stepsSinceSpoken_17 (nI c) σ) := by
  have h3 := hc.1
  obtain ⟨r0, r1, r2, r3, r4⟩ := hc.2.2.2 c h
  unfold f_M_sinceOf f_Camp_stepsSinceSpoken_17
  rw [cell_in (by omega) (by decide), cell_in (by omega) (by decide), i43, i42, if_pos (inB_t (by omega) (by decide)), if_pos (inB_t (by omega) (by decide)), nI_clamp (by omega), nI_clamp (by omega), r4, r3]
  by_cases q : gA σ 21 c = -1
  · rw [if_pos q, if_pos q]
  · rw [if_neg q, if_neg q, if_pos (inB_t (by omega) (by decide))]
theorem may_ok (hc : Rc σ τ N P) {c : Nat} (h : c < P) : f_M_mayLook (nI c) τ = some (f_Camp_mayLook_17 (nI c) σ) := by
  have h3 := hc.1
  obtain ⟨r0, r1, r2, r3, r4⟩ := hc.2.2.2 c h
  unfold f_M_mayLook f_Camp_mayLook_17
  rw [cell_in (by omega) (by decide), i41, if_pos (inB_t (by omega) (by decide)), nI_clamp (by omega), r2, since_ok hc h]
  by_cases q : gA σ 19 c ≤ 0
  · rw [if_pos q, if_pos q]
  · rw [if_neg q, if_neg q, Option.bind_some]
    by_cases q2 : f_Camp_stepsSinceSpoken_17 (nI c) σ = -1
    · rw [if_pos q2, if_pos q2]
    · rw [if_neg q2, if_neg q2, Option.bind_some]
      by_cases q3 : f_Camp_stepsSinceSpoken_17 (nI c) σ < 2
      · rw [if_pos q3, if_pos q3]
      · rw [if_neg q3, if_neg q3]
theorem tell_ok (hc : Rc σ τ N P) {c : Nat} (h : c < P) (x : Int32) : f_M_tell (nI c) x τ = some (f_LT_about (nI c) x σ) := by
  have h3 := hc.1
  obtain ⟨r0, r1, r2, r3, r4⟩ := hc.2.2.2 c h
  have hh : f_Camp_has_17 (nI c) σ = 1 := by
    unfold f_Camp_has_17
    rw [hc.2.1, ite_in h (by omega)]
  unfold f_M_tell f_LT_about
  rw [hh, if_neg n10, cell_in (by omega) (by decide), cell_in (by omega) (by decide), cell_in (by omega) (by decide)]
  by_cases q0 : x = 0
  · rw [if_pos q0, if_pos q0, q0, i40', if_pos (inB_t (by omega) (by decide)), nI_clamp (by omega), r1]
  rw [if_neg q0, if_neg q0]
  by_cases q1 : x = 1
  · rw [if_pos q1, if_pos q1, q1, i41, if_pos (inB_t (by omega) (by decide)), nI_clamp (by omega), r2]
  rw [if_neg q1, if_neg q1]
  by_cases q2 : x = 2
  · rw [if_pos q2, if_pos q2, q2, i42, if_pos (inB_t (by omega) (by decide)), nI_clamp (by omega), r3]
  rw [if_neg q2, if_neg q2]
  by_cases q3 : x = 3
  · rw [if_pos q3, if_pos q3, since_ok hc h]; rfl
  rw [if_neg q3, if_neg q3]
  by_cases q4 : x = 4
  · rw [if_pos q4, if_pos q4, may_ok hc h, Option.bind_some]
    by_cases z : f_Camp_mayLook_17 (nI c) σ = 0
    · rw [if_pos z, if_pos z]
    · rw [if_neg z, if_neg z]
  rw [if_neg q4, if_neg q4]
theorem eq_about (hc : Rc σ τ N P) (p x : Int32) : f_M_about p x τ = some (f_LT_about p x σ) := by
  unfold f_M_about
  rcases party_cases hc p with ⟨h1, h2⟩ | ⟨c, h, e, h1, h2⟩
  · unfold f_LT_about
    rw [h1, h2, if_pos rfl, if_pos rfl]
  · subst e
    rw [h2, if_neg n10, tell_ok hc h]; rfl
theorem eq_look (hC : Mc σ N kd go) (hM : Mm τ N kd go) (hc : Rc σ τ N P) (p : Int32) : f_M_look p τ = some (f_LT_look p σ) := by
  have h3 := hc.1
  have hN := hC.1
  unfold f_M_look f_LT_look
  rcases party_cases hc p with ⟨h1, h2⟩ | ⟨c, h, e, h1, h2⟩
  · rw [h1, h2, if_pos rfl, if_pos rfl]
  · subst e
    obtain ⟨⟨q, hq, r0⟩, r1, -⟩ := hc.2.2.2 c h
    rw [h1, h2, if_neg n10, if_neg n10, may_ok hc h, Option.bind_some, cell_in (by omega) (by decide), i40, if_pos (inB_t (by omega) (by decide)), nI_clamp (by omega), r1, r0]
    by_cases z : f_Camp_mayLook_17 (nI c) σ = 0
    · rw [if_pos z, if_pos z]
    · rw [if_neg z, if_neg z, m_kind hC hq, if_pos (inB_t (by omega) (by decide)), nI_clamp (by omega), (hM.2.2.1 q hq).2]
end PARTY
section PARTY2
variable {σ : ST} {j : Nat}
theorem op_fill (h : Inv σ j) (p : Int32) : Op (f_LT_fill p σ).1 (f_M_fill p (f_LT_fill p σ).2) j := by
  have h0 := h
  obtain ⟨pn, cd, N, kd, go, P, k, g1, g2, g3, g4, g5⟩ := h
  have h3 := g3.1
  unfold f_LT_fill f_M_fill
  rcases party_cases g3 p with ⟨h1, h2⟩ | ⟨c, h, e, h1, h2⟩
  · rw [h1, if_pos rfl]
    show Op _ (if f_M_isParty p σ = 0 then _ else _) j
    rw [h2, if_pos rfl]; exact ⟨σ, rfl, h0⟩
  · subst e
    obtain ⟨r0, r1, r2, r3, r4⟩ := g3.2.2.2 c h
    rw [h1, if_neg n10, put_in (by omega) (by decide), cell_in (by omega) (by decide)]
    show Op (gA σ 19 c) (if f_M_isParty (nI c) σ = 0 then _ else _) j
    rw [h2, if_neg n10, i41, if_pos (inB_t (by omega) (by decide)), if_pos (inB_t (by omega) (by decide)), nI_clamp (by omega)]
    refine ⟨sA (sA σ 19 c (gI σ 301)) 36 (4 * c + 1) (gI σ 3107), ?_, ?_⟩
    · show some (gA (sA σ 19 c (gI σ 301)) 36 (4 * c + 1), _) = _
      rw [gA_sA', if_neg (by omega), r2]; rfl
    · have f : Fr σ (sA (sA σ 19 c (gI σ 301)) 36 (4 * c + 1) (gI σ 3107)) [] [19, 36] := Fr.sA (Fr.sA Fr.rf (by decide)) (by decide)
      refine ⟨pn, cd, N, kd, go, P, k, g1.fr f f (by decide), g2.fr f f (by decide), ?_, g4.fr f f (by decide), g5.fr f f (by decide)⟩
      refine g3.row (c := c) h3 (fun _ z _ => z) g3.2.1 g3.2.2.1 (fun p hp => ?_) (fun i hi => ?_) ?_
      · simp only [gA_sA']
        simp [hp]
      · rw [gA_sA', if_neg (by omega), gA_sA', if_neg (by omega)]
      · simp only [gA_sA']
        simp [r0, r1, r3, r4, g2.2.2.2]
theorem op_speak (h : Inv σ j) (p : Int32) : Op (f_LT_speak p σ).1 (f_M_speak p (f_LT_speak p σ).2) j := by
  have h0 := h
  obtain ⟨pn, cd, N, kd, go, P, k, g1, g2, g3, g4, g5⟩ := h
  have h3 := g3.1
  have hN := g2.2.1.1
  unfold f_LT_speak f_M_speak
  rcases party_cases g3 p with ⟨h1, h2⟩ | ⟨c, h, e, h1, h2⟩
  · rw [h1, if_pos rfl]
    show Op _ (if f_M_isParty p σ = 0 then _ else _) j
    rw [h2, if_pos rfl]; exact ⟨σ, rfl, h0⟩
  · subst e
    obtain ⟨⟨q, hq, r0⟩, r1, r2, r3, r4⟩ := g3.2.2.2 c h
    have f1 : Fr σ (sA σ 21 c (gA σ 20 c)) [] [21] := Fr.sA Fr.rf (by decide)
    have c1 := g2.2.1.fr f1 (by decide)
    rw [h1, if_neg n10, cell_in (a := 20) (by omega) (by decide), put_in (by omega) (by decide), cell_in (by omega) (by decide)]
    have e18 : gA (sA σ 21 c (gA σ 20 c)) 18 c = nI q := by rw [gA_sA', if_neg (by omega), r0]
    rw [e18, m_sound c1 hq]
    show Op (nI (sn kd q)) (if f_M_isParty (nI c) σ = 0 then _ else _) j
    have e362 : gA (sA σ 21 c (gA σ 20 c)) 36 (4 * c + 2) = gA σ 20 c := by rw [gA_sA', if_neg (by omega), r3]
    rw [h2, if_neg n10, i42, i43, i40, if_pos (inB_t (by omega) (by decide)), if_pos (inB_t (by omega) (by decide)), if_pos (inB_t (by omega) (by decide)), nI_clamp (by omega), nI_clamp (by omega), nI_clamp (by omega)]
    show Op _ (Option.bind (f_M_soundOf (gA (sA (sA σ 21 c (gA σ 20 c)) 36 (4 * c + 3) (gA (sA σ 21 c (gA σ 20 c)) 36 (4 * c + 2))) 36 (4 * c)) (sA (sA σ 21 c (gA σ 20 c)) 36 (4 * c + 3) (gA (sA σ 21 c (gA σ 20 c)) 36 (4 * c + 2)))) (fun q5 => some (q5, sA (sA σ 21 c (gA σ 20 c)) 36 (4 * c + 3) (gA (sA σ 21 c (gA σ 20 c)) 36 (4 * c + 2))))) j
    rw [e362]
    have f : Fr σ (sA (sA σ 21 c (gA σ 20 c)) 36 (4 * c + 3) (gA σ 20 c)) [] [21, 36] := Fr.sA (Fr.sA Fr.rf (by decide)) (by decide)
    have e0 : gA (sA (sA σ 21 c (gA σ 20 c)) 36 (4 * c + 3) (gA σ 20 c)) 36 (4 * c) = nI q := by rw [gA_sA', if_neg (by omega), gA_sA', if_neg (by omega), r1, r0]
    rw [e0, mm_sound (g2.2.2.1.fr f (by decide)) hq]
    refine ⟨_, rfl, pn, cd, N, kd, go, P, k, g1.fr f f (by decide), g2.fr f f (by decide), ?_, g4.fr f f (by decide), g5.fr f f (by decide)⟩
    refine g3.row (c := c) h3 (fun _ z _ => z) g3.2.1 g3.2.2.1 (fun p hp => ?_) (fun i hi => ?_) ?_
    · simp only [gA_sA']
      simp [hp]
    · rw [gA_sA', if_neg (by omega), gA_sA', if_neg (by omega)]
    · refine ⟨⟨q, hq, ?_⟩, ?_⟩
      · simp only [gA_sA']; simp [r0]
      · simp only [gA_sA']
        simp [r1, r2, r3]
theorem op_party (h : Inv σ j) (p : Int32) : Op (f_LT_party p σ).1 (f_M_party p (f_LT_party p σ).2) j := by
  have h0 := h
  obtain ⟨pn, cd, N, kd, go, P, k, g1, g2, g3, g4, g5⟩ := h
  obtain ⟨h3, k1, k2, k3⟩ := g3
  have g3 : Rc σ σ N P := ⟨h3, k1, k2, k3⟩
  unfold f_LT_party
  rcases cross_cases g2.2.1 g2.2.2.1 p with ⟨h1, h2⟩ | ⟨c, hc, e, h1, h2⟩
  · rw [h1, if_pos rfl]
    unfold f_M_party
    show Op _ (if f_M_isCrossing p σ = 0 then _ else _) j
    rw [h2, if_pos rfl]; exact ⟨σ, rfl, h0⟩
  · subst e
    rw [h1, if_neg n10, k1, l_3]
    by_cases q : P < 3
    · rw [if_pos (nI_lt q (by decide))]
      have eW : f_Camp_welcome_17 (nI c) (gI σ 301) σ = (nI P, sI (sA (sA (sA (sA σ 18 P (nI c)) 19 P (gI σ 301)) 20 P 0) 21 P (-1)) 1700 (nI (P + 1))) := by
        unfold f_Camp_welcome_17
        rw [k1, put_in q (by decide), put_in q (by decide), put_in q (by decide), put_in q (by decide)]
        show (nI P, sI _ 1700 (gI σ 1700 + 1)) = _
        rw [k1, l_1, add_nI]
      rw [eW]
      show Op (nI P) (f_M_party (nI c) (sI (sA (sA (sA (sA σ 18 P (nI c)) 19 P (gI σ 301)) 20 P 0) 21 P (-1)) 1700 (nI (P + 1)))) j
      generalize hυ : sI (sA (sA (sA (sA σ 18 P (nI c)) 19 P (gI σ 301)) 20 P 0) 21 P (-1)) 1700 (nI (P + 1)) = υ
      have f1 : Fr σ υ [1700] [18, 19, 20, 21] := by rw [← hυ]; exact Fr.sI (Fr.sA (Fr.sA (Fr.sA (Fr.sA Fr.rf (by decide)) (by decide)) (by decide)) (by decide)) (by decide)
      have u1 : gI υ 3111 = nI P := by rw [f1.1 3111 (by decide)]; exact k2
      have u2 : f_M_isCrossing (nI c) υ = 1 := by
        unfold f_M_isCrossing at h2 ⊢
        rw [f1.1 3106 (by decide)]; exact h2
      unfold f_M_party
      simp only [gI_sA, gI_sI, if_pos]
      have ne3 : ¬ nI P = (3 : Int32) := fun z => absurd (nI_inj (a := P) (b := 3) (by omega) (by decide) z) (by omega)
      rw [u2, if_neg n10, u1, if_neg ne3, i41, i42, i43, i40, if_pos (inB_t (by omega) (by decide)), if_pos (inB_t (by omega) (by decide)), if_pos (inB_t (by omega) (by decide)), if_pos (inB_t (by omega) (by decide)), nI_clamp (by omega), nI_clamp (by omega), nI_clamp (by omega), nI_clamp (by omega), nI_1, nI_pred]
      refine ⟨_, rfl, ?_⟩
      have f : Fr σ (sI (sA (sA (sA (sA υ 36 (4 * P) (nI c)) 36 (4 * P + 1) (gI υ 3107)) 36 (4 * P + 2) 0) 36 (4 * P + 3) (-1)) 3111 (nI (P + 1))) [1700, 3111] [18, 19, 20, 21, 36] := Fr.sI (Fr.sA (Fr.sA (Fr.sA (Fr.sA (f1.mono (by decide) (by decide)) (by decide)) (by decide)) (by decide)) (by decide)) (by decide)
      refine ⟨pn, cd, N, kd, go, P + 1, k, g1.fr f f (by decide), g2.fr f f (by decide), ?_, g4.fr f f (by decide), g5.fr f f (by decide)⟩
      refine g3.row (c := P) (by omega) (fun p z y => by omega) ?_ rfl (fun p hp => ?_) (fun i hi => ?_) ?_
      · show gI υ 1700 = _
        rw [← hυ]; rfl
      · rw [← hυ]
        simp only [gA_sA', gA_sI]
        simp [hp]
      · show gA (sA (sA (sA (sA υ 36 (4 * P) (nI c)) 36 (4 * P + 1) (gI υ 3107)) 36 (4 * P + 2) 0) 36 (4 * P + 3) (-1)) 36 i = _
        rw [gA_sA', if_neg (by omega), gA_sA', if_neg (by omega), gA_sA', if_neg (by omega), gA_sA', if_neg (by omega), f1.2 36 (by decide)]
      · have e7 : gI υ 3107 = gI σ 301 := by rw [f1.1 3107 (by decide)]; exact g2.2.2.2
        rw [e7, ← hυ]
        refine ⟨⟨c, hc, ?_⟩, ?_⟩
        · simp only [gA_sA', gA_sI]; simp
        · simp only [gA_sA', gA_sI]; simp
    · have : P = 3 := by omega
      subst this
      rw [if_neg (nI_nlt (Nat.le_refl _) (by decide))]
      unfold f_M_party
      show Op _ (if f_M_isCrossing (nI c) σ = 0 then _ else _) j
      rw [h2, if_neg n10, k2, if_pos (show nI 3 = 3 from rfl)]; exact ⟨σ, rfl, h0⟩
end PARTY2
