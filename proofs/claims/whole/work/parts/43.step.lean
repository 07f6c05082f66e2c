/-! STEP, HEAR -/
theorem way_cases (p : Int32) : (f_LT_isWay p = 0 ∧ f_M_in p.toInt64 (0 : Int64) (1 : Int64) = 0) ∨ ∃ w, w < 2 ∧ p = nI w ∧ f_LT_isWay p = 1 ∧ f_M_in p.toInt64 (0 : Int64) (1 : Int64) = 1 := by
  have e1 : (1 : Int64) = (nI 1).toInt64 := by decide
  unfold f_LT_isWay
  rcases in_dec 1 (by decide) p with ⟨k, hk, e, i1⟩ | ⟨i0, i1, i2⟩
  · refine Or.inr ⟨k, by omega, e, ?_, by rw [e1]; exact i1⟩
    rcases (show k = 0 ∨ k = 1 by omega) with z | z
    · subst z; rw [if_pos (show p = 0 from e)]
    · subst z; rw [e]; rfl
  · refine Or.inl ⟨?_, by rw [e1]; exact i2⟩
    rw [if_neg (show ¬ p = 0 from i0 0 (by decide)), if_neg (show ¬ p = 1 from i0 1 (by decide))]
theorem snd_cases (p : Int32) : (∃ k, k < 3 ∧ p = nI k ∧ ¬ p < 0 ∧ p < 3 ∧ f_M_in p.toInt64 (0 : Int64) (2 : Int64) = 1) ∨ ((p < 0 ∨ (¬ p < 0 ∧ ¬ p < 3)) ∧ f_M_in p.toInt64 (0 : Int64) (2 : Int64) = 0) := by
  have e1 : (2 : Int64) = (nI 2).toInt64 := by decide
  rcases in_dec 2 (by decide) p with ⟨k, hk, e, i1⟩ | ⟨i0, i1, i2⟩
  · refine Or.inl ⟨k, by omega, e, ?_, ?_, by rw [e1]; exact i1⟩
    · rw [e]; exact nI_pos (by omega)
    · rw [e, l_3]; exact nI_lt (by omega) (by decide)
  · refine Or.inr ⟨?_, by rw [e1]; exact i2⟩
    by_cases q : p < 0
    · exact Or.inl q
    · refine Or.inr ⟨q, ?_⟩
      have i1 := i1.resolve_left q
      rw [fa_lt]
      rw [fa_le] at i1
      have : (nI (2 + 1)).toInt = (3 : Int32).toInt := by decide
      omega
section STEP
variable {σ : ST} {j : Nat}
theorem op_step (h : Inv σ j) (p x : Int32) : Op (f_LT_step p x σ).1 (f_M_step p x (f_LT_step p x σ).2) j := by
  have h0 := h
  obtain ⟨pn, cd, N, kd, go, P, k, g1, g2, g3, g4, g5⟩ := h
  have h3 := g3.1
  have hC := g2.2.1
  have hM := g2.2.2.1
  have hN := hC.1
  unfold f_LT_step
  rcases party_cases g3 p with ⟨h1, h2⟩ | ⟨c, h, e, h1, h2⟩
  · rw [h1, if_pos rfl]
    unfold f_M_step
    show Op _ (if f_M_isParty p σ = 0 then _ else _) j
    rw [h2, if_pos rfl]; exact ⟨σ, rfl, h0⟩
  subst e
  rw [h1, if_neg n10]
  rcases way_cases x with ⟨w1, w2⟩ | ⟨w, hw, e, w1, w2⟩
  · rw [w1, if_pos rfl]
    unfold f_M_step
    show Op _ (if f_M_isParty (nI c) σ = 0 then _ else _) j
    rw [h2, if_neg n10, w2, if_pos rfl]; exact ⟨σ, rfl, h0⟩
  rw [w1, if_neg n10]
  subst e
  obtain ⟨⟨q, hq, r0⟩, r1, r2, r3, r4⟩ := g3.2.2.2 c h
  have hg := go_lt hC hq hw
  rw [cell_in (a := 18) (by omega) (by decide), cell_in (a := 19) (by omega) (by decide), r0, m_leads hC hq hw, m_oil hC hg]
  have core : ∀ υ : ST, gA υ 36 = gA σ 36 → gI υ 3111 = gI σ 3111 → Mm υ N kd go → f_M_step (nI c) (nI w) υ = if nI (bn kd (go q w)) ≤ gA σ 19 c then some (nI (go q w), sA (sA (sA υ 36 (4 * c) (nI (go q w))) 36 (4 * c + 1) (gA σ 19 c - nI (bn kd (go q w)))) 36 (4 * c + 2) (gA σ 20 c + 1)) else some (-103, υ) := by
    intro υ e1 e2 hM'
    have ep : f_M_isParty (nI c) υ = 1 := by
      unfold f_M_isParty at h2 ⊢
      rw [e2]; exact h2
    have eix : (2 : Int32) * nI q + nI w = nI (2 * q + w) := by rw [l_2, mul_nI, add_nI]
    obtain ⟨-, t2⟩ := hM'.to hq hw
    have hM2 : Mm (sA υ 36 (4 * c) (nI (go q w))) N kd go := hM'.fr (I := []) (A := [36]) (Fr.sA Fr.rf (by decide)) (by decide)
    unfold f_M_step
    rw [ep, if_neg n10, w2, if_neg n10, i41, i42, i40, if_pos (inB_t (by omega) (by decide)), nI_clamp (show 4 * c < 2 ^ 31 by omega), nI_clamp (show 4 * c + 1 < 2 ^ 31 by omega), nI_clamp (show 4 * c + 2 < 2 ^ 31 by omega), e1, r1, r0, eix, nI_clamp (show 2 * q + w < 2 ^ 31 by omega), t2, if_pos (inB_t (by omega) (by decide)), if_pos (inB_t (by omega) (by decide)), mm_burn hM' hg, Option.bind_some, r2]
    by_cases z : nI (bn kd (go q w)) ≤ gA σ 19 c
    · rw [if_pos z, if_pos z, if_pos (inB_t (by omega) (by decide)), if_pos (inB_t (by omega) (by decide)), mm_burn hM2 hg, Option.bind_some, if_pos (inB_t (by omega) (by decide)), if_pos (inB_t (by omega) (by decide)), if_pos (inB_t (by omega) (by decide))]
      have b1 : gA (sA υ 36 (4 * c) (nI (go q w))) 36 (4 * c + 1) = gA σ 19 c := by rw [gA_sA', if_neg (by omega), e1, r2]
      rw [b1]
      have b2 : gA (sA (sA υ 36 (4 * c) (nI (go q w))) 36 (4 * c + 1) (gA σ 19 c - nI (bn kd (go q w)))) 36 (4 * c + 2) = gA σ 20 c := by rw [gA_sA', if_neg (by omega), gA_sA', if_neg (by omega), e1, r3]
      rw [b2]
    · rw [if_neg z, if_neg z]
  by_cases z : nI (bn kd (go q w)) ≤ gA σ 19 c
  · rw [if_pos z]
    have eG : f_Camp_go_17 (nI c) (nI (go q w)) (nI (bn kd (go q w))) σ = sA (sA (sA σ 18 c (nI (go q w))) 19 c (gA σ 19 c - nI (bn kd (go q w)))) 20 c (gA σ 20 c + 1) := by
      unfold f_Camp_go_17
      rw [put_in (by omega) (by decide), cell_in (by omega) (by decide), put_in (by omega) (by decide), cell_in (by omega) (by decide), put_in (by omega) (by decide)]
      have b1 : gA (sA σ 18 c (nI (go q w))) 19 c = gA σ 19 c := by rw [gA_sA', if_neg (by omega)]
      rw [b1]
      have b2 : gA (sA (sA σ 18 c (nI (go q w))) 19 c (gA σ 19 c - nI (bn kd (go q w)))) 20 c = gA σ 20 c := by rw [gA_sA', if_neg (by omega), gA_sA', if_neg (by omega)]
      rw [b2]
    rw [eG]
    show Op (nI (go q w)) (f_M_step (nI c) (nI w) (sA (sA (sA σ 18 c (nI (go q w))) 19 c (gA σ 19 c - nI (bn kd (go q w)))) 20 c (gA σ 20 c + 1))) j
    generalize hυ : sA (sA (sA σ 18 c (nI (go q w))) 19 c (gA σ 19 c - nI (bn kd (go q w)))) 20 c (gA σ 20 c + 1) = υ
    have f1 : Fr σ υ [] [18, 19, 20] := by rw [← hυ]; exact Fr.sA (Fr.sA (Fr.sA Fr.rf (by decide)) (by decide)) (by decide)
    rw [core υ (f1.2 36 (by decide)) (f1.1 3111 (by decide)) (hM.fr f1 (by decide)), if_pos z]
    refine ⟨_, rfl, ?_⟩
    have f : Fr σ (sA (sA (sA υ 36 (4 * c) (nI (go q w))) 36 (4 * c + 1) (gA σ 19 c - nI (bn kd (go q w)))) 36 (4 * c + 2) (gA σ 20 c + 1)) [] [18, 19, 20, 36] := Fr.sA (Fr.sA (Fr.sA (f1.mono (by decide) (by decide)) (by decide)) (by decide)) (by decide)
    refine ⟨pn, cd, N, kd, go, P, k, g1.fr f f (by decide), g2.fr f f (by decide), ?_, g4.fr f f (by decide), g5.fr f f (by decide)⟩
    refine g3.row (c := c) h3 (fun _ z _ => z) ?_ ?_ (fun p hp => ?_) (fun i hi => ?_) ?_
    · rw [f.1 1700 (by decide)]; exact g3.2.1
    · rw [f.1 3111 (by decide)]; exact g3.2.2.1
    · rw [← hυ]
      simp only [gA_sA']
      simp [hp]
    · rw [gA_sA', if_neg (by omega), gA_sA', if_neg (by omega), gA_sA', if_neg (by omega), f1.2 36 (by decide)]
    · rw [← hυ]
      refine ⟨⟨go q w, hg, ?_⟩, ?_⟩
      · simp only [gA_sA']; simp
      · simp only [gA_sA']; simp [r4]
  · rw [if_neg z]
    show Op (-103) (f_M_step (nI c) (nI w) σ) j
    rw [core σ rfl rfl hM, if_neg z]
    exact ⟨σ, rfl, h0⟩
theorem op_hear (h : Inv σ j) (p x : Int32) : Op (f_LT_hear p x σ).1 (f_M_hear p x (f_LT_hear p x σ).2) j := by
  have h0 := h
  obtain ⟨pn, cd, N, kd, go, P, k, g1, g2, g3, g4, g5⟩ := h
  obtain ⟨k8, k1, k2, k3⟩ := g4
  have g4 : Rh σ σ k := ⟨k8, k1, k2, k3⟩
  -- the word is noted
  have note : k < 8 → (0 < k → p = 0 ∨ p = 1) → ∀ υ, f_Camp_note_17 p x σ = υ → gI υ 1705 = nI (k + 1) ∧ gI υ 3116 = nI k ∧ Inv (sI (sA (sA υ 40 (2 * k) p) 40 (2 * k + 1) x) 3116 (nI (k + 1))) j := by
    intro hk hp υ hυ
    unfold f_Camp_note_17 at hυ
    rw [k1, put_in hk (by decide)] at hυ
    have b1 : gI (sA σ 22 k p) 1705 = nI k := k1
    rw [b1, put_in hk (by decide)] at hυ
    have b2 : gI (sA (sA σ 22 k p) 23 k x) 1705 = nI k := k1
    rw [b2, nI_1] at hυ
    have f1 : Fr σ υ [1705] [22, 23] := by rw [← hυ]; exact Fr.sI (Fr.sA (Fr.sA Fr.rf (by decide)) (by decide)) (by decide)
    refine ⟨by rw [← hυ]; rfl, by rw [f1.1 3116 (by decide)]; exact k2, ?_⟩
    have f : Fr σ (sI (sA (sA υ 40 (2 * k) p) 40 (2 * k + 1) x) 3116 (nI (k + 1))) [1705, 3116] [22, 23, 40] := Fr.sI (Fr.sA (Fr.sA (f1.mono (by decide) (by decide)) (by decide)) (by decide)) (by decide)
    refine ⟨pn, cd, N, kd, go, P, k + 1, g1.fr f f (by decide), g2.fr f f (by decide), g3.fr f f (by decide), ⟨by omega, ?_, rfl, fun i hi => ?_⟩, g5.fr f f (by decide)⟩
    · show gI υ 1705 = _
      rw [← hυ]; rfl
    · rw [← hυ]
      simp only [gA_sA', gA_sI]
      by_cases q : i = k
      · subst q
        simp
        exact hp
      · obtain ⟨c1, c2, c3⟩ := k3 i (by omega)
        have n1 : ¬ 2 * i + 1 = 2 * k := by omega
        have n2 : ¬ 2 * i = 2 * k := by omega
        have n3 : ¬ 2 * i = 2 * k + 1 := by omega
        have n4 : ¬ 2 * i + 1 = 2 * k + 1 := by omega
        simp [q, n1, n3, c1, c2]
        exact ⟨fun z => absurd z n2, fun z => absurd z n2, c3⟩
  have z1 : (2 : Int32) * nI k + 1 = nI (2 * k + 1) := by rw [l_2, mul_nI, l_1, add_nI]
  have z0 : (2 : Int32) * nI k = nI (2 * k) := by rw [l_2, mul_nI]
  have e8 : k < 8 → ¬ nI k = (8 : Int32) := fun a z => absurd (nI_inj (a := k) (b := 8) (by omega) (by decide) z) (by omega)
  have put : ∀ υ : ST, k < 8 → gI υ 1705 = nI (k + 1) → gI υ 3116 = nI k → Inv (sI (sA (sA υ 40 (2 * k) p) 40 (2 * k + 1) x) 3116 (nI (k + 1))) j → Op (gI υ 1705) (if gI υ 3116 = (8 : Int32) then some ((-104 : Int32), υ) else (if inB ((2 : Int32) * (gI υ 3116)) 16 = true then (if inB (((2 : Int32) * (gI (sA υ 40 ((2 : Int32) * (gI υ 3116)).toNatClampNeg p) 3116)) + (1 : Int32)) 16 = true then some ((gI (sI (sA (sA υ 40 ((2 : Int32) * (gI υ 3116)).toNatClampNeg p) 40 (((2 : Int32) * (gI (sA υ 40 ((2 : Int32) * (gI υ 3116)).toNatClampNeg p) 3116)) + (1 : Int32)).toNatClampNeg x) 3116 ((gI (sA (sA υ 40 ((2 : Int32) * (gI υ 3116)).toNatClampNeg p) 40 (((2 : Int32) * (gI (sA υ 40 ((2 : Int32) * (gI υ 3116)).toNatClampNeg p) 3116)) + (1 : Int32)).toNatClampNeg x) 3116) + (1 : Int32))) 3116), (sI (sA (sA υ 40 ((2 : Int32) * (gI υ 3116)).toNatClampNeg p) 40 (((2 : Int32) * (gI (sA υ 40 ((2 : Int32) * (gI υ 3116)).toNatClampNeg p) 3116)) + (1 : Int32)).toNatClampNeg x) 3116 ((gI (sA (sA υ 40 ((2 : Int32) * (gI υ 3116)).toNatClampNeg p) 40 (((2 : Int32) * (gI (sA υ 40 ((2 : Int32) * (gI υ 3116)).toNatClampNeg p) 3116)) + (1 : Int32)).toNatClampNeg x) 3116) + (1 : Int32)))) else none) else none)) j := by
    intro υ hk n1 n2 n3
    simp only [gI_sA, gI_sI, if_pos]
    rw [n1, n2, if_neg (e8 hk), z1, z0, if_pos (inB_t (by omega) (by decide)), if_pos (inB_t (by omega) (by decide)), nI_clamp (by omega), nI_clamp (by omega), nI_1]
    exact ⟨_, rfl, n3⟩
  unfold f_LT_hear
  rw [k1]
  rcases Nat.eq_zero_or_pos k with q | q
  · subst q
    rw [if_pos (show nI 0 = 0 from rfl)]
    by_cases qp : p = -1
    · rw [if_pos qp]
      rcases snd_cases x with ⟨s, hs, e, s1, s2, s3⟩ | ⟨s1, s3⟩
      · rw [if_neg s1, if_pos s2, if_pos (show nI 0 < 8 by decide)]
        obtain ⟨n1, n2, n3⟩ := note (by decide) (fun z => absurd z (by decide)) _ rfl
        show Op (gI (f_Camp_note_17 p x σ) 1705) (f_M_hear p x (f_Camp_note_17 p x σ)) j
        generalize f_Camp_note_17 p x σ = υ at n1 n2 n3
        unfold f_M_hear
        rw [s3, if_neg n10, if_pos (show gI υ 3116 = 0 from n2), if_pos qp]
        exact put υ (by decide) n1 n2 n3
      · have : (if x < 0 then ((-102 : Int32), σ) else if x < 3 then (if nI 0 < 8 then (gI (f_Camp_note_17 p x σ) 1705, f_Camp_note_17 p x σ) else (-104, σ)) else (-102, σ)) = (-102, σ) := by
          rcases s1 with s1 | ⟨s1, s2⟩
          · rw [if_pos s1]
          · rw [if_neg s1, if_neg s2]
        rw [this]
        unfold f_M_hear
        show Op _ (if gI σ 3116 = 0 then _ else _) j
        rw [if_pos (show gI σ 3116 = 0 from k2), if_pos qp, s3, if_pos rfl]; exact ⟨σ, rfl, h0⟩
    · rw [if_neg qp]
      unfold f_M_hear
      show Op _ (if gI σ 3116 = 0 then _ else _) j
      rw [if_pos (show gI σ 3116 = 0 from k2), if_neg qp]; exact ⟨σ, rfl, h0⟩
  · have nz : ¬ nI k = 0 := nI_ne0 q (by omega)
    rw [if_neg nz]
    rcases way_cases p with ⟨w1, w2⟩ | ⟨w, hw, e, w1, w2⟩
    · rw [w1, if_pos rfl]
      unfold f_M_hear
      show Op _ (if gI σ 3116 = 0 then _ else _) j
      rw [k2, if_neg nz, w2, if_pos rfl]; exact ⟨σ, rfl, h0⟩
    · rw [w1, if_neg n10]
      rcases snd_cases x with ⟨s, hs, e3, s1, s2, s3⟩ | ⟨s1, s3⟩
      · rw [if_neg s1, if_pos s2]
        by_cases hk : k < 8
        · rw [if_pos (show nI k < 8 by rw [l_8]; exact nI_lt hk (by decide))]
          obtain ⟨n1, n2, n3⟩ := note hk (fun _ => by
            rcases (show w = 0 ∨ w = 1 by omega) with z | z
            · subst z; exact Or.inl e
            · subst z; exact Or.inr e) _ rfl
          show Op (gI (f_Camp_note_17 p x σ) 1705) (f_M_hear p x (f_Camp_note_17 p x σ)) j
          generalize f_Camp_note_17 p x σ = υ at n1 n2 n3
          unfold f_M_hear
          rw [s3, w2, if_neg n10, if_neg n10, if_neg (show ¬ gI υ 3116 = 0 by rw [n2]; exact nz)]
          exact put υ hk n1 n2 n3
        · have : k = 8 := by omega
          subst this
          rw [if_neg (show ¬ nI 8 < 8 by decide)]
          unfold f_M_hear
          show Op _ (if gI σ 3116 = 0 then _ else _) j
          rw [k2, if_neg nz, w2, if_neg n10, s3, if_neg n10, if_pos (show nI 8 = 8 from rfl)]; exact ⟨σ, rfl, h0⟩
      · have : (if x < 0 then ((-102 : Int32), σ) else if x < 3 then (if nI k < 8 then (gI (f_Camp_note_17 p x σ) 1705, f_Camp_note_17 p x σ) else (-104, σ)) else (-102, σ)) = (-102, σ) := by
          rcases s1 with s1 | ⟨s1, s2⟩
          · rw [if_pos s1]
          · rw [if_neg s1, if_neg s2]
        rw [this]
        unfold f_M_hear
        show Op _ (if gI σ 3116 = 0 then _ else _) j
        rw [k2, if_neg nz, w2, if_neg n10, s3, if_pos rfl]; exact ⟨σ, rfl, h0⟩
end STEP
