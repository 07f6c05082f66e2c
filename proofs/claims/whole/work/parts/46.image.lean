/-! IMAGE, RESTORE, COUNT -/
theorem RcG.cp {i1 b0 b1 b2 b3 i2 m j1 d0 d1 d2 d3 j2 m' : Nat} {σ φ : ST} {N P : Nat} (h : RcG i1 b0 b1 b2 b3 i2 m σ σ N P) (e1 : gI φ j1 = gI σ i1) (e2 : gI φ j2 = gI σ i2) (c0 : ∀ k, k < 3 → gA φ d0 k = gA σ b0 k) (c1 : ∀ k, k < 3 → gA φ d1 k = gA σ b1 k) (c2 : ∀ k, k < 3 → gA φ d2 k = gA σ b2 k) (c3 : ∀ k, k < 3 → gA φ d3 k = gA σ b3 k) (cm : ∀ k, k < 12 → gA φ m' k = gA σ m k) : RcG j1 d0 d1 d2 d3 j2 m' φ φ N P := by
  obtain ⟨h3, k1, k2, k3⟩ := h
  refine ⟨h3, by rw [e1, k1], by rw [e2, k2], fun p hp => ?_⟩
  rw [c0 p (by omega), c1 p (by omega), c2 p (by omega), c3 p (by omega), cm _ (by omega), cm _ (by omega), cm _ (by omega), cm _ (by omega)]
  exact k3 p hp
theorem RhG.cp {i1 b0 b1 i2 m j1 d0 d1 j2 m' : Nat} {σ φ : ST} {k : Nat} (h : RhG i1 b0 b1 i2 m σ σ k) (e1 : gI φ j1 = gI σ i1) (e2 : gI φ j2 = gI σ i2) (c0 : ∀ k, k < 8 → gA φ d0 k = gA σ b0 k) (c1 : ∀ k, k < 8 → gA φ d1 k = gA σ b1 k) (cm : ∀ k, k < 16 → gA φ m' k = gA σ m k) : RhG j1 d0 d1 j2 m' φ φ k := by
  obtain ⟨h3, k1, k2, k3⟩ := h
  refine ⟨h3, by rw [e1, k1], by rw [e2, k2], fun p hp => ?_⟩
  rw [c0 p (by omega), c1 p (by omega), cm _ (by omega), cm _ (by omega)]
  exact k3 p hp
section IMG
variable {σ : ST} {j : Nat}
theorem op_image (h : Inv σ j) : ∃ v σ1, f_LT_image σ = some (v, σ1) ∧ Op v (f_M_image σ1) j := by
  have h0 := h
  obtain ⟨pn, cd, N, kd, go, P, k, g1, g2, g3, g4, g5⟩ := h
  unfold f_LT_image
  rcases n0_cases g2 with ⟨h1, h2, h3⟩ | ⟨h1, h2, h3⟩
  · rw [h1, if_pos rfl]
    refine ⟨_, _, rfl, ?_⟩
    unfold f_M_image
    rw [h2, if_neg n10]; exact ⟨σ, rfl, h0⟩
  rw [h1, if_neg n10]
  obtain ⟨υ, u1, u2, u3, u4, w0, w1, w2, w3, w4, w5⟩ := cf_24_17 σ
  rw [u1]
  refine ⟨_, _, rfl, ?_⟩
  show Op (gI υ 2400) (f_M_image (sI υ 5 1)) j
  generalize hψ : sI υ 5 1 = ψ
  have fψ : Fr σ ψ [2400, 2405, 5] [25, 26, 27, 28, 29, 30] := by
    rw [← hψ]; exact Fr.sI (u2.mono (by decide) (by decide)) (by decide)
  have hl : f_M_lacks ψ = 0 := by
    unfold f_M_lacks at h2 ⊢
    rw [fψ.1 3106 (by decide)]; exact h2
  obtain ⟨χ, x1, x2, x3⟩ := cp_36_41 ψ
  obtain ⟨ω, y1, y2, y3⟩ := cp_40_42 χ
  unfold f_M_image
  rw [hl, if_pos rfl, x1, Option.bind_some, y1, Option.bind_some]
  have fω : Fr σ ω [2400, 2405, 5] [25, 26, 27, 28, 29, 30, 41, 42] := ((fψ.mono (by decide) (by decide)).tr (x2.mono (by decide) (by decide))).tr (y2.mono (by decide) (by decide))
  have e11 : gI ω 3111 = nI P := by rw [fω.1 3111 (by decide)]; exact g3.2.2.1
  have e16 : gI ω 3116 = gI σ 3116 := fω.1 3116 (by decide)
  have e08 : gI ω 3108 = gI σ 3108 := fω.1 3108 (by decide)
  have er : gI υ 2400 = gI ω 3111 := by rw [u3, e11]; exact g3.2.1
  rw [er]
  refine ⟨sI (sI (sI ω 3120 (gI ω 3111)) 3121 (gI ω 3116)) 3119 (gI ω 3108), rfl, ?_⟩
  generalize hφ : sI (sI (sI ω 3120 (gI ω 3111)) 3121 (gI ω 3116)) 3119 (gI ω 3108) = φ
  have f : Fr σ φ [2400, 2405, 5, 3120, 3121, 3119] [25, 26, 27, 28, 29, 30, 41, 42] := by
    rw [← hφ]; exact Fr.sI (Fr.sI (Fr.sI (fω.mono (by decide) (by decide)) (by decide)) (by decide)) (by decide)
  have fb : Fr υ φ [5, 3120, 3121, 3119] [41, 42] := by
    rw [← hφ]
    exact Fr.sI (Fr.sI (Fr.sI (((show Fr υ ψ [5, 3120, 3121, 3119] [41, 42] by rw [← hψ]; exact Fr.sI Fr.rf (by decide)).tr (x2.mono (by decide) (by decide))).tr (y2.mono (by decide) (by decide))) (by decide)) (by decide)) (by decide)
  refine ⟨pn, cd, N, kd, go, P, k, g1.fr f f (by decide), g2.fr f f (by decide), g3.fr f f (by decide), g4.fr f f (by decide), ?_⟩
  obtain ⟨m, m1, m2, m3, -⟩ := g5
  refine ⟨m, m1, by rw [f.1 6 (by decide)]; exact m2, by rw [f.1 3108 (by decide)]; exact m3, Or.inr ⟨?_, ?_, P, k, ?_, ?_⟩⟩
  · rw [← hφ]
    show gI ω 5 = 1
    rw [y2.1 5 (by decide), x2.1 5 (by decide), ← hψ]; rfl
  · rw [← hφ]
    show gI ω 3108 = nI m
    rw [e08, m3]
  · have m41 : ∀ k, k < 12 → gA φ 41 k = gA σ 36 k := fun k hk => by
      rw [← hφ]
      show gA ω 41 k = _
      rw [y2.2 41 (by decide), x3 k hk, fψ.2 36 (by decide)]
    refine RcG.cp g3 (by rw [fb.1 2400 (by decide)]; exact u3) ?_ (fun k hk => by rw [fb.2 25 (by decide)]; exact w0 k hk) (fun k hk => by rw [fb.2 26 (by decide)]; exact w1 k hk) (fun k hk => by rw [fb.2 27 (by decide)]; exact w2 k hk) (fun k hk => by rw [fb.2 28 (by decide)]; exact w3 k hk) m41
    rw [← hφ]
    show gI ω 3111 = _
    exact fω.1 3111 (by decide)
  · have m42 : ∀ k, k < 16 → gA φ 42 k = gA σ 40 k := fun k hk => by
      rw [← hφ]
      show gA ω 42 k = _
      rw [y3 k hk, x2.2 40 (by decide), fψ.2 40 (by decide)]
    refine RhG.cp (i1 := 1705) (b0 := 22) (b1 := 23) (i2 := 3116) (m := 40) g4 (by rw [fb.1 2405 (by decide)]; exact u4) ?_ (fun k hk => by rw [fb.2 29 (by decide)]; exact w4 k hk) (fun k hk => by rw [fb.2 30 (by decide)]; exact w5 k hk) m42
    rw [← hφ]
    show gI ω 3116 = _
    exact e16
theorem op_restore (hj : j < 2 ^ 30) (h : Inv σ j) : ∃ v σ1, f_LT_restore σ = some (v, σ1) ∧ Op v (f_M_restore σ1) j := by
  have h0 := h
  obtain ⟨pn, cd, N, kd, go, P, k, g1, g2, g3, g4, g5⟩ := h
  have g50 := g5
  obtain ⟨m, m1, m2, m3, m4⟩ := g5
  unfold f_LT_restore
  rcases m4 with ⟨a1, a2⟩ | ⟨a1, a2, P', k', a3, a4⟩
  · rw [a1, if_pos rfl]
    refine ⟨_, _, rfl, ?_⟩
    unfold f_M_restore
    have ne : ¬ gI σ 3119 = gI σ 3108 := by
      rw [m3]
      rcases a2 with e | ⟨q, hq, e⟩
      · rw [e]
        intro z
        exact nI_pos (n := m) (by omega) (by rw [← z]; decide)
      · rw [e]
        intro z
        have := nI_inj (by omega) (by omega) z
        omega
    rw [if_neg ne]; exact ⟨σ, rfl, h0⟩
  rw [a1, if_neg n10]
  obtain ⟨ψ, u1, fψ, u3, u4, w0, w1, w2, w3, w4, w5⟩ := cf_17_24 σ
  rw [u1]
  refine ⟨_, _, rfl, ?_⟩
  obtain ⟨χ, x1, x2, x3⟩ := cp_41_36 ψ
  obtain ⟨ω, y1, y2, y3⟩ := cp_42_40 χ
  have eq : gI ψ 3119 = gI ψ 3108 := by rw [fψ.1 3119 (by decide), fψ.1 3108 (by decide), a2, m3]
  unfold f_M_restore
  rw [if_pos eq, x1, Option.bind_some, y1, Option.bind_some]
  have fω : Fr σ ω [1700, 1705] [18, 19, 20, 21, 22, 23, 36, 40] := ((fψ.mono (by decide) (by decide)).tr (x2.mono (by decide) (by decide))).tr (y2.mono (by decide) (by decide))
  have e20 : gI ω 3120 = nI P' := by rw [fω.1 3120 (by decide)]; exact a3.2.2.1
  have e21 : gI ω 3121 = gI σ 3121 := fω.1 3121 (by decide)
  have er : gI ψ 1700 = gI ω 3120 := by rw [u3, e20]; exact a3.2.1
  show Op (gI ψ 1700) _ j
  rw [er]
  refine ⟨sI (sI ω 3111 (gI ω 3120)) 3116 (gI ω 3121), rfl, ?_⟩
  generalize hφ : sI (sI ω 3111 (gI ω 3120)) 3116 (gI ω 3121) = φ
  have f : Fr σ φ [1700, 1705, 3111, 3116] [18, 19, 20, 21, 22, 23, 36, 40] := by
    rw [← hφ]; exact Fr.sI (Fr.sI (fω.mono (by decide) (by decide)) (by decide)) (by decide)
  have fb : Fr ψ φ [3111, 3116] [36, 40] := by
    rw [← hφ]
    exact Fr.sI (Fr.sI ((x2.mono (by decide) (by decide)).tr (y2.mono (by decide) (by decide))) (by decide)) (by decide)
  refine ⟨pn, cd, N, kd, go, P', k', g1.fr f f (by decide), g2.fr f f (by decide), ?_, ?_, g50.fr f f (by decide)⟩
  · have m36 : ∀ k, k < 12 → gA φ 36 k = gA σ 41 k := fun k hk => by
      rw [← hφ]
      show gA ω 36 k = _
      rw [y2.2 36 (by decide), x3 k hk, fψ.2 41 (by decide)]
    refine RcG.cp a3 (by rw [fb.1 1700 (by decide)]; exact u3) ?_ (fun k hk => by rw [fb.2 18 (by decide)]; exact w0 k hk) (fun k hk => by rw [fb.2 19 (by decide)]; exact w1 k hk) (fun k hk => by rw [fb.2 20 (by decide)]; exact w2 k hk) (fun k hk => by rw [fb.2 21 (by decide)]; exact w3 k hk) m36
    rw [← hφ]
    show gI ω 3120 = _
    exact fω.1 3120 (by decide)
  · have m40 : ∀ k, k < 16 → gA φ 40 k = gA σ 42 k := fun k hk => by
      rw [← hφ]
      show gA ω 40 k = _
      rw [y3 k hk, x2.2 42 (by decide), fψ.2 42 (by decide)]
    have := RhG.cp (j1 := 1705) (d0 := 22) (d1 := 23) (j2 := 3116) (m' := 40) (φ := φ) a4 (by rw [fb.1 1705 (by decide)]; exact u4) (by rw [← hφ]; exact e21) (fun k hk => by rw [fb.2 22 (by decide)]; exact w4 k hk) (fun k hk => by rw [fb.2 23 (by decide)]; exact w5 k hk) m40
    exact this
end IMG
section COUNT
variable {σ τ : ST} {N P : Nat} {kd : Nat → Nat} {go : Nat → Nat → Nat}
theorem about1 (hc : Rc σ τ N P) {c : Nat} (h : c < P) : f_LT_about (nI c) 1 σ = cellF 3 19 (nI c) σ ∧ f_LT_about (nI c) 2 σ = cellF 3 20 (nI c) σ ∧ f_LT_about (nI c) 4 σ = if f_Camp_mayLook_17 (nI c) σ = 0 then 0 else 1 := by
  have h3 := hc.1
  have hh : f_Camp_has_17 (nI c) σ = 1 := by
    unfold f_Camp_has_17
    rw [hc.2.1, ite_in h (by omega)]
  unfold f_LT_about
  rw [hh, if_neg n10]
  exact ⟨rfl, rfl, rfl⟩
theorem sum19 (hc : Rc σ τ N P) : ∀ (n i : Nat) (v : Int32), P - i < n → i ≤ P → ∃ w, f_Camp_sumOfAll_17_19_L4 n v (nI i) σ = some w ∧ f_M_sumBy_L4 n 1 v (nI i) τ = some w := by
  have h3 := hc.1
  intro n
  induction n with
  | zero => intro i v h; omega
  | succ n ih =>
    intro i v hn hi
    rw [f_Camp_sumOfAll_17_19_L4, f_M_sumBy_L4, hc.2.1, hc.2.2.1]
    by_cases q : i < P
    · rw [if_neg (nI_ge q (by omega)), if_neg (nI_ge q (by omega)), tell_ok hc q, Option.bind_some, (about1 hc q).1, nI_1]
      exact ih _ _ (by omega) (by omega)
    · rw [if_pos (nI_le (by omega) (by omega)), if_pos (nI_le (by omega) (by omega))]
      exact ⟨v, rfl, rfl⟩
theorem sum20 (hc : Rc σ τ N P) : ∀ (n i : Nat) (v : Int32), P - i < n → i ≤ P → ∃ w, f_Camp_sumOfAll_17_20_L4 n v (nI i) σ = some w ∧ f_M_sumBy_L4 n 2 v (nI i) τ = some w := by
  have h3 := hc.1
  intro n
  induction n with
  | zero => intro i v h; omega
  | succ n ih =>
    intro i v hn hi
    rw [f_Camp_sumOfAll_17_20_L4, f_M_sumBy_L4, hc.2.1, hc.2.2.1]
    by_cases q : i < P
    · rw [if_neg (nI_ge q (by omega)), if_neg (nI_ge q (by omega)), tell_ok hc q, Option.bind_some, (about1 hc q).2.1, nI_1]
      exact ih _ _ (by omega) (by omega)
    · rw [if_pos (nI_le (by omega) (by omega)), if_pos (nI_le (by omega) (by omega))]
      exact ⟨v, rfl, rfl⟩
theorem sumL (hc : Rc σ τ N P) : ∀ (n i : Nat) (v : Int32), P - i < n → i ≤ P → ∃ w, f_Camp_thoseWhoMayLook_17_L4 n v (nI i) σ = some w ∧ f_M_sumBy_L4 n 4 v (nI i) τ = some w := by
  have h3 := hc.1
  intro n
  induction n with
  | zero => intro i v h; omega
  | succ n ih =>
    intro i v hn hi
    rw [f_Camp_thoseWhoMayLook_17_L4, f_M_sumBy_L4, hc.2.1, hc.2.2.1]
    by_cases q : i < P
    · rw [if_neg (nI_ge q (by omega)), if_neg (nI_ge q (by omega)), tell_ok hc q, Option.bind_some, (about1 hc q).2.2, nI_1]
      by_cases z : f_Camp_mayLook_17 (nI i) σ = 0
      · rw [if_pos z, if_pos z, Int32.add_zero]
        exact ih _ _ (by omega) (by omega)
      · rw [if_neg z, if_neg z]
        exact ih _ _ (by omega) (by omega)
    · rw [if_pos (nI_le (by omega) (by omega)), if_pos (nI_le (by omega) (by omega))]
      exact ⟨v, rfl, rfl⟩
theorem eq_count {pn j k : Nat} {cd : Nat → Nat} (h1 : Rp σ τ pn cd) (h2 : Rm σ τ N kd go) (h3 : Rc σ τ N P) (h4 : Rh σ τ k) (h5 : Rk σ τ N j) (x : Int32) : ∃ v, f_LT_count x σ = some v ∧ f_M_countOf x τ = some v := by
  have hp := h3.1
  unfold f_LT_count f_M_countOf
  by_cases q0 : x = 0
  · rw [if_pos q0, if_pos q0, h2.2.1.2.1, h2.2.2.1.2.1]; exact ⟨_, rfl, rfl⟩
  rw [if_neg q0, if_neg q0]
  by_cases q1 : x = 1
  · rw [if_pos q1, if_pos q1, h2.2.2.2]; exact ⟨_, rfl, rfl⟩
  rw [if_neg q1, if_neg q1]
  by_cases q2 : x = 2
  · rw [if_pos q2, if_pos q2, h3.2.1, h3.2.2.1]; exact ⟨_, rfl, rfl⟩
  rw [if_neg q2, if_neg q2]
  by_cases q3 : x = 3
  · obtain ⟨w, w1, w2⟩ := sum19 h3 400 0 0 (by omega) (by omega)
    have w1' : f_Camp_sumOfAll_17_19_L4 400 0 0 σ = some w := w1
    have w2' : f_M_sumBy_L4 400 1 0 0 τ = some w := w2
    unfold f_Camp_sumOfAll_17_19 f_M_sumBy
    rw [if_pos q3, if_pos q3, w1', w2']; exact ⟨_, rfl, rfl⟩
  rw [if_neg q3, if_neg q3]
  by_cases q4 : x = 4
  · obtain ⟨w, w1, w2⟩ := sum20 h3 400 0 0 (by omega) (by omega)
    have w1' : f_Camp_sumOfAll_17_20_L4 400 0 0 σ = some w := w1
    have w2' : f_M_sumBy_L4 400 2 0 0 τ = some w := w2
    unfold f_Camp_sumOfAll_17_20 f_M_sumBy
    rw [if_pos q4, if_pos q4, w1', w2']; exact ⟨_, rfl, rfl⟩
  rw [if_neg q4, if_neg q4]
  by_cases q5 : x = 5
  · obtain ⟨w, w1, w2⟩ := sumL h3 400 0 0 (by omega) (by omega)
    have w1' : f_Camp_thoseWhoMayLook_17_L4 400 0 0 σ = some w := w1
    have w2' : f_M_sumBy_L4 400 4 0 0 τ = some w := w2
    unfold f_Camp_thoseWhoMayLook_17 f_M_sumBy
    rw [if_pos q5, if_pos q5, w1', w2']; exact ⟨_, rfl, rfl⟩
  rw [if_neg q5, if_neg q5]
  by_cases q6 : x = 6
  · rw [if_pos q6, if_pos q6, h4.2.1, h4.2.2.1]; exact ⟨_, rfl, rfl⟩
  rw [if_neg q6, if_neg q6]
  by_cases q7 : x = 7
  · rw [if_pos q7, if_pos q7, h1.2.1, h1.2.2.1]; exact ⟨_, rfl, rfl⟩
  rw [if_neg q7, if_neg q7]
  by_cases q8 : x = 8
  · obtain ⟨m, m1, m2, m3, -⟩ := h5
    rw [if_pos q8, if_pos q8, m2, m3]; exact ⟨_, rfl, rfl⟩
  rw [if_neg q8, if_neg q8]; exact ⟨_, rfl, rfl⟩
end COUNT
