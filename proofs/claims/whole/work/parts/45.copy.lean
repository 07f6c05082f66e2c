/-! IMAGE, RESTORE, COUNT -/
theorem cpl_18_25 : ∀ (n i : Nat) (σ : ST), 3 - i < n → i ≤ 3 → ∃ υ, f_Camp_copyRow_18_25_L2 n (nI i) σ = some υ ∧ Fr σ υ [] [25] ∧ (∀ k, i ≤ k → k < 3 → gA υ 25 k = gA σ 18 k) ∧ ∀ k, k < i → gA υ 25 k = gA σ 25 k := by
  intro n
  induction n with
  | zero => intro i σ h; omega
  | succ n ih =>
    intro i σ hn hi
    rw [f_Camp_copyRow_18_25_L2, l_3]
    by_cases q : i < 3
    · rw [if_neg (nI_ge q (by decide)), cell_in q (by decide), put_in q (by decide), nI_1]
      obtain ⟨υ, h1, h2, h3, h4⟩ := ih (i + 1) (sA σ 25 i (gA σ 18 i)) (by omega) (by omega)
      refine ⟨υ, h1, (Fr.sA Fr.rf (by decide)).tr h2, fun k hk hk2 => ?_, fun k hk => ?_⟩
      · by_cases z : k = i
        · rw [z, h4 i (by omega), gA_sA', if_pos ⟨rfl, rfl⟩]
        · rw [h3 k (by omega) hk2, gA_sA', if_neg (by omega)]
      · rw [h4 k (by omega), gA_sA', if_neg (by omega)]
    · rw [if_pos (nI_le (by omega) (by omega))]
      exact ⟨σ, rfl, Fr.rf, fun k hk hk2 => absurd hk2 (by omega), fun _ _ => rfl⟩
theorem cp_18_25 (σ : ST) : ∃ υ, f_Camp_copyRow_18_25 σ = some υ ∧ Fr σ υ [] [25] ∧ ∀ k, k < 3 → gA υ 25 k = gA σ 18 k := by
  obtain ⟨υ, h1, h2, h3, -⟩ := cpl_18_25 400 0 σ (by decide) (by decide)
  have h1' : f_Camp_copyRow_18_25_L2 400 0 σ = some υ := h1
  refine ⟨υ, ?_, h2, fun k hk => h3 k (by omega) hk⟩
  unfold f_Camp_copyRow_18_25
  rw [h1']; rfl
theorem cpl_25_18 : ∀ (n i : Nat) (σ : ST), 3 - i < n → i ≤ 3 → ∃ υ, f_Camp_copyRow_25_18_L2 n (nI i) σ = some υ ∧ Fr σ υ [] [18] ∧ (∀ k, i ≤ k → k < 3 → gA υ 18 k = gA σ 25 k) ∧ ∀ k, k < i → gA υ 18 k = gA σ 18 k := by
  intro n
  induction n with
  | zero => intro i σ h; omega
  | succ n ih =>
    intro i σ hn hi
    rw [f_Camp_copyRow_25_18_L2, l_3]
    by_cases q : i < 3
    · rw [if_neg (nI_ge q (by decide)), cell_in q (by decide), put_in q (by decide), nI_1]
      obtain ⟨υ, h1, h2, h3, h4⟩ := ih (i + 1) (sA σ 18 i (gA σ 25 i)) (by omega) (by omega)
      refine ⟨υ, h1, (Fr.sA Fr.rf (by decide)).tr h2, fun k hk hk2 => ?_, fun k hk => ?_⟩
      · by_cases z : k = i
        · rw [z, h4 i (by omega), gA_sA', if_pos ⟨rfl, rfl⟩]
        · rw [h3 k (by omega) hk2, gA_sA', if_neg (by omega)]
      · rw [h4 k (by omega), gA_sA', if_neg (by omega)]
    · rw [if_pos (nI_le (by omega) (by omega))]
      exact ⟨σ, rfl, Fr.rf, fun k hk hk2 => absurd hk2 (by omega), fun _ _ => rfl⟩
theorem cp_25_18 (σ : ST) : ∃ υ, f_Camp_copyRow_25_18 σ = some υ ∧ Fr σ υ [] [18] ∧ ∀ k, k < 3 → gA υ 18 k = gA σ 25 k := by
  obtain ⟨υ, h1, h2, h3, -⟩ := cpl_25_18 400 0 σ (by decide) (by decide)
  have h1' : f_Camp_copyRow_25_18_L2 400 0 σ = some υ := h1
  refine ⟨υ, ?_, h2, fun k hk => h3 k (by omega) hk⟩
  unfold f_Camp_copyRow_25_18
  rw [h1']; rfl
theorem cpl_19_26 : ∀ (n i : Nat) (σ : ST), 3 - i < n → i ≤ 3 → ∃ υ, f_Camp_copyRow_19_26_L2 n (nI i) σ = some υ ∧ Fr σ υ [] [26] ∧ (∀ k, i ≤ k → k < 3 → gA υ 26 k = gA σ 19 k) ∧ ∀ k, k < i → gA υ 26 k = gA σ 26 k := by
  intro n
  induction n with
  | zero => intro i σ h; omega
  | succ n ih =>
    intro i σ hn hi
    rw [f_Camp_copyRow_19_26_L2, l_3]
    by_cases q : i < 3
    · rw [if_neg (nI_ge q (by decide)), cell_in q (by decide), put_in q (by decide), nI_1]
      obtain ⟨υ, h1, h2, h3, h4⟩ := ih (i + 1) (sA σ 26 i (gA σ 19 i)) (by omega) (by omega)
      refine ⟨υ, h1, (Fr.sA Fr.rf (by decide)).tr h2, fun k hk hk2 => ?_, fun k hk => ?_⟩
      · by_cases z : k = i
        · rw [z, h4 i (by omega), gA_sA', if_pos ⟨rfl, rfl⟩]
        · rw [h3 k (by omega) hk2, gA_sA', if_neg (by omega)]
      · rw [h4 k (by omega), gA_sA', if_neg (by omega)]
    · rw [if_pos (nI_le (by omega) (by omega))]
      exact ⟨σ, rfl, Fr.rf, fun k hk hk2 => absurd hk2 (by omega), fun _ _ => rfl⟩
theorem cp_19_26 (σ : ST) : ∃ υ, f_Camp_copyRow_19_26 σ = some υ ∧ Fr σ υ [] [26] ∧ ∀ k, k < 3 → gA υ 26 k = gA σ 19 k := by
  obtain ⟨υ, h1, h2, h3, -⟩ := cpl_19_26 400 0 σ (by decide) (by decide)
  have h1' : f_Camp_copyRow_19_26_L2 400 0 σ = some υ := h1
  refine ⟨υ, ?_, h2, fun k hk => h3 k (by omega) hk⟩
  unfold f_Camp_copyRow_19_26
  rw [h1']; rfl
theorem cpl_26_19 : ∀ (n i : Nat) (σ : ST), 3 - i < n → i ≤ 3 → ∃ υ, f_Camp_copyRow_26_19_L2 n (nI i) σ = some υ ∧ Fr σ υ [] [19] ∧ (∀ k, i ≤ k → k < 3 → gA υ 19 k = gA σ 26 k) ∧ ∀ k, k < i → gA υ 19 k = gA σ 19 k := by
  intro n
  induction n with
  | zero => intro i σ h; omega
  | succ n ih =>
    intro i σ hn hi
    rw [f_Camp_copyRow_26_19_L2, l_3]
    by_cases q : i < 3
    · rw [if_neg (nI_ge q (by decide)), cell_in q (by decide), put_in q (by decide), nI_1]
      obtain ⟨υ, h1, h2, h3, h4⟩ := ih (i + 1) (sA σ 19 i (gA σ 26 i)) (by omega) (by omega)
      refine ⟨υ, h1, (Fr.sA Fr.rf (by decide)).tr h2, fun k hk hk2 => ?_, fun k hk => ?_⟩
      · by_cases z : k = i
        · rw [z, h4 i (by omega), gA_sA', if_pos ⟨rfl, rfl⟩]
        · rw [h3 k (by omega) hk2, gA_sA', if_neg (by omega)]
      · rw [h4 k (by omega), gA_sA', if_neg (by omega)]
    · rw [if_pos (nI_le (by omega) (by omega))]
      exact ⟨σ, rfl, Fr.rf, fun k hk hk2 => absurd hk2 (by omega), fun _ _ => rfl⟩
theorem cp_26_19 (σ : ST) : ∃ υ, f_Camp_copyRow_26_19 σ = some υ ∧ Fr σ υ [] [19] ∧ ∀ k, k < 3 → gA υ 19 k = gA σ 26 k := by
  obtain ⟨υ, h1, h2, h3, -⟩ := cpl_26_19 400 0 σ (by decide) (by decide)
  have h1' : f_Camp_copyRow_26_19_L2 400 0 σ = some υ := h1
  refine ⟨υ, ?_, h2, fun k hk => h3 k (by omega) hk⟩
  unfold f_Camp_copyRow_26_19
  rw [h1']; rfl
theorem cpl_20_27 : ∀ (n i : Nat) (σ : ST), 3 - i < n → i ≤ 3 → ∃ υ, f_Camp_copyRow_20_27_L2 n (nI i) σ = some υ ∧ Fr σ υ [] [27] ∧ (∀ k, i ≤ k → k < 3 → gA υ 27 k = gA σ 20 k) ∧ ∀ k, k < i → gA υ 27 k = gA σ 27 k := by
  intro n
  induction n with
  | zero => intro i σ h; omega
  | succ n ih =>
    intro i σ hn hi
    rw [f_Camp_copyRow_20_27_L2, l_3]
    by_cases q : i < 3
    · rw [if_neg (nI_ge q (by decide)), cell_in q (by decide), put_in q (by decide), nI_1]
      obtain ⟨υ, h1, h2, h3, h4⟩ := ih (i + 1) (sA σ 27 i (gA σ 20 i)) (by omega) (by omega)
      refine ⟨υ, h1, (Fr.sA Fr.rf (by decide)).tr h2, fun k hk hk2 => ?_, fun k hk => ?_⟩
      · by_cases z : k = i
        · rw [z, h4 i (by omega), gA_sA', if_pos ⟨rfl, rfl⟩]
        · rw [h3 k (by omega) hk2, gA_sA', if_neg (by omega)]
      · rw [h4 k (by omega), gA_sA', if_neg (by omega)]
    · rw [if_pos (nI_le (by omega) (by omega))]
      exact ⟨σ, rfl, Fr.rf, fun k hk hk2 => absurd hk2 (by omega), fun _ _ => rfl⟩
theorem cp_20_27 (σ : ST) : ∃ υ, f_Camp_copyRow_20_27 σ = some υ ∧ Fr σ υ [] [27] ∧ ∀ k, k < 3 → gA υ 27 k = gA σ 20 k := by
  obtain ⟨υ, h1, h2, h3, -⟩ := cpl_20_27 400 0 σ (by decide) (by decide)
  have h1' : f_Camp_copyRow_20_27_L2 400 0 σ = some υ := h1
  refine ⟨υ, ?_, h2, fun k hk => h3 k (by omega) hk⟩
  unfold f_Camp_copyRow_20_27
  rw [h1']; rfl
theorem cpl_27_20 : ∀ (n i : Nat) (σ : ST), 3 - i < n → i ≤ 3 → ∃ υ, f_Camp_copyRow_27_20_L2 n (nI i) σ = some υ ∧ Fr σ υ [] [20] ∧ (∀ k, i ≤ k → k < 3 → gA υ 20 k = gA σ 27 k) ∧ ∀ k, k < i → gA υ 20 k = gA σ 20 k := by
  intro n
  induction n with
  | zero => intro i σ h; omega
  | succ n ih =>
    intro i σ hn hi
    rw [f_Camp_copyRow_27_20_L2, l_3]
    by_cases q : i < 3
    · rw [if_neg (nI_ge q (by decide)), cell_in q (by decide), put_in q (by decide), nI_1]
      obtain ⟨υ, h1, h2, h3, h4⟩ := ih (i + 1) (sA σ 20 i (gA σ 27 i)) (by omega) (by omega)
      refine ⟨υ, h1, (Fr.sA Fr.rf (by decide)).tr h2, fun k hk hk2 => ?_, fun k hk => ?_⟩
      · by_cases z : k = i
        · rw [z, h4 i (by omega), gA_sA', if_pos ⟨rfl, rfl⟩]
        · rw [h3 k (by omega) hk2, gA_sA', if_neg (by omega)]
      · rw [h4 k (by omega), gA_sA', if_neg (by omega)]
    · rw [if_pos (nI_le (by omega) (by omega))]
      exact ⟨σ, rfl, Fr.rf, fun k hk hk2 => absurd hk2 (by omega), fun _ _ => rfl⟩
theorem cp_27_20 (σ : ST) : ∃ υ, f_Camp_copyRow_27_20 σ = some υ ∧ Fr σ υ [] [20] ∧ ∀ k, k < 3 → gA υ 20 k = gA σ 27 k := by
  obtain ⟨υ, h1, h2, h3, -⟩ := cpl_27_20 400 0 σ (by decide) (by decide)
  have h1' : f_Camp_copyRow_27_20_L2 400 0 σ = some υ := h1
  refine ⟨υ, ?_, h2, fun k hk => h3 k (by omega) hk⟩
  unfold f_Camp_copyRow_27_20
  rw [h1']; rfl
theorem cpl_21_28 : ∀ (n i : Nat) (σ : ST), 3 - i < n → i ≤ 3 → ∃ υ, f_Camp_copyRow_21_28_L2 n (nI i) σ = some υ ∧ Fr σ υ [] [28] ∧ (∀ k, i ≤ k → k < 3 → gA υ 28 k = gA σ 21 k) ∧ ∀ k, k < i → gA υ 28 k = gA σ 28 k := by
  intro n
  induction n with
  | zero => intro i σ h; omega
  | succ n ih =>
    intro i σ hn hi
    rw [f_Camp_copyRow_21_28_L2, l_3]
    by_cases q : i < 3
    · rw [if_neg (nI_ge q (by decide)), cell_in q (by decide), put_in q (by decide), nI_1]
      obtain ⟨υ, h1, h2, h3, h4⟩ := ih (i + 1) (sA σ 28 i (gA σ 21 i)) (by omega) (by omega)
      refine ⟨υ, h1, (Fr.sA Fr.rf (by decide)).tr h2, fun k hk hk2 => ?_, fun k hk => ?_⟩
      · by_cases z : k = i
        · rw [z, h4 i (by omega), gA_sA', if_pos ⟨rfl, rfl⟩]
        · rw [h3 k (by omega) hk2, gA_sA', if_neg (by omega)]
      · rw [h4 k (by omega), gA_sA', if_neg (by omega)]
    · rw [if_pos (nI_le (by omega) (by omega))]
      exact ⟨σ, rfl, Fr.rf, fun k hk hk2 => absurd hk2 (by omega), fun _ _ => rfl⟩
theorem cp_21_28 (σ : ST) : ∃ υ, f_Camp_copyRow_21_28 σ = some υ ∧ Fr σ υ [] [28] ∧ ∀ k, k < 3 → gA υ 28 k = gA σ 21 k := by
  obtain ⟨υ, h1, h2, h3, -⟩ := cpl_21_28 400 0 σ (by decide) (by decide)
  have h1' : f_Camp_copyRow_21_28_L2 400 0 σ = some υ := h1
  refine ⟨υ, ?_, h2, fun k hk => h3 k (by omega) hk⟩
  unfold f_Camp_copyRow_21_28
  rw [h1']; rfl
theorem cpl_28_21 : ∀ (n i : Nat) (σ : ST), 3 - i < n → i ≤ 3 → ∃ υ, f_Camp_copyRow_28_21_L2 n (nI i) σ = some υ ∧ Fr σ υ [] [21] ∧ (∀ k, i ≤ k → k < 3 → gA υ 21 k = gA σ 28 k) ∧ ∀ k, k < i → gA υ 21 k = gA σ 21 k := by
  intro n
  induction n with
  | zero => intro i σ h; omega
  | succ n ih =>
    intro i σ hn hi
    rw [f_Camp_copyRow_28_21_L2, l_3]
    by_cases q : i < 3
    · rw [if_neg (nI_ge q (by decide)), cell_in q (by decide), put_in q (by decide), nI_1]
      obtain ⟨υ, h1, h2, h3, h4⟩ := ih (i + 1) (sA σ 21 i (gA σ 28 i)) (by omega) (by omega)
      refine ⟨υ, h1, (Fr.sA Fr.rf (by decide)).tr h2, fun k hk hk2 => ?_, fun k hk => ?_⟩
      · by_cases z : k = i
        · rw [z, h4 i (by omega), gA_sA', if_pos ⟨rfl, rfl⟩]
        · rw [h3 k (by omega) hk2, gA_sA', if_neg (by omega)]
      · rw [h4 k (by omega), gA_sA', if_neg (by omega)]
    · rw [if_pos (nI_le (by omega) (by omega))]
      exact ⟨σ, rfl, Fr.rf, fun k hk hk2 => absurd hk2 (by omega), fun _ _ => rfl⟩
theorem cp_28_21 (σ : ST) : ∃ υ, f_Camp_copyRow_28_21 σ = some υ ∧ Fr σ υ [] [21] ∧ ∀ k, k < 3 → gA υ 21 k = gA σ 28 k := by
  obtain ⟨υ, h1, h2, h3, -⟩ := cpl_28_21 400 0 σ (by decide) (by decide)
  have h1' : f_Camp_copyRow_28_21_L2 400 0 σ = some υ := h1
  refine ⟨υ, ?_, h2, fun k hk => h3 k (by omega) hk⟩
  unfold f_Camp_copyRow_28_21
  rw [h1']; rfl
theorem cpl_22_29 : ∀ (n i : Nat) (σ : ST), 8 - i < n → i ≤ 8 → ∃ υ, f_Camp_copyRow_22_29_L2 n (nI i) σ = some υ ∧ Fr σ υ [] [29] ∧ (∀ k, i ≤ k → k < 8 → gA υ 29 k = gA σ 22 k) ∧ ∀ k, k < i → gA υ 29 k = gA σ 29 k := by
  intro n
  induction n with
  | zero => intro i σ h; omega
  | succ n ih =>
    intro i σ hn hi
    rw [f_Camp_copyRow_22_29_L2, l_8]
    by_cases q : i < 8
    · rw [if_neg (nI_ge q (by decide)), cell_in q (by decide), put_in q (by decide), nI_1]
      obtain ⟨υ, h1, h2, h3, h4⟩ := ih (i + 1) (sA σ 29 i (gA σ 22 i)) (by omega) (by omega)
      refine ⟨υ, h1, (Fr.sA Fr.rf (by decide)).tr h2, fun k hk hk2 => ?_, fun k hk => ?_⟩
      · by_cases z : k = i
        · rw [z, h4 i (by omega), gA_sA', if_pos ⟨rfl, rfl⟩]
        · rw [h3 k (by omega) hk2, gA_sA', if_neg (by omega)]
      · rw [h4 k (by omega), gA_sA', if_neg (by omega)]
    · rw [if_pos (nI_le (by omega) (by omega))]
      exact ⟨σ, rfl, Fr.rf, fun k hk hk2 => absurd hk2 (by omega), fun _ _ => rfl⟩
theorem cp_22_29 (σ : ST) : ∃ υ, f_Camp_copyRow_22_29 σ = some υ ∧ Fr σ υ [] [29] ∧ ∀ k, k < 8 → gA υ 29 k = gA σ 22 k := by
  obtain ⟨υ, h1, h2, h3, -⟩ := cpl_22_29 400 0 σ (by decide) (by decide)
  have h1' : f_Camp_copyRow_22_29_L2 400 0 σ = some υ := h1
  refine ⟨υ, ?_, h2, fun k hk => h3 k (by omega) hk⟩
  unfold f_Camp_copyRow_22_29
  rw [h1']; rfl
theorem cpl_29_22 : ∀ (n i : Nat) (σ : ST), 8 - i < n → i ≤ 8 → ∃ υ, f_Camp_copyRow_29_22_L2 n (nI i) σ = some υ ∧ Fr σ υ [] [22] ∧ (∀ k, i ≤ k → k < 8 → gA υ 22 k = gA σ 29 k) ∧ ∀ k, k < i → gA υ 22 k = gA σ 22 k := by
  intro n
  induction n with
  | zero => intro i σ h; omega
  | succ n ih =>
    intro i σ hn hi
    rw [f_Camp_copyRow_29_22_L2, l_8]
    by_cases q : i < 8
    · rw [if_neg (nI_ge q (by decide)), cell_in q (by decide), put_in q (by decide), nI_1]
      obtain ⟨υ, h1, h2, h3, h4⟩ := ih (i + 1) (sA σ 22 i (gA σ 29 i)) (by omega) (by omega)
      refine ⟨υ, h1, (Fr.sA Fr.rf (by decide)).tr h2, fun k hk hk2 => ?_, fun k hk => ?_⟩
      · by_cases z : k = i
        · rw [z, h4 i (by omega), gA_sA', if_pos ⟨rfl, rfl⟩]
        · rw [h3 k (by omega) hk2, gA_sA', if_neg (by omega)]
      · rw [h4 k (by omega), gA_sA', if_neg (by omega)]
    · rw [if_pos (nI_le (by omega) (by omega))]
      exact ⟨σ, rfl, Fr.rf, fun k hk hk2 => absurd hk2 (by omega), fun _ _ => rfl⟩
theorem cp_29_22 (σ : ST) : ∃ υ, f_Camp_copyRow_29_22 σ = some υ ∧ Fr σ υ [] [22] ∧ ∀ k, k < 8 → gA υ 22 k = gA σ 29 k := by
  obtain ⟨υ, h1, h2, h3, -⟩ := cpl_29_22 400 0 σ (by decide) (by decide)
  have h1' : f_Camp_copyRow_29_22_L2 400 0 σ = some υ := h1
  refine ⟨υ, ?_, h2, fun k hk => h3 k (by omega) hk⟩
  unfold f_Camp_copyRow_29_22
  rw [h1']; rfl
theorem cpl_23_30 : ∀ (n i : Nat) (σ : ST), 8 - i < n → i ≤ 8 → ∃ υ, f_Camp_copyRow_23_30_L2 n (nI i) σ = some υ ∧ Fr σ υ [] [30] ∧ (∀ k, i ≤ k → k < 8 → gA υ 30 k = gA σ 23 k) ∧ ∀ k, k < i → gA υ 30 k = gA σ 30 k := by
  intro n
  induction n with
  | zero => intro i σ h; omega
  | succ n ih =>
    intro i σ hn hi
    rw [f_Camp_copyRow_23_30_L2, l_8]
    by_cases q : i < 8
    · rw [if_neg (nI_ge q (by decide)), cell_in q (by decide), put_in q (by decide), nI_1]
      obtain ⟨υ, h1, h2, h3, h4⟩ := ih (i + 1) (sA σ 30 i (gA σ 23 i)) (by omega) (by omega)
      refine ⟨υ, h1, (Fr.sA Fr.rf (by decide)).tr h2, fun k hk hk2 => ?_, fun k hk => ?_⟩
      · by_cases z : k = i
        · rw [z, h4 i (by omega), gA_sA', if_pos ⟨rfl, rfl⟩]
        · rw [h3 k (by omega) hk2, gA_sA', if_neg (by omega)]
      · rw [h4 k (by omega), gA_sA', if_neg (by omega)]
    · rw [if_pos (nI_le (by omega) (by omega))]
      exact ⟨σ, rfl, Fr.rf, fun k hk hk2 => absurd hk2 (by omega), fun _ _ => rfl⟩
theorem cp_23_30 (σ : ST) : ∃ υ, f_Camp_copyRow_23_30 σ = some υ ∧ Fr σ υ [] [30] ∧ ∀ k, k < 8 → gA υ 30 k = gA σ 23 k := by
  obtain ⟨υ, h1, h2, h3, -⟩ := cpl_23_30 400 0 σ (by decide) (by decide)
  have h1' : f_Camp_copyRow_23_30_L2 400 0 σ = some υ := h1
  refine ⟨υ, ?_, h2, fun k hk => h3 k (by omega) hk⟩
  unfold f_Camp_copyRow_23_30
  rw [h1']; rfl
theorem cpl_30_23 : ∀ (n i : Nat) (σ : ST), 8 - i < n → i ≤ 8 → ∃ υ, f_Camp_copyRow_30_23_L2 n (nI i) σ = some υ ∧ Fr σ υ [] [23] ∧ (∀ k, i ≤ k → k < 8 → gA υ 23 k = gA σ 30 k) ∧ ∀ k, k < i → gA υ 23 k = gA σ 23 k := by
  intro n
  induction n with
  | zero => intro i σ h; omega
  | succ n ih =>
    intro i σ hn hi
    rw [f_Camp_copyRow_30_23_L2, l_8]
    by_cases q : i < 8
    · rw [if_neg (nI_ge q (by decide)), cell_in q (by decide), put_in q (by decide), nI_1]
      obtain ⟨υ, h1, h2, h3, h4⟩ := ih (i + 1) (sA σ 23 i (gA σ 30 i)) (by omega) (by omega)
      refine ⟨υ, h1, (Fr.sA Fr.rf (by decide)).tr h2, fun k hk hk2 => ?_, fun k hk => ?_⟩
      · by_cases z : k = i
        · rw [z, h4 i (by omega), gA_sA', if_pos ⟨rfl, rfl⟩]
        · rw [h3 k (by omega) hk2, gA_sA', if_neg (by omega)]
      · rw [h4 k (by omega), gA_sA', if_neg (by omega)]
    · rw [if_pos (nI_le (by omega) (by omega))]
      exact ⟨σ, rfl, Fr.rf, fun k hk hk2 => absurd hk2 (by omega), fun _ _ => rfl⟩
theorem cp_30_23 (σ : ST) : ∃ υ, f_Camp_copyRow_30_23 σ = some υ ∧ Fr σ υ [] [23] ∧ ∀ k, k < 8 → gA υ 23 k = gA σ 30 k := by
  obtain ⟨υ, h1, h2, h3, -⟩ := cpl_30_23 400 0 σ (by decide) (by decide)
  have h1' : f_Camp_copyRow_30_23_L2 400 0 σ = some υ := h1
  refine ⟨υ, ?_, h2, fun k hk => h3 k (by omega) hk⟩
  unfold f_Camp_copyRow_30_23
  rw [h1']; rfl
theorem cpl_36_41 : ∀ (n i : Nat) (σ : ST), 12 - i < n → i ≤ 12 → ∃ υ, f_M_copy_36_41_L2 n (nI i) σ = some υ ∧ Fr σ υ [] [41] ∧ (∀ k, i ≤ k → k < 12 → gA υ 41 k = gA σ 36 k) ∧ ∀ k, k < i → gA υ 41 k = gA σ 41 k := by
  intro n
  induction n with
  | zero => intro i σ h; omega
  | succ n ih =>
    intro i σ hn hi
    rw [f_M_copy_36_41_L2, l_12]
    by_cases q : i < 12
    · rw [if_neg (nI_ge q (by decide)), if_pos (inB_t q (by decide)), if_pos (inB_t q (by decide)), nI_clamp (by omega), nI_1]
      obtain ⟨υ, h1, h2, h3, h4⟩ := ih (i + 1) (sA σ 41 i (gA σ 36 i)) (by omega) (by omega)
      refine ⟨υ, h1, (Fr.sA Fr.rf (by decide)).tr h2, fun k hk hk2 => ?_, fun k hk => ?_⟩
      · by_cases z : k = i
        · rw [z, h4 i (by omega), gA_sA', if_pos ⟨rfl, rfl⟩]
        · rw [h3 k (by omega) hk2, gA_sA', if_neg (by omega)]
      · rw [h4 k (by omega), gA_sA', if_neg (by omega)]
    · rw [if_pos (nI_le (by omega) (by omega))]
      exact ⟨σ, rfl, Fr.rf, fun k hk hk2 => absurd hk2 (by omega), fun _ _ => rfl⟩
theorem cp_36_41 (σ : ST) : ∃ υ, f_M_copy_36_41 σ = some υ ∧ Fr σ υ [] [41] ∧ ∀ k, k < 12 → gA υ 41 k = gA σ 36 k := by
  obtain ⟨υ, h1, h2, h3, -⟩ := cpl_36_41 400 0 σ (by decide) (by decide)
  have h1' : f_M_copy_36_41_L2 400 0 σ = some υ := h1
  refine ⟨υ, ?_, h2, fun k hk => h3 k (by omega) hk⟩
  unfold f_M_copy_36_41
  rw [h1']; rfl
theorem cpl_41_36 : ∀ (n i : Nat) (σ : ST), 12 - i < n → i ≤ 12 → ∃ υ, f_M_copy_41_36_L2 n (nI i) σ = some υ ∧ Fr σ υ [] [36] ∧ (∀ k, i ≤ k → k < 12 → gA υ 36 k = gA σ 41 k) ∧ ∀ k, k < i → gA υ 36 k = gA σ 36 k := by
  intro n
  induction n with
  | zero => intro i σ h; omega
  | succ n ih =>
    intro i σ hn hi
    rw [f_M_copy_41_36_L2, l_12]
    by_cases q : i < 12
    · rw [if_neg (nI_ge q (by decide)), if_pos (inB_t q (by decide)), if_pos (inB_t q (by decide)), nI_clamp (by omega), nI_1]
      obtain ⟨υ, h1, h2, h3, h4⟩ := ih (i + 1) (sA σ 36 i (gA σ 41 i)) (by omega) (by omega)
      refine ⟨υ, h1, (Fr.sA Fr.rf (by decide)).tr h2, fun k hk hk2 => ?_, fun k hk => ?_⟩
      · by_cases z : k = i
        · rw [z, h4 i (by omega), gA_sA', if_pos ⟨rfl, rfl⟩]
        · rw [h3 k (by omega) hk2, gA_sA', if_neg (by omega)]
      · rw [h4 k (by omega), gA_sA', if_neg (by omega)]
    · rw [if_pos (nI_le (by omega) (by omega))]
      exact ⟨σ, rfl, Fr.rf, fun k hk hk2 => absurd hk2 (by omega), fun _ _ => rfl⟩
theorem cp_41_36 (σ : ST) : ∃ υ, f_M_copy_41_36 σ = some υ ∧ Fr σ υ [] [36] ∧ ∀ k, k < 12 → gA υ 36 k = gA σ 41 k := by
  obtain ⟨υ, h1, h2, h3, -⟩ := cpl_41_36 400 0 σ (by decide) (by decide)
  have h1' : f_M_copy_41_36_L2 400 0 σ = some υ := h1
  refine ⟨υ, ?_, h2, fun k hk => h3 k (by omega) hk⟩
  unfold f_M_copy_41_36
  rw [h1']; rfl
theorem cpl_40_42 : ∀ (n i : Nat) (σ : ST), 16 - i < n → i ≤ 16 → ∃ υ, f_M_copy_40_42_L2 n (nI i) σ = some υ ∧ Fr σ υ [] [42] ∧ (∀ k, i ≤ k → k < 16 → gA υ 42 k = gA σ 40 k) ∧ ∀ k, k < i → gA υ 42 k = gA σ 42 k := by
  intro n
  induction n with
  | zero => intro i σ h; omega
  | succ n ih =>
    intro i σ hn hi
    rw [f_M_copy_40_42_L2, l_16]
    by_cases q : i < 16
    · rw [if_neg (nI_ge q (by decide)), if_pos (inB_t q (by decide)), if_pos (inB_t q (by decide)), nI_clamp (by omega), nI_1]
      obtain ⟨υ, h1, h2, h3, h4⟩ := ih (i + 1) (sA σ 42 i (gA σ 40 i)) (by omega) (by omega)
      refine ⟨υ, h1, (Fr.sA Fr.rf (by decide)).tr h2, fun k hk hk2 => ?_, fun k hk => ?_⟩
      · by_cases z : k = i
        · rw [z, h4 i (by omega), gA_sA', if_pos ⟨rfl, rfl⟩]
        · rw [h3 k (by omega) hk2, gA_sA', if_neg (by omega)]
      · rw [h4 k (by omega), gA_sA', if_neg (by omega)]
    · rw [if_pos (nI_le (by omega) (by omega))]
      exact ⟨σ, rfl, Fr.rf, fun k hk hk2 => absurd hk2 (by omega), fun _ _ => rfl⟩
theorem cp_40_42 (σ : ST) : ∃ υ, f_M_copy_40_42 σ = some υ ∧ Fr σ υ [] [42] ∧ ∀ k, k < 16 → gA υ 42 k = gA σ 40 k := by
  obtain ⟨υ, h1, h2, h3, -⟩ := cpl_40_42 400 0 σ (by decide) (by decide)
  have h1' : f_M_copy_40_42_L2 400 0 σ = some υ := h1
  refine ⟨υ, ?_, h2, fun k hk => h3 k (by omega) hk⟩
  unfold f_M_copy_40_42
  rw [h1']; rfl
theorem cpl_42_40 : ∀ (n i : Nat) (σ : ST), 16 - i < n → i ≤ 16 → ∃ υ, f_M_copy_42_40_L2 n (nI i) σ = some υ ∧ Fr σ υ [] [40] ∧ (∀ k, i ≤ k → k < 16 → gA υ 40 k = gA σ 42 k) ∧ ∀ k, k < i → gA υ 40 k = gA σ 40 k := by
  intro n
  induction n with
  | zero => intro i σ h; omega
  | succ n ih =>
    intro i σ hn hi
    rw [f_M_copy_42_40_L2, l_16]
    by_cases q : i < 16
    · rw [if_neg (nI_ge q (by decide)), if_pos (inB_t q (by decide)), if_pos (inB_t q (by decide)), nI_clamp (by omega), nI_1]
      obtain ⟨υ, h1, h2, h3, h4⟩ := ih (i + 1) (sA σ 40 i (gA σ 42 i)) (by omega) (by omega)
      refine ⟨υ, h1, (Fr.sA Fr.rf (by decide)).tr h2, fun k hk hk2 => ?_, fun k hk => ?_⟩
      · by_cases z : k = i
        · rw [z, h4 i (by omega), gA_sA', if_pos ⟨rfl, rfl⟩]
        · rw [h3 k (by omega) hk2, gA_sA', if_neg (by omega)]
      · rw [h4 k (by omega), gA_sA', if_neg (by omega)]
    · rw [if_pos (nI_le (by omega) (by omega))]
      exact ⟨σ, rfl, Fr.rf, fun k hk hk2 => absurd hk2 (by omega), fun _ _ => rfl⟩
theorem cp_42_40 (σ : ST) : ∃ υ, f_M_copy_42_40 σ = some υ ∧ Fr σ υ [] [40] ∧ ∀ k, k < 16 → gA υ 40 k = gA σ 42 k := by
  obtain ⟨υ, h1, h2, h3, -⟩ := cpl_42_40 400 0 σ (by decide) (by decide)
  have h1' : f_M_copy_42_40_L2 400 0 σ = some υ := h1
  refine ⟨υ, ?_, h2, fun k hk => h3 k (by omega) hk⟩
  unfold f_M_copy_42_40
  rw [h1']; rfl
theorem cf_24_17 (σ : ST) : ∃ υ, f_Camp_copyFrom_24_17 σ = some υ ∧ Fr σ υ [2400, 2405] [25, 26, 27, 28, 29, 30] ∧ gI υ 2400 = gI σ 1700 ∧ gI υ 2405 = gI σ 1705 ∧ (∀ k, k < 3 → gA υ 25 k = gA σ 18 k) ∧ (∀ k, k < 3 → gA υ 26 k = gA σ 19 k) ∧ (∀ k, k < 3 → gA υ 27 k = gA σ 20 k) ∧ (∀ k, k < 3 → gA υ 28 k = gA σ 21 k) ∧ (∀ k, k < 8 → gA υ 29 k = gA σ 22 k) ∧ (∀ k, k < 8 → gA υ 30 k = gA σ 23 k) := by
  have f0 : Fr σ (sI (sI σ 2400 (gI σ 1700)) 2405 (gI σ 1705)) [2400, 2405] [25, 26, 27, 28, 29, 30] := Fr.sI (Fr.sI Fr.rf (by decide)) (by decide)
  obtain ⟨q1, a1, b1, c1⟩ := cp_18_25 (sI (sI σ 2400 (gI σ 1700)) 2405 (gI σ 1705))
  obtain ⟨q2, a2, b2, c2⟩ := cp_19_26 q1
  obtain ⟨q3, a3, b3, c3⟩ := cp_20_27 q2
  obtain ⟨q4, a4, b4, c4⟩ := cp_21_28 q3
  obtain ⟨q5, a5, b5, c5⟩ := cp_22_29 q4
  obtain ⟨q6, a6, b6, c6⟩ := cp_23_30 q5
  have f1 := f0.tr (b1.mono (I' := [2400, 2405]) (A' := [25, 26, 27, 28, 29, 30]) (by decide) (by decide))
  have f2 := f1.tr (b2.mono (I' := [2400, 2405]) (A' := [25, 26, 27, 28, 29, 30]) (by decide) (by decide))
  have f3 := f2.tr (b3.mono (I' := [2400, 2405]) (A' := [25, 26, 27, 28, 29, 30]) (by decide) (by decide))
  have f4 := f3.tr (b4.mono (I' := [2400, 2405]) (A' := [25, 26, 27, 28, 29, 30]) (by decide) (by decide))
  have f5 := f4.tr (b5.mono (I' := [2400, 2405]) (A' := [25, 26, 27, 28, 29, 30]) (by decide) (by decide))
  have f6 := f5.tr (b6.mono (I' := [2400, 2405]) (A' := [25, 26, 27, 28, 29, 30]) (by decide) (by decide))
  refine ⟨q6, ?_, f6, ?_, ?_, ?_, ?_, ?_, ?_, ?_, ?_⟩
  · unfold f_Camp_copyFrom_24_17
    show ((f_Camp_copyRow_18_25 (sI (sI σ 2400 (gI σ 1700)) 2405 (gI σ 1705))).bind _) = _
    rw [a1, Option.bind_some, a2, Option.bind_some, a3, Option.bind_some, a4, Option.bind_some, a5, Option.bind_some, a6, Option.bind_some]
  · rw [b6.1 2400 (by decide), b5.1 2400 (by decide), b4.1 2400 (by decide), b3.1 2400 (by decide), b2.1 2400 (by decide), b1.1 2400 (by decide)]; rfl
  · rw [b6.1 2405 (by decide), b5.1 2405 (by decide), b4.1 2405 (by decide), b3.1 2405 (by decide), b2.1 2405 (by decide), b1.1 2405 (by decide)]; rfl
  · intro k hk
    rw [b6.2 25 (by decide), b5.2 25 (by decide), b4.2 25 (by decide), b3.2 25 (by decide), b2.2 25 (by decide), c1 k hk]; rfl
  · intro k hk
    rw [b6.2 26 (by decide), b5.2 26 (by decide), b4.2 26 (by decide), b3.2 26 (by decide), c2 k hk, b1.2 19 (by decide)]; rfl
  · intro k hk
    rw [b6.2 27 (by decide), b5.2 27 (by decide), b4.2 27 (by decide), c3 k hk, b2.2 20 (by decide), b1.2 20 (by decide)]; rfl
  · intro k hk
    rw [b6.2 28 (by decide), b5.2 28 (by decide), c4 k hk, b3.2 21 (by decide), b2.2 21 (by decide), b1.2 21 (by decide)]; rfl
  · intro k hk
    rw [b6.2 29 (by decide), c5 k hk, b4.2 22 (by decide), b3.2 22 (by decide), b2.2 22 (by decide), b1.2 22 (by decide)]; rfl
  · intro k hk
    rw [c6 k hk, b5.2 23 (by decide), b4.2 23 (by decide), b3.2 23 (by decide), b2.2 23 (by decide), b1.2 23 (by decide)]; rfl

theorem cf_17_24 (σ : ST) : ∃ υ, f_Camp_copyFrom_17_24 σ = some υ ∧ Fr σ υ [1700, 1705] [18, 19, 20, 21, 22, 23] ∧ gI υ 1700 = gI σ 2400 ∧ gI υ 1705 = gI σ 2405 ∧ (∀ k, k < 3 → gA υ 18 k = gA σ 25 k) ∧ (∀ k, k < 3 → gA υ 19 k = gA σ 26 k) ∧ (∀ k, k < 3 → gA υ 20 k = gA σ 27 k) ∧ (∀ k, k < 3 → gA υ 21 k = gA σ 28 k) ∧ (∀ k, k < 8 → gA υ 22 k = gA σ 29 k) ∧ (∀ k, k < 8 → gA υ 23 k = gA σ 30 k) := by
  have f0 : Fr σ (sI (sI σ 1700 (gI σ 2400)) 1705 (gI σ 2405)) [1700, 1705] [18, 19, 20, 21, 22, 23] := Fr.sI (Fr.sI Fr.rf (by decide)) (by decide)
  obtain ⟨q1, a1, b1, c1⟩ := cp_25_18 (sI (sI σ 1700 (gI σ 2400)) 1705 (gI σ 2405))
  obtain ⟨q2, a2, b2, c2⟩ := cp_26_19 q1
  obtain ⟨q3, a3, b3, c3⟩ := cp_27_20 q2
  obtain ⟨q4, a4, b4, c4⟩ := cp_28_21 q3
  obtain ⟨q5, a5, b5, c5⟩ := cp_29_22 q4
  obtain ⟨q6, a6, b6, c6⟩ := cp_30_23 q5
  have f1 := f0.tr (b1.mono (I' := [1700, 1705]) (A' := [18, 19, 20, 21, 22, 23]) (by decide) (by decide))
  have f2 := f1.tr (b2.mono (I' := [1700, 1705]) (A' := [18, 19, 20, 21, 22, 23]) (by decide) (by decide))
  have f3 := f2.tr (b3.mono (I' := [1700, 1705]) (A' := [18, 19, 20, 21, 22, 23]) (by decide) (by decide))
  have f4 := f3.tr (b4.mono (I' := [1700, 1705]) (A' := [18, 19, 20, 21, 22, 23]) (by decide) (by decide))
  have f5 := f4.tr (b5.mono (I' := [1700, 1705]) (A' := [18, 19, 20, 21, 22, 23]) (by decide) (by decide))
  have f6 := f5.tr (b6.mono (I' := [1700, 1705]) (A' := [18, 19, 20, 21, 22, 23]) (by decide) (by decide))
  refine ⟨q6, ?_, f6, ?_, ?_, ?_, ?_, ?_, ?_, ?_, ?_⟩
  · unfold f_Camp_copyFrom_17_24
    show ((f_Camp_copyRow_25_18 (sI (sI σ 1700 (gI σ 2400)) 1705 (gI σ 2405))).bind _) = _
    rw [a1, Option.bind_some, a2, Option.bind_some, a3, Option.bind_some, a4, Option.bind_some, a5, Option.bind_some, a6, Option.bind_some]
  · rw [b6.1 1700 (by decide), b5.1 1700 (by decide), b4.1 1700 (by decide), b3.1 1700 (by decide), b2.1 1700 (by decide), b1.1 1700 (by decide)]; rfl
  · rw [b6.1 1705 (by decide), b5.1 1705 (by decide), b4.1 1705 (by decide), b3.1 1705 (by decide), b2.1 1705 (by decide), b1.1 1705 (by decide)]; rfl
  · intro k hk
    rw [b6.2 18 (by decide), b5.2 18 (by decide), b4.2 18 (by decide), b3.2 18 (by decide), b2.2 18 (by decide), c1 k hk]; rfl
  · intro k hk
    rw [b6.2 19 (by decide), b5.2 19 (by decide), b4.2 19 (by decide), b3.2 19 (by decide), c2 k hk, b1.2 26 (by decide)]; rfl
  · intro k hk
    rw [b6.2 20 (by decide), b5.2 20 (by decide), b4.2 20 (by decide), c3 k hk, b2.2 27 (by decide), b1.2 27 (by decide)]; rfl
  · intro k hk
    rw [b6.2 21 (by decide), b5.2 21 (by decide), c4 k hk, b3.2 28 (by decide), b2.2 28 (by decide), b1.2 28 (by decide)]; rfl
  · intro k hk
    rw [b6.2 22 (by decide), c5 k hk, b4.2 29 (by decide), b3.2 29 (by decide), b2.2 29 (by decide), b1.2 29 (by decide)]; rfl
  · intro k hk
    rw [c6 k hk, b5.2 30 (by decide), b4.2 30 (by decide), b3.2 30 (by decide), b2.2 30 (by decide), b1.2 30 (by decide)]; rfl

