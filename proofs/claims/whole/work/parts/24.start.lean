/-! THE TABLES at their start, and when they are worked out -/
def T0 (kd : Nat → Nat) (i a b : Nat) : Nat := if i = 3 then (if sn kd a = sn kd b then 1000 else 0) else (if a = b then 0 else 1000)
theorem tset_8 {σ : ST} {a b : Nat} {v : Int32} (ha : a < 6) (hb : b < 6) : f_Table_set_8 (nI a) (nI b) v σ = sA σ 12 (a * 6 + b) v := by
  unfold f_Table_set_8
  rw [l_6, mul_nI, add_nI, put_in (by omega) (by decide)]
theorem tset_9 {σ : ST} {a b : Nat} {v : Int32} (ha : a < 6) (hb : b < 6) : f_Table_set_9 (nI a) (nI b) v σ = sA σ 13 (a * 6 + b) v := by
  unfold f_Table_set_9
  rw [l_6, mul_nI, add_nI, put_in (by omega) (by decide)]
theorem tset_10 {σ : ST} {a b : Nat} {v : Int32} (ha : a < 6) (hb : b < 6) : f_Table_set_10 (nI a) (nI b) v σ = sA σ 14 (a * 6 + b) v := by
  unfold f_Table_set_10
  rw [l_6, mul_nI, add_nI, put_in (by omega) (by decide)]
theorem tset_11 {σ : ST} {a b : Nat} {v : Int32} (ha : a < 6) (hb : b < 6) : f_Table_set_11 (nI a) (nI b) v σ = sA σ 15 (a * 6 + b) v := by
  unfold f_Table_set_11
  rw [l_6, mul_nI, add_nI, put_in (by omega) (by decide)]
def TP (σ : ST) (N : Nat) (kd : Nat → Nat) (a b : Nat) : Prop := ∀ i x y, i < 4 → x < N → y < N → (x < a ∨ (x = a ∧ y < b)) → gA σ (12 + i) (x * 6 + y) = nI (T0 kd i x y)
theorem Ka4 {σ : ST} {k : Nat} {v1 v2 v3 v4 : Int32} : Ka σ (sA (sA (sA (sA σ 12 k v1) 13 k v2) 14 k v3) 15 k v4) isT :=
  (Ka.sA (by unfold isT; omega)).tr ((Ka.sA (by unfold isT; omega)).tr ((Ka.sA (by unfold isT; omega)).tr (Ka.sA (by unfold isT; omega))))
theorem Ka3 {σ : ST} {k : Nat} {v1 v2 v3 : Int32} : Ka σ (sA (sA (sA σ 12 k v1) 13 k v2) 14 k v3) isT :=
  (Ka.sA (by unfold isT; omega)).tr ((Ka.sA (by unfold isT; omega)).tr (Ka.sA (by unfold isT; omega)))
theorem TP_step {σ : ST} {N a b : Nat} {kd : Nat → Nat} (hN : N ≤ 6) (ha : a < N) (hb : b < N) (h : TP σ N kd a b) : TP (sA (sA (sA (sA σ 12 (a * 6 + b) (nI (T0 kd 0 a b))) 13 (a * 6 + b) (nI (T0 kd 1 a b))) 14 (a * 6 + b) (nI (T0 kd 2 a b))) 15 (a * 6 + b) (nI (T0 kd 3 a b))) N kd a (b + 1) := by
  intro i x y hi hx hy hp
  rw [gA_sA', gA_sA', gA_sA', gA_sA']
  by_cases q : x = a ∧ y = b
  · obtain ⟨rfl, rfl⟩ := q
    rcases (show i = 0 ∨ i = 1 ∨ i = 2 ∨ i = 3 by omega) with q | q | q | q <;> subst q <;> simp
  · have hne : ¬ x * 6 + y = a * 6 + b := fun e => q ⟨by omega, by omega⟩
    rw [if_neg (fun z => hne z.2), if_neg (fun z => hne z.2), if_neg (fun z => hne z.2), if_neg (fun z => hne z.2)]
    exact h i x y hi hx hy (by omega)
theorem start_in {kd : Nat → Nat} {go : Nat → Nat → Nat} {N a : Nat} (ha : a < N) : ∀ (n b : Nat) (σ : ST), N - b < n → b ≤ N → Mc σ N kd go → TP σ N kd a b → ∃ σ', f_Ways_start_L15 n (nI a) (nI b) σ = some σ' ∧ Mc σ' N kd go ∧ TP σ' N kd (a + 1) 0 ∧ Ka σ σ' isT := by
  intro n
  induction n with
  | zero => intro b σ h; omega
  | succ n ih =>
    intro b σ hn hbN hM hT
    have hN := hM.1
    rw [f_Ways_start_L15, hM.2.1]
    by_cases hb : b < N
    · rw [if_neg (nI_ge hb (by omega))]
      have key : (if nI a = nI b then (if (f_Mine_soundOf (nI a) (f_Table_set_10 (nI a) (nI b) (0 : Int32) (f_Table_set_9 (nI a) (nI b) (0 : Int32) (f_Table_set_8 (nI a) (nI b) (0 : Int32) σ)))) = (f_Mine_soundOf (nI b) (f_Table_set_10 (nI a) (nI b) (0 : Int32) (f_Table_set_9 (nI a) (nI b) (0 : Int32) (f_Table_set_8 (nI a) (nI b) (0 : Int32) σ)))) then (f_Ways_start_L15 n (nI a) (nI b + (1 : Int32)) (f_Table_set_11 (nI a) (nI b) (1000 : Int32) (f_Table_set_10 (nI a) (nI b) (0 : Int32) (f_Table_set_9 (nI a) (nI b) (0 : Int32) (f_Table_set_8 (nI a) (nI b) (0 : Int32) σ))))) else (f_Ways_start_L15 n (nI a) (nI b + (1 : Int32)) (f_Table_set_11 (nI a) (nI b) (0 : Int32) (f_Table_set_10 (nI a) (nI b) (0 : Int32) (f_Table_set_9 (nI a) (nI b) (0 : Int32) (f_Table_set_8 (nI a) (nI b) (0 : Int32) σ)))))) else (if (f_Mine_soundOf (nI a) (f_Table_set_10 (nI a) (nI b) (1000 : Int32) (f_Table_set_9 (nI a) (nI b) (1000 : Int32) (f_Table_set_8 (nI a) (nI b) (1000 : Int32) σ)))) = (f_Mine_soundOf (nI b) (f_Table_set_10 (nI a) (nI b) (1000 : Int32) (f_Table_set_9 (nI a) (nI b) (1000 : Int32) (f_Table_set_8 (nI a) (nI b) (1000 : Int32) σ)))) then (f_Ways_start_L15 n (nI a) (nI b + (1 : Int32)) (f_Table_set_11 (nI a) (nI b) (1000 : Int32) (f_Table_set_10 (nI a) (nI b) (1000 : Int32) (f_Table_set_9 (nI a) (nI b) (1000 : Int32) (f_Table_set_8 (nI a) (nI b) (1000 : Int32) σ))))) else (f_Ways_start_L15 n (nI a) (nI b + (1 : Int32)) (f_Table_set_11 (nI a) (nI b) (0 : Int32) (f_Table_set_10 (nI a) (nI b) (1000 : Int32) (f_Table_set_9 (nI a) (nI b) (1000 : Int32) (f_Table_set_8 (nI a) (nI b) (1000 : Int32) σ)))))))
          = f_Ways_start_L15 n (nI a) (nI (b + 1)) (sA (sA (sA (sA σ 12 (a * 6 + b) (nI (T0 kd 0 a b))) 13 (a * 6 + b) (nI (T0 kd 1 a b))) 14 (a * 6 + b) (nI (T0 kd 2 a b))) 15 (a * 6 + b) (nI (T0 kd 3 a b))) := by
        have ha6 : a < 6 := by omega
        have hb6 : b < 6 := by omega
        simp only [tset_8 ha6 hb6, tset_9 ha6 hb6, tset_10 ha6 hb6, tset_11 ha6 hb6]
        rw [nI_1]
        have snd : ∀ v : Int32, (f_Mine_soundOf (nI a) (sA (sA (sA σ 12 (a * 6 + b) v) 13 (a * 6 + b) v) 14 (a * 6 + b) v) = f_Mine_soundOf (nI b) (sA (sA (sA σ 12 (a * 6 + b) v) 13 (a * 6 + b) v) 14 (a * 6 + b) v)) ↔ sn kd a = sn kd b := by
          intro v
          have hM3 := hM.keep (Ka3 (k := a * 6 + b) (v1 := v) (v2 := v) (v3 := v)) nT4 nT5 nT6
          rw [m_sound hM3 ha, m_sound hM3 hb]
          have := sn_le kd a
          have := sn_le kd b
          exact nI_eq (by omega) (by omega)
        unfold T0
        by_cases hab : a = b
        · rw [if_pos (by rw [hab])]
          have e0 : sn kd a = sn kd b := by rw [hab]
          rw [if_pos ((snd 0).mpr e0)]
          simp [hab]
          rfl
        · rw [if_neg (fun z => hab (nI_inj (by omega) (by omega) z))]
          by_cases hsn : sn kd a = sn kd b
          · rw [if_pos ((snd 1000).mpr hsn)]
            simp [hab, hsn]
            rfl
          · rw [if_neg (fun z => hsn ((snd 1000).mp z))]
            simp [hab, hsn]
            rfl
      rw [key]
      obtain ⟨σ', f1, f2, f3, f4⟩ := ih (b + 1) _ (by omega) (by omega) (hM.keep Ka4 nT4 nT5 nT6) (TP_step hN ha hb hT)
      exact ⟨σ', f1, f2, f3, Ka4.tr f4⟩
    · have hbe : b = N := by omega
      subst hbe
      rw [if_pos (nI_le (Nat.le_refl _) (by omega))]
      exact ⟨σ, rfl, hM, fun i x y hi hx hy hp => hT i x y hi hx hy (by omega), Ka.rf⟩
theorem start_out {kd : Nat → Nat} {go : Nat → Nat → Nat} {N : Nat} : ∀ (n a : Nat) (σ : ST), N - a < n → a ≤ N → Mc σ N kd go → TP σ N kd a 0 → ∃ σ', f_Ways_start_L2 n (nI a) σ = some σ' ∧ Mc σ' N kd go ∧ TP σ' N kd N 0 ∧ Ka σ σ' isT := by
  intro n
  induction n with
  | zero => intro a σ h; omega
  | succ n ih =>
    intro a σ hn haN hM hT
    have hN := hM.1
    rw [f_Ways_start_L2, hM.2.1]
    by_cases ha : a < N
    · rw [if_neg (nI_ge ha (by omega))]
      obtain ⟨σ1, e1, hM1, t1, k1⟩ := start_in ha 400 0 σ (by omega) (by omega) hM hT
      have e1' : f_Ways_start_L15 400 (nI a) 0 σ = some σ1 := e1
      rw [e1']
      show ∃ σ', f_Ways_start_L2 n (nI a + 1) σ1 = some σ' ∧ _
      rw [nI_1]
      obtain ⟨σ', f1, f2, f3, f4⟩ := ih (a + 1) σ1 (by omega) (by omega) hM1 t1
      exact ⟨σ', f1, f2, f3, k1.tr f4⟩
    · have hae : a = N := by omega
      subst hae
      rw [if_pos (nI_le (Nat.le_refl _) (by omega))]
      exact ⟨σ, rfl, hM, hT, Ka.rf⟩
theorem start_ok {σ : ST} {kd : Nat → Nat} {go : Nat → Nat → Nat} {N : Nat} (hM : Mc σ N kd go) : ∃ σ', f_Ways_start σ = some σ' ∧ Mc σ' N kd go ∧ Tab σ' N (T0 kd) ∧ Ka σ σ' isT := by
  obtain ⟨σ', f1, f2, f3, f4⟩ := start_out 400 0 σ (by have := hM.1; omega) (by omega) hM (fun i x y _ _ _ hp => by omega)
  refine ⟨σ', ?_, f2, fun i a b hi ha hb => ⟨f3 i a b hi ha hb (Or.inl ha), ?_⟩, f4⟩
  · unfold f_Ways_start
    have f1' : f_Ways_start_L2 400 0 σ = some σ' := f1
    rw [f1']
    rfl
  · unfold T0
    by_cases h3 : i = 3
    · rw [if_pos h3]
      by_cases h : sn kd a = sn kd b
      · rw [if_pos h]; omega
      · rw [if_neg h]; omega
    · rw [if_neg h3]
      by_cases h : a = b
      · rw [if_pos h]; omega
      · rw [if_neg h]; omega
theorem T0_G {kd : Nat → Nat} {i a b : Nat} : (T0 kd i a b = 0 ∧ Gg kd i a b) ∨ (T0 kd i a b = 1000 ∧ ¬ Gg kd i a b) := by
  unfold T0 Gg
  by_cases h3 : i = 3
  · simp only [if_pos h3]
    by_cases h : sn kd a = sn kd b
    · rw [if_pos h]; exact Or.inr ⟨rfl, fun z => z h⟩
    · rw [if_neg h]; exact Or.inl ⟨rfl, h⟩
  · simp only [if_neg h3]
    by_cases h : a = b
    · rw [if_pos h]; exact Or.inl ⟨rfl, h⟩
    · rw [if_neg h]; exact Or.inr ⟨rfl, h⟩
theorem E_cost {kd : Nat → Nat} {go : Nat → Nat → Nat} (i : Nat) : ∀ a b, ∀ e ∈ Ee kd go i a b, e.1 ≤ 3 := by
  intro a b e he
  have b0 := bn_le kd (go a 0)
  have b1 := bn_le kd (go a 1)
  unfold Ee Ew at he
  by_cases h0 : i = 0
  · subst h0
    simp at he
    rcases he with rfl | rfl <;> (show 1 ≤ 3; omega)
  · by_cases h1 : i = 1
    · subst h1
      simp at he
      rcases he with rfl | rfl
      · exact b0.2
      · exact b1.2
    · by_cases h2 : i = 2
      · subst h2
        simp at he
        rcases he with rfl | rfl | rfl | rfl <;> (show 1 ≤ 3; omega)
      · simp [h0, h1, h2] at he
        rcases he with rfl | rfl <;> (show 1 ≤ 3; omega)
/-- the tables are exact -/
def Texact (kd : Nat → Nat) (go : Nat → Nat → Nat) (N : Nat) (T : Nat → Nat → Nat → Nat) : Prop := ∀ i a b, i < 4 → a < N → b < N → Lst (oc (Ee kd go i) (Gg kd i) a b) 1000 (T i a b)
theorem tables_ok {σ : ST} {kd : Nat → Nat} {go : Nat → Nat → Nat} {N : Nat} (hM : Mc σ N kd go) : ∃ σ1 σ2 T, f_Ways_start σ = some σ1 ∧ f_Ways_workOut_L8 400 1 0 σ1 = some σ2 ∧ Mc σ2 N kd go ∧ Tab σ2 N T ∧ Texact kd go N T ∧ Ka σ σ2 isT := by
  obtain ⟨σ1, e1, hM1, t1, k1⟩ := start_ok hM
  have s1 : ∀ j, j < 4 → Snd (Ee kd go j) (Gg kd j) N (T0 kd j) := by
    intro j hj a b ha hb
    rcases T0_G (kd := kd) (i := j) (a := a) (b := b) with ⟨h1, h2⟩ | ⟨h1, h2⟩
    · rw [h1]
      exact ⟨by omega, fun _ => ⟨0, h2, rfl⟩⟩
    · rw [h1]
      exact ⟨by omega, fun z => by omega⟩
  obtain ⟨σ2, T, e2, hM2, t2, s2, c2, k2⟩ := work_loop 400 0 1 σ1 (T0 kd) (by omega) (by omega) hM1 t1 (Or.inr rfl) s1 (by
    intro j hj k w a b hk ha hb ho
    have : k = 0 := by omega
    subst this
    obtain ⟨g1, g2⟩ := ho
    rcases T0_G (kd := kd) (i := j) (a := a) (b := b) with ⟨h1, h2⟩ | ⟨h1, h2⟩
    · omega
    · exact absurd g1 h2) (fun z => absurd z (by decide))
  refine ⟨σ1, σ2, T, e1, e2, hM2, t2, fun i a b hi ha hb => ?_, k1.tr k2⟩
  have hN := hM.1
  have hNN : N * N ≤ 36 := Nat.mul_le_mul hN hN
  exact exact_of (r := 36) (Clo_E hM i) (s2 i hi) (by omega) (c2 i hi) (fun a b w ha hb h => cheap (c := 3) (Clo_E hM i) (E_cost i) (by omega) ha hb h) a b ha hb
