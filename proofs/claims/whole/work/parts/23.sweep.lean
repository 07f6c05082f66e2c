/-! SWEEPS over the tables -/
/-- the state of a sweep at (a, b): T0 at its start, T now, x its flag -/
def SI (kd : Nat → Nat) (go : Nat → Nat → Nat) (N : Nat) (T0 T : Nat → Nat → Nat → Nat) (a b : Nat) (x : Int32) : Prop :=
  (∀ j x y, T j x y ≤ T0 j x y) ∧ (∀ j, j < 4 → Snd (Ee kd go j) (Gg kd j) N (T j)) ∧ (∀ j x y, j < 4 → x < N → y < N → (x < a ∨ (x = a ∧ y < b)) → ∀ e ∈ Ee kd go j x y, T j x y ≤ e.1 + T0 j e.2.1 e.2.2) ∧ (x = 0 → T = T0)
theorem SI_step {kd : Nat → Nat} {go : Nat → Nat → Nat} {N a b : Nat} {T0 T T1 T2 : Nat → Nat → Nat → Nat} {x r1 r2 : Int32} (h : SI kd go N T0 T a b x) (hx : x = 0 ∨ x = 1) (z1 : r1 = 0 ∨ r1 = 1) (z2 : r2 = 0 ∨ r2 = 1) (h1 : LB kd go N a b (fun i => Ew kd go i 0 a b) T T1 r1) (h2 : LB kd go N a b (fun i => Ew kd go i 1 a b) T1 T2 r2) : SI kd go N T0 T2 a (b + 1) (x ||| (r1 ||| r2)) := by
  obtain ⟨a1, a2, a3, a4⟩ := h
  obtain ⟨b1, b2, b3, b4, b5⟩ := h1
  obtain ⟨d1, d2, d3, d4, d5⟩ := h2
  have o1 := or01 z1 z2
  have o2 := or01 hx o1.1
  refine ⟨fun j x y => ?_, d4, fun j x y hj hx hy hp e he => ?_, fun hz => ?_⟩
  · have := a1 j x y; have := b1 j x y; have := d1 j x y; omega
  · by_cases q : x = a ∧ y = b
    · obtain ⟨rfl, rfl⟩ := q
      unfold Ee at he
      rcases List.mem_append.mp he with he | he
      · have := b3 j hj e he; have := d1 j x y; have := a1 j e.2.1 e.2.2; omega
      · have := d3 j hj e he; have := b1 j e.2.1 e.2.2; have := a1 j e.2.1 e.2.2; omega
    · have hp' : x < a ∨ (x = a ∧ y < b) := by omega
      have := a3 j x y hj hx hy hp' e he
      rw [d2 j x y q, b2 j x y q]
      exact this
  · obtain ⟨q1, q2⟩ := o2.2 hz
    obtain ⟨q3, q4⟩ := o1.2 q2
    rw [d5 q4, b5 q3, a4 q1]
theorem SI_row {kd : Nat → Nat} {go : Nat → Nat → Nat} {N a : Nat} {T0 T : Nat → Nat → Nat → Nat} {x : Int32} (h : SI kd go N T0 T a N x) : SI kd go N T0 T (a + 1) 0 x :=
  ⟨h.1, h.2.1, fun j x y hj hx hy hp e he => h.2.2.1 j x y hj hx hy (by omega) e he, h.2.2.2⟩
theorem nT4 : ¬ isT 4 := by unfold isT; omega
theorem nT5 : ¬ isT 5 := by unfold isT; omega
theorem nT6 : ¬ isT 6 := by unfold isT; omega
theorem sweep_in {kd : Nat → Nat} {go : Nat → Nat → Nat} {N a : Nat} {T0 : Nat → Nat → Nat → Nat} (ha : a < N) : ∀ (n b : Nat) (x : Int32) (σ : ST) (T : Nat → Nat → Nat → Nat), N - b < n → b ≤ N → Mc σ N kd go → Tab σ N T → (x = 0 ∨ x = 1) → SI kd go N T0 T a b x →
    ∃ x' σ' T', f_Ways_sweepPairs_L17 n x (nI a) (nI b) σ = some (x', σ') ∧ Mc σ' N kd go ∧ Tab σ' N T' ∧ (x' = 0 ∨ x' = 1) ∧ SI kd go N T0 T' (a + 1) 0 x' ∧ Ka σ σ' isT := by
  intro n
  induction n with
  | zero => intro b x σ T h; omega
  | succ n ih =>
    intro b x σ T hn hb hM hT hx hS
    have hN := hM.1
    rw [f_Ways_sweepPairs_L17, hM.2.1]
    by_cases hbN : b < N
    · rw [if_neg (nI_ge hbN (by omega))]
      obtain ⟨r1, σ1, T1, e1, z1, t1, q1, k1⟩ := lowerBy_ok (w := 0) hM hT hS.2.1 ha hbN (by decide)
      have hM1 := hM.keep k1 nT4 nT5 nT6
      obtain ⟨r2, σ2, T2, e2, z2, t2, q2, k2⟩ := lowerBy_ok (w := 1) hM1 t1 q1.2.2.2.1 ha hbN (by decide)
      have hM2 := hM1.keep k2 nT4 nT5 nT6
      have e1' : f_Ways_lowerBy (nI a) (nI b) 0 σ = (r1, σ1) := e1
      have e2' : f_Ways_lowerBy (nI a) (nI b) 1 σ1 = (r2, σ2) := e2
      rw [e1']
      dsimp only
      rw [e2']
      dsimp only
      rw [nI_1]
      have o1 := or01 z1 z2
      obtain ⟨x', σ', T', f1, f2, f3, f4, f5, f6⟩ := ih (b + 1) (x ||| (r1 ||| r2)) σ2 T2 (by omega) (by omega) hM2 t2 (or01 hx o1.1).1 (SI_step hS hx z1 z2 q1 q2)
      exact ⟨x', σ', T', f1, f2, f3, f4, f5, k1.tr (k2.tr f6)⟩
    · have hbe : b = N := by omega
      subst hbe
      rw [if_pos (nI_le (Nat.le_refl _) (by omega))]
      exact ⟨x, σ, T, rfl, hM, hT, hx, SI_row hS, Ka.rf⟩
theorem sweep_out {kd : Nat → Nat} {go : Nat → Nat → Nat} {N : Nat} {T0 : Nat → Nat → Nat → Nat} : ∀ (n a : Nat) (x : Int32) (σ : ST) (T : Nat → Nat → Nat → Nat), N - a < n → a ≤ N → Mc σ N kd go → Tab σ N T → (x = 0 ∨ x = 1) → SI kd go N T0 T a 0 x →
    ∃ x' σ' T', f_Ways_sweepPairs_L4 n x (nI a) σ = some (x', σ') ∧ Mc σ' N kd go ∧ Tab σ' N T' ∧ (x' = 0 ∨ x' = 1) ∧ SI kd go N T0 T' N 0 x' ∧ Ka σ σ' isT := by
  intro n
  induction n with
  | zero => intro a x σ T h; omega
  | succ n ih =>
    intro a x σ T hn haN hM hT hx hS
    have hN := hM.1
    rw [f_Ways_sweepPairs_L4, hM.2.1]
    by_cases ha : a < N
    · rw [if_neg (nI_ge ha (by omega))]
      obtain ⟨x1, σ1, T1, e1, hM1, t1, z1, q1, k1⟩ := sweep_in (T0 := T0) ha 400 0 x σ T (by omega) (by omega) hM hT hx hS
      have e1' : f_Ways_sweepPairs_L17 400 x (nI a) 0 σ = some (x1, σ1) := e1
      rw [e1']
      show ∃ x' σ' T', f_Ways_sweepPairs_L4 n x1 (nI a + 1) σ1 = some (x', σ') ∧ _
      rw [nI_1]
      obtain ⟨x', σ', T', f1, f2, f3, f4, f5, f6⟩ := ih (a + 1) x1 σ1 T1 (by omega) (by omega) hM1 t1 z1 q1
      exact ⟨x', σ', T', f1, f2, f3, f4, f5, k1.tr f6⟩
    · have hae : a = N := by omega
      subst hae
      rw [if_pos (nI_le (Nat.le_refl _) (by omega))]
      exact ⟨x, σ, T, rfl, hM, hT, hx, hS, Ka.rf⟩
/-- a whole sweep -/
theorem sweep_ok {σ : ST} {kd : Nat → Nat} {go : Nat → Nat → Nat} {N : Nat} {T : Nat → Nat → Nat → Nat} (hM : Mc σ N kd go) (hT : Tab σ N T) (hs : ∀ j, j < 4 → Snd (Ee kd go j) (Gg kd j) N (T j)) :
    ∃ x' σ' T', f_Ways_sweepPairs σ = some (x', σ') ∧ Mc σ' N kd go ∧ Tab σ' N T' ∧ (x' = 0 ∨ x' = 1) ∧ SI kd go N T T' N 0 x' ∧ Ka σ σ' isT := by
  obtain ⟨x', σ', T', f1, f2, f3, f4, f5, f6⟩ := sweep_out (T0 := T) 400 0 0 σ T (by have := hM.1; omega) (by omega) hM hT (Or.inl rfl) ⟨fun _ _ _ => Nat.le_refl _, hs, fun j x y _ _ _ hp => by omega, fun _ => rfl⟩
  refine ⟨x', σ', T', ?_, f2, f3, f4, f5, f6⟩
  unfold f_Ways_sweepPairs
  have f1' : f_Ways_sweepPairs_L4 400 0 0 σ = some (x', σ') := f1
  rw [f1']
  show some (x' &&& 1, σ') = some (x', σ')
  rw [and01 f4]
theorem cmp_sweep {kd : Nat → Nat} {go : Nat → Nat → Nat} {N r : Nat} {T0 T : Nat → Nat → Nat → Nat} {x : Int32} (hC : ∀ i, Clo (Ee kd go i) N) (h : SI kd go N T0 T N 0 x) (hc : ∀ j, j < 4 → Cmp (Ee kd go j) (Gg kd j) N r (T0 j)) : ∀ j, j < 4 → Cmp (Ee kd go j) (Gg kd j) N (r + 1) (T j) := by
  intro j hj k w a b hk ha hb ho
  cases k with
  | zero =>
    have := hc j hj 0 w a b (by omega) ha hb ho
    have := h.1 j a b
    omega
  | succ k =>
    obtain ⟨e, he, h1, h2⟩ := ho
    have hcl := hC j a b ha hb e he
    have := hc j hj k _ _ _ (by omega) hcl.1 hcl.2 h2
    have := h.2.2.1 j a b hj ha hb (Or.inl ha) e he
    omega
theorem work_loop {kd : Nat → Nat} {go : Nat → Nat → Nat} {N : Nat} : ∀ (n s : Nat) (x : Int32) (σ : ST) (T : Nat → Nat → Nat → Nat), 36 - s < n → s ≤ 36 → Mc σ N kd go → Tab σ N T → (x = 0 ∨ x = 1) → (∀ j, j < 4 → Snd (Ee kd go j) (Gg kd j) N (T j)) → (∀ j, j < 4 → Cmp (Ee kd go j) (Gg kd j) N s (T j)) → (x = 0 → ∀ r j, j < 4 → Cmp (Ee kd go j) (Gg kd j) N r (T j)) →
    ∃ σ' T', f_Ways_workOut_L8 n x (nI s) σ = some σ' ∧ Mc σ' N kd go ∧ Tab σ' N T' ∧ (∀ j, j < 4 → Snd (Ee kd go j) (Gg kd j) N (T' j)) ∧ (∀ j, j < 4 → Cmp (Ee kd go j) (Gg kd j) N 36 (T' j)) ∧ Ka σ σ' isT := by
  intro n
  induction n with
  | zero => intro s x σ T h; omega
  | succ n ih =>
    intro s x σ T hn hs36 hM hT hx hs hc hz
    rw [f_Ways_workOut_L8, l_36]
    by_cases h36 : s < 36
    · rw [if_neg (nI_ge h36 (by omega))]
      by_cases hx0 : x = 0
      · rw [if_pos hx0]
        exact ⟨σ, T, rfl, hM, hT, hs, hz hx0 36, Ka.rf⟩
      · rw [if_neg hx0]
        obtain ⟨x1, σ1, T1, e1, hM1, t1, z1, q1, k1⟩ := sweep_ok hM hT hs
        rw [e1]
        show ∃ σ' T', f_Ways_workOut_L8 n x1 (nI s + 1) σ1 = some σ' ∧ _
        rw [nI_1]
        have hC : ∀ i, Clo (Ee kd go i) N := fun i => Clo_E hM i
        obtain ⟨σ', T', f1, f2, f3, f4, f5, f6⟩ := ih (s + 1) x1 σ1 T1 (by omega) (by omega) hM1 t1 z1 q1.2.1 (cmp_sweep hC q1 hc) (by
          intro h0
          have eT := q1.2.2.2 h0
          subst eT
          intro r
          induction r with
          | zero => intro j hj k w a b hk ha hb ho; exact hc j hj k w a b (by omega) ha hb ho
          | succ r ihr => exact cmp_sweep hC q1 ihr)
        exact ⟨σ', T', f1, f2, f3, f4, f5, k1.tr f6⟩
    · have : s = 36 := by omega
      subst this
      rw [if_pos (nI_le (Nat.le_refl _) (by omega))]
      exact ⟨σ, T, rfl, hM, hT, hs, hc, Ka.rf⟩
