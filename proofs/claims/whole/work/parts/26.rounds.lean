/-! ROUNDS: the class's table by sets -/
def isR (a : Nat) : Prop := a = 16
theorem Tab.keep {σ τ : ST} {N : Nat} {T : Nat → Nat → Nat → Nat} {S : Nat → Prop} (h : Tab σ N T) (hk : Ka σ τ S) (hS : ∀ i, i < 4 → ¬ S (12 + i)) : Tab τ N T := fun i a b hi ha hb => by rw [hk.2.2 _ (hS i hi)]; exact h i a b hi ha hb
/-- the sets above v are done -/
def RT (σ : ST) (go : Nat → Nat → Nat) (N v : Nat) : Prop := ∀ v' a, v < v' → v' < 2 ^ N → a < N → v'.testBit a = true → ∃ r, gA σ 16 (v' * 6 + a) = nI r ∧ RI go N v' a r
theorem RI_le {go : Nat → Nat → Nat} {N v a r : Nat} (hN : N ≤ 6) (h : RI go N v a r) : r ≤ 1000 := by
  rcases h with ⟨-, -, h⟩ | ⟨h, -⟩
  · have := un_le v N; omega
  · omega
theorem sor_ok {σ : ST} {v a : Nat} (hv : v < 64) (ha : a < 6) : f_Ways_stepsOfRound (nI v) (nI a) σ = gA σ 16 (v * 6 + a) := by
  unfold f_Ways_stepsOfRound
  rw [l_6, mul_nI, add_nI, cell_in (by omega) (by decide)]
theorem pow_le64 {N : Nat} (hN : N ≤ 6) : 2 ^ N ≤ 64 := Nat.le_trans (Nat.pow_le_pow_right (by decide) hN) (by decide)
theorem least_loop {σ : ST} {kd : Nat → Nat} {go : Nat → Nat → Nat} {N v a : Nat} {T : Nat → Nat → Nat → Nat} (hM : Mc σ N kd go) (hT : Tab σ N T) (hR : RT σ go N v) (hv : v < 2 ^ N) (ha : a < N) : ∀ (n c m : Nat), N - c < n → c ≤ N → m ≤ 1000 →
    (∀ c' r, c' < c → v.testBit c' = false → gA σ 16 ((v ||| 2 ^ c') * 6 + c') = nI r → r ≤ 1000 → m ≤ T 0 a c' + r) → (m = 1000 ∨ ∃ c' r, c' < c ∧ v.testBit c' = false ∧ gA σ 16 ((v ||| 2 ^ c') * 6 + c') = nI r ∧ r ≤ 1000 ∧ m = T 0 a c' + r) →
    ∃ m', f_Ways_leastOfRound_L7 n (nI v) (nI a) (nI m) (nI c) σ = some (nI m') ∧ m' ≤ 1000 ∧ (∀ c' r, c' < N → v.testBit c' = false → gA σ 16 ((v ||| 2 ^ c') * 6 + c') = nI r → r ≤ 1000 → m' ≤ T 0 a c' + r) ∧ (m' = 1000 ∨ ∃ c' r, c' < N ∧ v.testBit c' = false ∧ gA σ 16 ((v ||| 2 ^ c') * 6 + c') = nI r ∧ r ≤ 1000 ∧ m' = T 0 a c' + r) := by
  have hN := hM.1
  have h64 := pow_le64 hN
  intro n
  induction n with
  | zero => intro c m h; omega
  | succ n ih =>
    intro c m hn hcN hm h1 h2
    rw [f_Ways_leastOfRound_L7, hM.2.1]
    by_cases hc : c < N
    · rw [if_neg (nI_ge hc (by omega)), isIn_dec v (by omega) c (by omega)]
      by_cases hb : v.testBit c = true
      · rw [if_pos hb, if_neg (by decide), nI_1]
        refine ih (c + 1) m (by omega) (by omega) hm (fun c' r q1 q2 q3 q4 => ?_) ?_
        · by_cases e : c' = c
          · subst e; rw [hb] at q2; cases q2
          · exact h1 c' r (by omega) q2 q3 q4
        · rcases h2 with h2 | ⟨c', r, q1, q2, q3, q4, q5⟩
          · exact Or.inl h2
          · exact Or.inr ⟨c', r, by omega, q2, q3, q4, q5⟩
      · rw [if_neg hb, if_pos rfl]
        have hb : v.testBit c = false := by simpa using hb
        have hvo := or_lt hv hc
        obtain ⟨r, e1, e2⟩ := hR (v ||| 2 ^ c) c (or_gt hb) hvo hc (by rw [tb_or]; simp)
        have hr := RI_le hN e2
        have ht := (hT 0 a c (by decide) ha hc).2
        have es : f_Table_get_8 (nI a) (nI c) σ + f_Ways_stepsOfRound (nI v ||| (1 : Int32) <<< (nI c &&& 31)) (nI c) σ = nI (T 0 a c + r) := by
          rw [tget_8 hT hN ha hc, bit1 c (by omega), fa_or, sor_ok (by omega) (by omega), e1, add_nI]
        rw [es, nI_1]
        have en : (if nI (T 0 a c + r) < nI m then nI (T 0 a c + r) else nI m) = nI (if T 0 a c + r < m then T 0 a c + r else m) := by
          by_cases q : T 0 a c + r < m
          · rw [if_pos (nI_lt q (by omega)), if_pos q]
          · rw [if_neg (nI_nlt (by omega) (by omega)), if_neg q]
        rw [en]
        refine ih (c + 1) _ (by omega) (by omega) ?_ (fun c' r' q1 q2 q3 q4 => ?_) ?_
        · by_cases q : T 0 a c + r < m
          · rw [if_pos q]; omega
          · rw [if_neg q]; omega
        · by_cases e : c' = c
          · subst e
            have er : r' = r := nI_inj (by omega) (by omega) (by rw [← q3, ← e1])
            subst er
            by_cases q : T 0 a c' + r' < m
            · rw [if_pos q]; omega
            · rw [if_neg q]; omega
          · have := h1 c' r' (by omega) q2 q3 q4
            by_cases q : T 0 a c + r < m
            · rw [if_pos q]; omega
            · rw [if_neg q]; omega
        · by_cases q : T 0 a c + r < m
          · rw [if_pos q]
            exact Or.inr ⟨c, r, by omega, hb, e1, hr, rfl⟩
          · rw [if_neg q]
            rcases h2 with h2 | ⟨c', r', q1, q2, q3, q4, q5⟩
            · exact Or.inl h2
            · exact Or.inr ⟨c', r', by omega, q2, q3, q4, q5⟩
    · have hce : c = N := by omega
      subst hce
      rw [if_pos (nI_le (Nat.le_refl _) (by omega))]
      exact ⟨m, rfl, hm, h1, h2⟩
theorem least_ok {σ : ST} {kd : Nat → Nat} {go : Nat → Nat → Nat} {N v a : Nat} {T : Nat → Nat → Nat → Nat} (hM : Mc σ N kd go) (hT : Tab σ N T) (hE : Texact kd go N T) (hR : RT σ go N v) (hv : v < 2 ^ N) (ha : a < N) (hnf : v ≠ 2 ^ N - 1) : ∃ m, f_Ways_leastOfRound (nI v) (nI a) σ = some (nI m) ∧ (v.testBit a = true → RI go N v a m) := by
  have hN := hM.1
  have hgo : ∀ c w, c < N → w < 2 → go c w < N := fun c w hc hw => go_lt hM hc hw
  obtain ⟨m, e1, hm, h1, h2⟩ := least_loop hM hT hR hv ha 400 0 1000 (by omega) (by omega) (Nat.le_refl _) (fun c' r q => by omega) (Or.inl rfl)
  refine ⟨m, ?_, fun hva => ?_⟩
  · unfold f_Ways_leastOfRound
    have e1' : f_Ways_leastOfRound_L7 400 (nI v) (nI a) 1000 0 σ = some (nI m) := e1
    rw [e1']
    rfl
  · have hnfull : ¬ (∀ c, c < N → v.testBit c = true) := fun z => hnf ((full_eq hv).mp z)
    -- every covering walk gives a finite sum below it
    have low : ∀ j, cv go N j v a → m ≤ j ∧ m ≤ 5 * un v N := by
      intro j hj
      obtain ⟨c, j1, c1, c2, c3, c4, c5⟩ := cv_split (kd := kd) hgo j v a ha hva hj hnfull
      obtain ⟨r, r1, r2⟩ := hR (v ||| 2 ^ c) c (or_gt c2) (or_lt hv c1) c1 (by rw [tb_or]; simp)
      have hr := RI_le hN r2
      have hle := h1 c r c1 c2 r1 hr
      have ht := hE 0 a c (by decide) ha c1
      have ht1 : T 0 a c ≤ j1 ∧ T 0 a c < 1000 := by
        rcases ht with ⟨-, q2, q3⟩ | ⟨-, q2⟩
        · exact ⟨q3 j1 ⟨j1, c4⟩, q2⟩
        · exact absurd ⟨j1, c4⟩ (q2 j1)
      have ht2 := (dist_lt hgo ha ht ht1.2).1
      have hu := (un_or c2 N).1 c1
      rcases r2 with ⟨-, s2, s3⟩ | ⟨-, s2⟩
      · have := s2 _ c5
        exact ⟨by omega, by omega⟩
      · exact absurd c5 (s2 _)
    rcases h2 with h2 | ⟨c, r, c1, c2, r1, r2, hme⟩
    · refine Or.inr ⟨h2, fun j hj => ?_⟩
      have := (low j hj).2
      have := un_le v N
      omega
    · by_cases hlt : m < 1000
      · obtain ⟨r', r1', r2'⟩ := hR (v ||| 2 ^ c) c (or_gt c2) (or_lt hv c1) c1 (by rw [tb_or]; simp)
        have er : r' = r := nI_inj (by have := RI_le hN r2'; omega) (by omega) (by rw [← r1', ← r1])
        subst er
        have ht := hE 0 a c (by decide) ha c1
        have hd := dist_lt hgo ha ht (by omega)
        rcases r2' with ⟨s1, s2, s3⟩ | ⟨s1, -⟩
        · have hcv : cv go N m v a := by
            rw [hme]
            exact cv_join _ _ _ _ _ hva hd.2 s1
          exact Or.inl ⟨hcv, fun j hj => (low j hj).1, (low m hcv).2⟩
        · omega
      · refine Or.inr ⟨by omega, fun j hj => ?_⟩
        have := (low j hj).2
        have := un_le v N
        omega
theorem RI_full {go : Nat → Nat → Nat} {N a : Nat} : RI go N (2 ^ N - 1) a 0 := by
  refine Or.inl ⟨fun c hc => ?_, fun j _ => Nat.zero_le _, Nat.zero_le _⟩
  rw [Nat.testBit_two_pow_sub_one]
  simp [hc]
/-- the row of one set -/
def RW (σ : ST) (go : Nat → Nat → Nat) (N v a : Nat) : Prop := ∀ x, x < a → v.testBit x = true → ∃ r, gA σ 16 (v * 6 + x) = nI r ∧ RI go N v x r
theorem KaR {σ : ST} {k : Nat} {v : Int32} : Ka σ (sA σ 16 k v) isR := Ka.sA rfl
theorem RT_put {σ : ST} {go : Nat → Nat → Nat} {N v a : Nat} {x : Int32} (hN : N ≤ 6) (ha : a < N) (h : RT σ go N v) : RT (sA σ 16 (v * 6 + a) x) go N v := by
  intro v' b h1 h2 h3 h4
  rw [gA_sA', if_neg (fun z => by omega)]
  exact h v' b h1 h2 h3 h4
theorem RW_put {σ : ST} {go : Nat → Nat → Nat} {N v a r : Nat} (h : RW σ go N v a) (hr : v.testBit a = true → RI go N v a r) : RW (sA σ 16 (v * 6 + a) (nI r)) go N v (a + 1) := by
  intro x hx hb
  rw [gA_sA']
  by_cases e : x = a
  · subst e
    rw [if_pos ⟨rfl, rfl⟩]
    exact ⟨r, rfl, hr hb⟩
  · rw [if_neg (fun z => e (by omega))]
    exact h x (by omega) hb
theorem row_loop {kd : Nat → Nat} {go : Nat → Nat → Nat} {N v : Nat} {T : Nat → Nat → Nat → Nat} (hE : Texact kd go N T) (hv : v < 2 ^ N) : ∀ (n a : Nat) (σ : ST), N - a < n → a ≤ N → Mc σ N kd go → Tab σ N T → RT σ go N v → RW σ go N v a →
    ∃ σ', f_Ways_workOutRounds_L20 n (nI (2 ^ N - 1)) (nI v) (nI a) σ = some σ' ∧ Mc σ' N kd go ∧ Tab σ' N T ∧ RT σ' go N v ∧ RW σ' go N v N ∧ Ka σ σ' isR := by
  intro n
  induction n with
  | zero => intro a σ h; omega
  | succ n ih =>
    intro a σ hn haN hM hT hR hW
    have hN := hM.1
    have h64 := pow_le64 hN
    rw [f_Ways_workOutRounds_L20, hM.2.1]
    have nS : ∀ i, i < 4 → ¬ isR (12 + i) := fun i hi => by unfold isR; omega
    by_cases ha : a < N
    · rw [if_neg (nI_ge ha (by omega))]
      by_cases hf : v = 2 ^ N - 1
      · rw [if_pos (by rw [hf]), l_6, mul_nI, add_nI, put_in (by omega) (by decide), nI_1]
        obtain ⟨σ', f1, f2, f3, f4, f5, f6⟩ := ih (a + 1) (sA σ 16 (v * 6 + a) (nI 0)) (by omega) (by omega) (hM.keep KaR (by unfold isR; omega) (by unfold isR; omega) (by unfold isR; omega)) (hT.keep KaR nS) (RT_put hN ha hR) (RW_put hW (fun _ => by rw [hf]; exact RI_full))
        exact ⟨σ', f1, f2, f3, f4, f5, KaR.tr f6⟩
      · rw [if_neg (fun z => hf (nI_inj (by omega) (by omega) z))]
        obtain ⟨m, e1, e2⟩ := least_ok hM hT hE hR hv ha hf
        rw [e1]
        show ∃ σ', f_Ways_workOutRounds_L20 n (nI (2 ^ N - 1)) (nI v) (nI a + 1) (putF 384 16 (nI v * 6 + nI a) (nI m) σ) = some σ' ∧ _
        rw [l_6, mul_nI, add_nI, put_in (by omega) (by decide), nI_1]
        obtain ⟨σ', f1, f2, f3, f4, f5, f6⟩ := ih (a + 1) (sA σ 16 (v * 6 + a) (nI m)) (by omega) (by omega) (hM.keep KaR (by unfold isR; omega) (by unfold isR; omega) (by unfold isR; omega)) (hT.keep KaR nS) (RT_put hN ha hR) (RW_put hW e2)
        exact ⟨σ', f1, f2, f3, f4, f5, KaR.tr f6⟩
    · have hae : a = N := by omega
      subst hae
      rw [if_pos (nI_le (Nat.le_refl _) (by omega))]
      exact ⟨σ, rfl, hM, hT, hR, hW, Ka.rf⟩
theorem sets_loop {kd : Nat → Nat} {go : Nat → Nat → Nat} {N : Nat} {T : Nat → Nat → Nat → Nat} (hE : Texact kd go N T) : ∀ (n v : Nat) (σ : ST), v < n → v < 2 ^ N → Mc σ N kd go → Tab σ N T → RT σ go N v →
    ∃ σ', f_Ways_workOutRounds_L14 n (nI (2 ^ N - 1)) (nI v) σ = some σ' ∧ Mc σ' N kd go ∧ Tab σ' N T ∧ RT σ' go N 0 ∧ Ka σ σ' isR := by
  intro n
  induction n with
  | zero => intro v σ h; omega
  | succ n ih =>
    intro v σ hn hv hM hT hR
    have hN := hM.1
    have h64 := pow_le64 hN
    rw [f_Ways_workOutRounds_L14]
    rcases Nat.eq_zero_or_pos v with h0 | h0
    · subst h0
      rw [if_pos (show nI 0 ≤ 0 by decide)]
      exact ⟨σ, rfl, hM, hT, hR, Ka.rf⟩
    · rw [if_neg (nI_nle h0 (by omega))]
      obtain ⟨σ1, e1, hM1, t1, r1, w1, k1⟩ := row_loop hE hv 400 0 σ (by omega) (by omega) hM hT hR (fun x hx => by omega)
      have e1' : f_Ways_workOutRounds_L20 400 (nI (2 ^ N - 1)) (nI v) 0 σ = some σ1 := e1
      rw [e1']
      show ∃ σ', f_Ways_workOutRounds_L14 n (nI (2 ^ N - 1)) (nI v + (-1)) σ1 = some σ' ∧ _
      rw [sb_m1 h0]
      obtain ⟨σ', f1, f2, f3, f4, f5⟩ := ih (v - 1) σ1 (by omega) (by omega) hM1 t1 (by
        intro v' a q1 q2 q3 q4
        by_cases e : v' = v
        · subst e; exact w1 a q3 q4
        · exact r1 v' a (by omega) q2 q3 q4)
      exact ⟨σ', f1, f2, f3, f4, k1.tr f5⟩
theorem rounds_ok {σ : ST} {kd : Nat → Nat} {go : Nat → Nat → Nat} {N : Nat} {T : Nat → Nat → Nat → Nat} (hE : Texact kd go N T) (hM : Mc σ N kd go) (hT : Tab σ N T) : ∃ σ', f_Ways_workOutRounds σ = some σ' ∧ Mc σ' N kd go ∧ Tab σ' N T ∧ RT σ' go N 0 ∧ Ka σ σ' isR := by
  have hN := hM.1
  have h64 := pow_le64 hN
  have hp : 0 < 2 ^ N := Nat.pow_pos (by decide)
  obtain ⟨σ', f1, f2, f3, f4, f5⟩ := sets_loop hE 400 (2 ^ N - 1) σ (by omega) (by omega) hM hT (fun v' a q1 q2 => by omega)
  refine ⟨σ', ?_, f2, f3, f4, f5⟩
  unfold f_Ways_workOutRounds
  rw [hM.2.1, allb N (by omega), f1]
  rfl
def isW (a : Nat) : Prop := 12 ≤ a ∧ a < 17
/-- all that a mine's reading works out -/
theorem workOut_ok {σ : ST} {kd : Nat → Nat} {go : Nat → Nat → Nat} {N : Nat} (hM : Mc σ N kd go) : ∃ σ' T, f_Ways_workOut σ = some σ' ∧ Mc σ' N kd go ∧ Tab σ' N T ∧ Texact kd go N T ∧ RT σ' go N 0 ∧ Ka σ σ' isW := by
  obtain ⟨σ1, σ2, T, e1, e2, hM2, t2, x2, k2⟩ := tables_ok hM
  obtain ⟨σ', f1, f2, f3, f4, f5⟩ := rounds_ok x2 hM2 t2
  refine ⟨σ', T, ?_, f2, f3, x2, f4, (k2.mono (fun a h => by unfold isT at h; unfold isW; omega)).tr (f5.mono (fun a h => by unfold isR at h; unfold isW; omega))⟩
  unfold f_Ways_workOut
  rw [e1]
  show (f_Ways_workOut_L8 400 1 0 σ1).bind _ = _
  rw [e2]
  show (f_Ways_workOutRounds σ2).bind _ = _
  rw [f1]
  rfl
