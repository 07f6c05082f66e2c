/-! SETS of crossings as bits; walks that come to all -/
theorem fa_and (a b : Nat) : nI a &&& nI b = nI (a &&& b) := by
  apply Int32.toBitVec_inj.1
  show BitVec.ofNat 32 a &&& BitVec.ofNat 32 b = BitVec.ofNat 32 (a &&& b)
  apply BitVec.eq_of_getLsbD_eq
  intro i hi
  simp [hi]
theorem fa_or (a b : Nat) : nI a ||| nI b = nI (a ||| b) := by
  apply Int32.toBitVec_inj.1
  show BitVec.ofNat 32 a ||| BitVec.ofNat 32 b = BitVec.ofNat 32 (a ||| b)
  apply BitVec.eq_of_getLsbD_eq
  intro i hi
  simp [hi]
theorem bit1 : ∀ c, c < 7 → (1 : Int32) <<< (nI c &&& 31) = nI (2 ^ c) := by decide +kernel
theorem allb : ∀ N, N < 7 → (1 : Int32) <<< (nI N &&& 31) - 1 = nI (2 ^ N - 1) := by decide +kernel
theorem isIn_dec : ∀ v, v < 64 → ∀ c, c < 6 → f_Mine_isIn (nI v) (nI c) = if v.testBit c = true then 1 else 0 := by decide +kernel
theorem shr_dec : ∀ v, v < 64 → ∀ c, c < 6 → (((nI v >>> (nI c &&& 31)) &&& 1 = 1) ↔ v.testBit c = true) := by decide +kernel
theorem tb_or (v c i : Nat) : (v ||| 2 ^ c).testBit i = (v.testBit i || decide (c = i)) := by
  rw [Nat.testBit_or, Nat.testBit_two_pow]
theorem or_lt {N v c : Nat} (hv : v < 2 ^ N) (hc : c < N) : v ||| 2 ^ c < 2 ^ N := Nat.or_lt_two_pow hv (Nat.pow_lt_pow_right (by decide) hc)
theorem or_same {v c : Nat} (h : v.testBit c = true) : v ||| 2 ^ c = v := by
  apply Nat.eq_of_testBit_eq
  intro i
  rw [tb_or]
  by_cases e : c = i
  · subst e; rw [h]; rfl
  · simp [e]
theorem or_gt {v c : Nat} (h : v.testBit c = false) : v < v ||| 2 ^ c := by
  have h1 : v ≤ v ||| 2 ^ c := Nat.left_le_or
  rcases Nat.lt_or_ge v (v ||| 2 ^ c) with q | q
  · exact q
  · have e : v = v ||| 2 ^ c := by omega
    have : (v ||| 2 ^ c).testBit c = true := by rw [tb_or]; simp
    rw [← e, h] at this
    cases this
theorem full_eq {N v : Nat} (hv : v < 2 ^ N) : (∀ c, c < N → v.testBit c = true) ↔ v = 2 ^ N - 1 := by
  constructor
  · intro h
    apply Nat.eq_of_testBit_eq
    intro i
    rw [Nat.testBit_two_pow_sub_one]
    by_cases hi : i < N
    · rw [h i hi]; simp [hi]
    · have : v.testBit i = false := Nat.testBit_lt_two_pow (Nat.lt_of_lt_of_le hv (Nat.pow_le_pow_right (by decide) (by omega)))
      rw [this]; simp [hi]
  · intro h c hc
    rw [h, Nat.testBit_two_pow_sub_one]
    simp [hc]
/-- how many of the first n are not in v -/
def un (v : Nat) : Nat → Nat
  | 0 => 0
  | n + 1 => un v n + (if v.testBit n = true then 0 else 1)
theorem un_or {v c : Nat} (h : v.testBit c = false) : ∀ n, (c < n → un (v ||| 2 ^ c) n + 1 = un v n) ∧ (n ≤ c → un (v ||| 2 ^ c) n = un v n) := by
  intro n
  induction n with
  | zero => exact ⟨fun q => by omega, fun _ => rfl⟩
  | succ n ih =>
    have e1 : un (v ||| 2 ^ c) (n + 1) = un (v ||| 2 ^ c) n + (if (v ||| 2 ^ c).testBit n = true then 0 else 1) := rfl
    have e2 : un v (n + 1) = un v n + (if v.testBit n = true then 0 else 1) := rfl
    rw [e1, e2, tb_or]
    by_cases e : c = n
    · subst e
      have := ih.2 (Nat.le_refl _)
      rw [h]
      simp
      omega
    · have e3 : (v.testBit n || decide (c = n)) = v.testBit n := by simp [e]
      rw [e3]
      exact ⟨fun q => by have := ih.1 (by omega); omega, fun q => by have := ih.2 (by omega); omega⟩
theorem un_le (v : Nat) : ∀ n, un v n ≤ n := by
  intro n
  induction n with
  | zero => exact Nat.le_refl 0
  | succ n ih =>
    have e2 : un v (n + 1) = un v n + (if v.testBit n = true then 0 else 1) := rfl
    rw [e2]
    by_cases e : v.testBit n = true
    · rw [if_pos e]; omega
    · rw [if_neg e]; omega
theorem un_lt {v c : Nat} (h : v.testBit c = true) : ∀ n, c < n → un v n < n := by
  intro n
  induction n with
  | zero => intro q; omega
  | succ n ih =>
    intro q
    have e2 : un v (n + 1) = un v n + (if v.testBit n = true then 0 else 1) := rfl
    rw [e2]
    by_cases e : c = n
    · subst e
      rw [if_pos h]
      have := un_le v c
      omega
    · have := ih (by omega)
      by_cases e : v.testBit n = true
      · rw [if_pos e]; omega
      · rw [if_neg e]; omega
theorem un_zero {v : Nat} : ∀ n, un v n = 0 → ∀ c, c < n → v.testBit c = true := by
  intro n
  induction n with
  | zero => intro _ c hc; omega
  | succ n ih =>
    intro h c hc
    have e2 : un v (n + 1) = un v n + (if v.testBit n = true then 0 else 1) := rfl
    rw [e2] at h
    by_cases e : v.testBit n = true
    · rw [if_pos e] at h
      by_cases q : c = n
      · subst q; exact e
      · exact ih h c (by omega)
    · rw [if_neg e] at h; omega
/-- a walk of k steps from at, the crossings of v come to already, comes to all of N -/
def cv (go : Nat → Nat → Nat) (N : Nat) : Nat → Nat → Nat → Prop
  | 0, v, _ => ∀ c, c < N → v.testBit c = true
  | k + 1, v, at_ => ∃ w, w < 2 ∧ cv go N k (v ||| 2 ^ (go at_ w)) (go at_ w)
theorem cv_mono {go : Nat → Nat → Nat} {N : Nat} : ∀ (k v v' a : Nat), (∀ c, v.testBit c = true → v'.testBit c = true) → cv go N k v a → cv go N k v' a := by
  intro k
  induction k with
  | zero => intro v v' a h hc c hcN; exact h c (hc c hcN)
  | succ k ih =>
    intro v v' a h hc
    obtain ⟨w, hw, h2⟩ := hc
    refine ⟨w, hw, ih _ _ _ (fun c hcc => ?_) h2⟩
    rw [tb_or] at hcc ⊢
    rcases Bool.or_eq_true _ _ |>.mp hcc with q | q
    · rw [h c q]; rfl
    · rw [q]; simp
/-- walks of steps alone: edges of table 0 -/
theorem ow0_succ {kd : Nat → Nat} {go : Nat → Nat → Nat} {k w a c : Nat} : ow (Ee kd go 0) (Gg kd 0) (k + 1) w a c ↔ ∃ x, x < 2 ∧ 1 ≤ w ∧ ow (Ee kd go 0) (Gg kd 0) k (w - 1) (go a x) c := by
  constructor
  · intro h
    obtain ⟨e, he, h1, h2⟩ := h
    unfold Ee Ew at he
    simp at he
    rcases he with rfl | rfl
    · exact ⟨0, by decide, h1, h2⟩
    · exact ⟨1, by decide, h1, h2⟩
  · intro h
    obtain ⟨x, hx, h1, h2⟩ := h
    refine ⟨(1, go a x, c), ?_, h1, h2⟩
    unfold Ee Ew
    rcases (show x = 0 ∨ x = 1 by omega) with q | q <;> subst q <;> simp
theorem ow0_len {kd : Nat → Nat} {go : Nat → Nat → Nat} : ∀ (k w a c : Nat), ow (Ee kd go 0) (Gg kd 0) k w a c → w = k := by
  intro k
  induction k with
  | zero => intro w a c h; exact h.2
  | succ k ih =>
    intro w a c h
    obtain ⟨x, hx, h1, h2⟩ := ow0_succ.mp h
    have := ih _ _ _ h2
    omega
theorem cv_split {kd : Nat → Nat} {go : Nat → Nat → Nat} {N : Nat} (hgo : ∀ c w, c < N → w < 2 → go c w < N) : ∀ (k v a : Nat), a < N → v.testBit a = true → cv go N k v a → ¬ (∀ c, c < N → v.testBit c = true) → ∃ c j, c < N ∧ v.testBit c = false ∧ j ≤ k ∧ ow (Ee kd go 0) (Gg kd 0) j j a c ∧ cv go N (k - j) (v ||| 2 ^ c) c := by
  intro k
  induction k with
  | zero => intro v a _ _ h hn; exact absurd h hn
  | succ k ih =>
    intro v a ha hva h hn
    obtain ⟨w, hw, h2⟩ := h
    have hx := hgo a w ha hw
    by_cases q : v.testBit (go a w) = true
    · rw [or_same q] at h2
      obtain ⟨c, j, c1, c2, c3, c4, c5⟩ := ih v (go a w) hx q h2 hn
      refine ⟨c, j + 1, c1, c2, by omega, ow0_succ.mpr ⟨w, hw, by omega, by rwa [Nat.add_sub_cancel]⟩, ?_⟩
      rwa [Nat.add_sub_add_right]
    · have q : v.testBit (go a w) = false := by simpa using q
      refine ⟨go a w, 1, hx, q, by omega, ow0_succ.mpr ⟨w, hw, by omega, ?_, rfl⟩, ?_⟩
      · rfl
      · rw [Nat.add_sub_cancel]; exact h2
theorem cv_join {kd : Nat → Nat} {go : Nat → Nat → Nat} {N : Nat} : ∀ (j k v a c : Nat), v.testBit a = true → ow (Ee kd go 0) (Gg kd 0) j j a c → cv go N k (v ||| 2 ^ c) c → cv go N (j + k) v a := by
  intro j
  induction j with
  | zero =>
    intro k v a c hva h hc
    have e : a = c := h.1
    subst e
    rw [or_same hva] at hc
    rwa [Nat.zero_add]
  | succ j ih =>
    intro k v a c hva h hc
    obtain ⟨w, hw, -, h2⟩ := ow0_succ.mp h
    rw [Nat.add_sub_cancel] at h2
    rw [show j + 1 + k = (j + k) + 1 by omega]
    refine ⟨w, hw, ih k _ _ c (by rw [tb_or]; simp) h2 (cv_mono k _ _ _ (fun i hi => ?_) hc)⟩
    rw [tb_or] at hi ⊢
    rw [tb_or]
    rcases Bool.or_eq_true _ _ |>.mp hi with q | q
    · rw [q]; simp
    · rw [q]; simp
/-- r is the least number of steps to come to all, and not too large; or 1000: there is none -/
def RI (go : Nat → Nat → Nat) (N v a r : Nat) : Prop := (cv go N r v a ∧ (∀ j, cv go N j v a → r ≤ j) ∧ r ≤ 5 * un v N) ∨ (r = 1000 ∧ ∀ j, ¬ cv go N j v a)
/-- edges that keep the second number: fewer steps than crossings -/
theorem sh_lt1 {E : Nat → Nat → List ED} {G : Nat → Nat → Prop} {N k v a b : Nat} (hE : ∀ a b, a < N → ∀ e ∈ E a b, e.2.1 < N ∧ e.2.2 = b) (ha : a < N) (h : sh E G k v a b) : k < N := by
  have all : ∀ (k v a : Nat), a < N → sh E G k v a b → ∀ j, j ≤ k → ∃ a' v', a' < N ∧ sh E G j v' a' b := by
    intro k
    induction k with
    | zero =>
      intro v a ha h j hj
      have : j = 0 := by omega
      subst this
      exact ⟨a, v, ha, h⟩
    | succ k ih =>
      intro v a ha h j hj
      by_cases e : j = k + 1
      · subst e
        exact ⟨a, v, ha, h⟩
      · obtain ⟨ed, hed, v', h'⟩ := sh_step h
        have hc := hE a b ha ed hed
        rw [hc.2] at h'
        exact ih v' _ hc.1 h' j (by omega)
  have hx : ∀ j, ∃ q : Nat, j ≤ k → q < N ∧ ∃ v', sh E G j v' q b := by
    intro j
    by_cases hj : j ≤ k
    · obtain ⟨a', v', h1, h3⟩ := all k v a ha h j hj
      exact ⟨a', fun _ => ⟨h1, v', h3⟩⟩
    · exact ⟨0, fun q => absurd q hj⟩
  obtain ⟨f, hf⟩ := Classical.axiomOfChoice hx
  have := fb_holes N (k + 1) f (fun i hi => (hf i (by omega)).1) (by
    intro i j hij hj heq
    obtain ⟨h1, v1, h3⟩ := hf i (by omega)
    obtain ⟨g1, v2, g3⟩ := hf j (by omega)
    rw [heq] at h3
    have := sh_unique h3 g3
    omega)
  omega
theorem E01 {kd : Nat → Nat} {go : Nat → Nat → Nat} {N i : Nat} (hi : i < 2) (hgo : ∀ c w, c < N → w < 2 → go c w < N) : ∀ a b, a < N → ∀ e ∈ Ee kd go i a b, e.2.1 < N ∧ e.2.2 = b := by
  intro a b ha e he
  unfold Ee Ew at he
  rcases (show i = 0 ∨ i = 1 by omega) with q | q
  · subst q
    simp at he
    rcases he with rfl | rfl
    · exact ⟨hgo a 0 ha (by decide), rfl⟩
    · exact ⟨hgo a 1 ha (by decide), rfl⟩
  · subst q
    simp at he
    rcases he with rfl | rfl
    · exact ⟨hgo a 0 ha (by decide), rfl⟩
    · exact ⟨hgo a 1 ha (by decide), rfl⟩
/-- a least number of steps is below N -/
theorem dist_lt {kd : Nat → Nat} {go : Nat → Nat → Nat} {N a c v : Nat} (hgo : ∀ c w, c < N → w < 2 → go c w < N) (ha : a < N) (h : Lst (oc (Ee kd go 0) (Gg kd 0) a c) 1000 v) (hv : v < 1000) : v < N ∧ ow (Ee kd go 0) (Gg kd 0) v v a c := by
  rcases h with ⟨⟨k, hk⟩, h2, h3⟩ | ⟨h1, -⟩
  · have e := ow0_len _ _ _ _ hk
    subst e
    refine ⟨?_, hk⟩
    obtain ⟨k', v', hsh⟩ := sh_ex hk
    have l1 := sh_lt1 (E01 (by decide) hgo) ha hsh
    have l2 := h3 v' ⟨k', hsh.1⟩
    have l3 := ow0_len _ _ _ _ hsh.1
    omega
  · omega
