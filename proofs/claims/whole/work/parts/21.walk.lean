/-! WALKS: a system of states (two numbers), edges with their costs, goals -/
theorem fb_holes : ∀ (m n : Nat) (f : Nat → Nat), (∀ i, i < n → f i < m) → (∀ i j, i < j → j < n → f i ≠ f j) → n ≤ m := by
  intro m
  induction m with
  | zero =>
    intro n f h1 _
    rcases Nat.eq_zero_or_pos n with h | h
    · omega
    · exact absurd (h1 0 h) (Nat.not_lt_zero _)
  | succ m ih =>
    intro n f h1 h2
    by_cases hx : ∃ i, i < n ∧ f i = m
    · obtain ⟨a, ha, hfa⟩ := hx
      have hg := ih (n - 1) (fun i => if i < a then f i else f (i + 1)) (by
        intro i hi
        by_cases q : i < a
        · simp only [if_pos q]
          have b1 := h1 i (by omega)
          have b2 := h2 i a q ha
          omega
        · simp only [if_neg q]
          have b1 := h1 (i + 1) (by omega)
          have b2 := h2 a (i + 1) (by omega) (by omega)
          omega) (by
        intro i j hij hj
        by_cases q : i < a
        · by_cases r : j < a
          · simp only [if_pos q, if_pos r]
            exact h2 i j hij (by omega)
          · simp only [if_pos q, if_neg r]
            exact h2 i (j + 1) (by omega) (by omega)
        · have r : ¬ j < a := by omega
          simp only [if_neg q, if_neg r]
          exact h2 (i + 1) (j + 1) (by omega) (by omega))
      omega
    · have hg := ih n f (fun i hi => by
        have b1 := h1 i hi
        have b2 : f i ≠ m := fun e => hx ⟨i, hi, e⟩
        omega) h2
      omega
/-- an edge: cost, then the state that it leads to -/
abbrev ED : Type := Nat × Nat × Nat
/-- a walk of k edges and cost w from (a, b) to a goal -/
def ow (E : Nat → Nat → List ED) (G : Nat → Nat → Prop) : Nat → Nat → Nat → Nat → Prop
  | 0, w, a, b => G a b ∧ w = 0
  | k + 1, w, a, b => ∃ e ∈ E a b, e.1 ≤ w ∧ ow E G k (w - e.1) e.2.1 e.2.2
/-- some walk of cost w -/
def oc (E : Nat → Nat → List ED) (G : Nat → Nat → Prop) (a b w : Nat) : Prop := ∃ k, ow E G k w a b
/-- v is the least with P, below inf; or there is none, and v is inf -/
def Lst (P : Nat → Prop) (inf v : Nat) : Prop := (P v ∧ v < inf ∧ ∀ j, P j → v ≤ j) ∨ (v = inf ∧ ∀ j, ¬ P j)
theorem Lst.one {P : Nat → Prop} {i1 i2 v1 v2 : Nat} (h1 : Lst P i1 v1) (h2 : Lst P i2 v2) : (v1 = v2 ∧ v1 < i1 ∧ v2 < i2 ∧ P v1) ∨ (v1 = i1 ∧ v2 = i2 ∧ ∀ j, ¬ P j) := by
  rcases h1 with ⟨a1, a2, a3⟩ | ⟨a1, a2⟩
  · rcases h2 with ⟨b1, b2, b3⟩ | ⟨b1, b2⟩
    · have := a3 _ b1
      have := b3 _ a1
      exact Or.inl ⟨by omega, a2, b2, a1⟩
    · exact absurd a1 (b2 _)
  · rcases h2 with ⟨b1, b2, b3⟩ | ⟨b1, b2⟩
    · exact absurd b1 (a2 _)
    · exact Or.inr ⟨a1, b1, a2⟩
theorem Lst.same {P Q : Nat → Prop} {i v : Nat} (h : ∀ j, P j ↔ Q j) (hp : Lst P i v) : Lst Q i v := by
  rcases hp with ⟨a1, a2, a3⟩ | ⟨a1, a2⟩
  · exact Or.inl ⟨(h v).mp a1, a2, fun j hj => a3 j ((h j).mpr hj)⟩
  · exact Or.inr ⟨a1, fun j hj => a2 j ((h j).mpr hj)⟩
section WALK
variable {E : Nat → Nat → List ED} {G : Nat → Nat → Prop} {N : Nat}
/-- the states stay below N -/
def Clo (E : Nat → Nat → List ED) (N : Nat) : Prop := ∀ a b, a < N → b < N → ∀ e ∈ E a b, e.2.1 < N ∧ e.2.2 < N
/-- of the cheapest walks the shortest has k edges -/
def sh (E : Nat → Nat → List ED) (G : Nat → Nat → Prop) (k v a b : Nat) : Prop := ow E G k v a b ∧ (∀ j w, ow E G j w a b → v ≤ w) ∧ ∀ j, ow E G j v a b → k ≤ j
theorem sh_ex {a b k w : Nat} (h : ow E G k w a b) : ∃ k' v, sh E G k' v a b := by
  obtain ⟨v, ⟨k1, h1⟩, h2⟩ := pk_least (fun w => ∃ k, ow E G k w a b) ⟨w, k, h⟩
  obtain ⟨k2, h3, h4⟩ := pk_least (fun k => ow E G k v a b) ⟨k1, h1⟩
  refine ⟨k2, v, h3, fun j w hw => ?_, fun j hj => ?_⟩
  · rcases Nat.lt_or_ge w v with q | q
    · exact absurd ⟨j, hw⟩ (h2 w q)
    · exact q
  · rcases Nat.lt_or_ge j k2 with q | q
    · exact absurd hj (h4 j q)
    · exact q
theorem sh_step {a b k v : Nat} (h : sh E G (k + 1) v a b) : ∃ e ∈ E a b, ∃ v', sh E G k v' e.2.1 e.2.2 := by
  obtain ⟨⟨e, he, h1, h2⟩, h3, h4⟩ := h
  refine ⟨e, he, v - e.1, h2, fun j w hw => ?_, fun j hj => ?_⟩
  · have := h3 (j + 1) (w + e.1) ⟨e, he, by omega, by rwa [Nat.add_sub_cancel]⟩
    omega
  · have := h4 (j + 1) ⟨e, he, h1, hj⟩
    omega
/-- along such a walk every length comes -/
theorem sh_all : ∀ (k v a b : Nat), Clo E N → a < N → b < N → sh E G k v a b → ∀ j, j ≤ k → ∃ a' b' v', a' < N ∧ b' < N ∧ sh E G j v' a' b' := by
  intro k
  induction k with
  | zero =>
    intro v a b hC ha hb h j hj
    have : j = 0 := by omega
    subst this
    exact ⟨a, b, v, ha, hb, h⟩
  | succ k ih =>
    intro v a b hC ha hb h j hj
    by_cases e : j = k + 1
    · subst e
      exact ⟨a, b, v, ha, hb, h⟩
    · obtain ⟨ed, hed, v', h'⟩ := sh_step h
      have hc := hC a b ha hb ed hed
      exact ih v' _ _ hC hc.1 hc.2 h' j (by omega)
theorem sh_unique {k k' v v' a b : Nat} (h : sh E G k v a b) (h' : sh E G k' v' a b) : k = k' := by
  have e1 := h.2.1 _ _ h'.1
  have e2 := h'.2.1 _ _ h.1
  have : v = v' := by omega
  subst this
  have e3 := h.2.2 _ h'.1
  have e4 := h'.2.2 _ h.1
  omega
/-- fewer edges than states -/
theorem sh_lt {k v a b : Nat} (hC : Clo E N) (ha : a < N) (hb : b < N) (h : sh E G k v a b) : k < N * N := by
  have hall := sh_all k v a b hC ha hb h
  have hx : ∀ j, ∃ q : Nat × Nat, j ≤ k → q.1 < N ∧ q.2 < N ∧ ∃ v', sh E G j v' q.1 q.2 := by
    intro j
    by_cases hj : j ≤ k
    · obtain ⟨a', b', v', h1, h2, h3⟩ := hall j hj
      exact ⟨(a', b'), fun _ => ⟨h1, h2, v', h3⟩⟩
    · exact ⟨(0, 0), fun q => absurd q hj⟩
  obtain ⟨f, hf⟩ := Classical.axiomOfChoice hx
  have := fb_holes (N * N) (k + 1) (fun j => N * (f j).1 + (f j).2) (by
    intro i hi
    obtain ⟨h1, h2, -⟩ := hf i (by omega)
    calc N * (f i).1 + (f i).2 < N * (f i).1 + N := by omega
      _ = N * ((f i).1 + 1) := by rw [Nat.mul_succ]
      _ ≤ N * N := Nat.mul_le_mul_left _ h1) (by
    intro i j hij hj heq
    obtain ⟨h1, h2, v1, h3⟩ := hf i (by omega)
    obtain ⟨g1, g2, v2, g3⟩ := hf j (by omega)
    have heq : N * (f i).1 + (f i).2 = N * (f j).1 + (f j).2 := heq
    have hN : 0 < N := by omega
    have e1 : (f i).1 = (f j).1 := by
      have q1 : (N * (f i).1 + (f i).2) / N = (f i).1 := by rw [Nat.mul_add_div hN, Nat.div_eq_of_lt h2]; rfl
      have q2 : (N * (f j).1 + (f j).2) / N = (f j).1 := by rw [Nat.mul_add_div hN, Nat.div_eq_of_lt g2]; rfl
      rw [← q1, ← q2, heq]
    have e2 : (f i).2 = (f j).2 := by rw [e1] at heq; omega
    rw [e1, e2] at h3
    have := sh_unique h3 g3
    omega)
  omega
/-- the table's values are costs of walks -/
def Snd (E : Nat → Nat → List ED) (G : Nat → Nat → Prop) (N : Nat) (t : Nat → Nat → Nat) : Prop := ∀ a b, a < N → b < N → t a b ≤ 1000 ∧ (t a b < 1000 → oc E G a b (t a b))
/-- the table's values are below the costs of walks of at most r edges -/
def Cmp (E : Nat → Nat → List ED) (G : Nat → Nat → Prop) (N r : Nat) (t : Nat → Nat → Nat) : Prop := ∀ k w a b, k ≤ r → a < N → b < N → ow E G k w a b → t a b ≤ w
theorem exact_of {t : Nat → Nat → Nat} {r : Nat} (hC : Clo E N) (hs : Snd E G N t) (hr : N * N ≤ r + 1) (hc : Cmp E G N r t) (hb : ∀ a b w, a < N → b < N → oc E G a b w → ∃ w', w' ≤ w ∧ oc E G a b w' ∧ w' < 1000) : ∀ a b, a < N → b < N → Lst (oc E G a b) 1000 (t a b) := by
  intro a b ha hb2
  obtain ⟨h1, h2⟩ := hs a b ha hb2
  have low : ∀ j, oc E G a b j → t a b ≤ j := by
    intro j ⟨k, hk⟩
    obtain ⟨k', v, hsh⟩ := sh_ex hk
    have l1 := sh_lt hC ha hb2 hsh
    have l2 := hc k' v a b (by omega) ha hb2 hsh.1
    have l3 := hsh.2.1 _ _ hk
    omega
  by_cases q : t a b < 1000
  · exact Or.inl ⟨h2 q, q, low⟩
  · refine Or.inr ⟨by omega, fun j hj => ?_⟩
    obtain ⟨w', l1, l2, l3⟩ := hb a b j ha hb2 hj
    have := low w' l2
    omega
/-- costs of at most c an edge: the cheapest walk costs at most c times N * N -/
theorem cost_le {c : Nat} (hc : ∀ a b, ∀ e ∈ E a b, e.1 ≤ c) : ∀ (k w a b : Nat), ow E G k w a b → w ≤ c * k := by
  intro k
  induction k with
  | zero => intro w a b h; have := h.2; omega
  | succ k ih =>
    intro w a b h
    obtain ⟨e, he, h1, h2⟩ := h
    have l1 := ih _ _ _ h2
    have l2 := hc a b e he
    rw [Nat.mul_succ]
    omega
theorem cheap {c a b w : Nat} (hC : Clo E N) (hc : ∀ a b, ∀ e ∈ E a b, e.1 ≤ c) (hN : c * (N * N) < 1000) (ha : a < N) (hb : b < N) (h : oc E G a b w) : ∃ w', w' ≤ w ∧ oc E G a b w' ∧ w' < 1000 := by
  obtain ⟨k, hk⟩ := h
  obtain ⟨k', v, hsh⟩ := sh_ex hk
  have l1 := sh_lt hC ha hb hsh
  have l2 := cost_le hc _ _ _ _ hsh.1
  have l3 : c * k' ≤ c * (N * N) := Nat.mul_le_mul_left _ (Nat.le_of_lt l1)
  exact ⟨v, hsh.2.1 _ _ hk, ⟨k', hsh.1⟩, by omega⟩
end WALK
