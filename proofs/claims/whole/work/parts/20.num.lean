/-! PURE PART: numbers -/
theorem fa_lt (a b : Int32) : a < b ↔ a.toInt < b.toInt := Int32.lt_iff_toInt_lt
theorem fa_le (a b : Int32) : a ≤ b ↔ a.toInt ≤ b.toInt := Int32.le_iff_toInt_le
theorem fa_eq (a b : Int32) : a = b ↔ a.toInt = b.toInt := Int32.toInt_inj.symm
theorem fa_lt64 (a b : Int64) : a < b ↔ a.toInt < b.toInt := Int64.lt_iff_toInt_lt
theorem fa_le64 (a b : Int64) : a ≤ b ↔ a.toInt ≤ b.toInt := Int64.le_iff_toInt_le
theorem fa_eq64 (a b : Int64) : a = b ↔ a.toInt = b.toInt := Int64.toInt_inj.symm
theorem l_0 : (0 : Int32) = nI 0 := rfl
theorem l_1 : (1 : Int32) = nI 1 := rfl
theorem l_2 : (2 : Int32) = nI 2 := rfl
theorem l_3 : (3 : Int32) = nI 3 := rfl
theorem l_4 : (4 : Int32) = nI 4 := rfl
theorem l_5 : (5 : Int32) = nI 5 := rfl
theorem l_6 : (6 : Int32) = nI 6 := rfl
theorem l_8 : (8 : Int32) = nI 8 := rfl
theorem l_9 : (9 : Int32) = nI 9 := rfl
theorem l_12 : (12 : Int32) = nI 12 := rfl
theorem l_16 : (16 : Int32) = nI 16 := rfl
theorem l_28 : (28 : Int32) = nI 28 := rfl
theorem l_31 : (31 : Int32) = nI 31 := rfl
theorem l_36 : (36 : Int32) = nI 36 := rfl
theorem l_44 : (44 : Int32) = nI 44 := rfl
theorem l_46 : (46 : Int32) = nI 46 := rfl
theorem l_48 : (48 : Int32) = nI 48 := rfl
theorem l_59 : (59 : Int32) = nI 59 := rfl
theorem l_60 : (60 : Int32) = nI 60 := rfl
theorem l_64 : (64 : Int32) = nI 64 := rfl
theorem l_98 : (98 : Int32) = nI 98 := rfl
theorem l_100 : (100 : Int32) = nI 100 := rfl
theorem l_115 : (115 : Int32) = nI 115 := rfl
theorem l_119 : (119 : Int32) = nI 119 := rfl
theorem l_126 : (126 : Int32) = nI 126 := rfl
theorem l_384 : (384 : Int32) = nI 384 := rfl
theorem l_1000 : (1000 : Int32) = nI 1000 := rfl
theorem l_9999 : (9999 : Int32) = nI 9999 := rfl
theorem inB_nI {i n : Nat} (hi : i < 2 ^ 31) : (inB (nI i) n = true) ↔ i < n := by
  unfold inB
  rw [nI_clamp hi]
  have h0 := nI_pos hi
  simp [h0]
theorem inB_t {i n : Nat} (h : i < n) (hn : n < 2 ^ 31) : inB (nI i) n = true := (inB_nI (by omega)).mpr h
theorem cell_in {n a i : Nat} {σ : ST} (h : i < n) (hn : n < 2 ^ 31) : cellF n a (nI i) σ = gA σ a i := by
  unfold cellF
  rw [if_neg (nI_pos (by omega)), if_neg (nI_ge h hn), nI_clamp (by omega)]
theorem put_in {n a i : Nat} {v : Int32} {σ : ST} (h : i < n) (hn : n < 2 ^ 31) : putF n a (nI i) v σ = sA σ a i v := by
  unfold putF
  rw [if_neg (nI_pos (by omega)), if_neg (nI_ge h hn), nI_clamp (by omega)]
theorem upd_at {f : Nat → Int32} {k j : Nat} {x : Int32} : upd f k x j = if j = k then x else f j := rfl
theorem gA_sA' (σ : ST) (a k b j : Nat) (v : Int32) : gA (sA σ a k v) b j = if b = a ∧ j = k then v else gA σ b j := by
  rw [gA_sA]
  by_cases h : b = a
  · rw [if_pos h, upd_at]
    by_cases h2 : j = k
    · rw [if_pos h2, if_pos ⟨h, h2⟩]
    · rw [if_neg h2, if_neg (fun z => h2 z.2)]
  · rw [if_neg h, if_neg (fun z => h z.1)]
theorem lg_lt0 (x y : Int64) : lg_cmp x y < 0 ↔ x < y := by
  have h := lg_cmp_ge x y
  rw [fa_lt, ← Int.not_le, ← fa_le, h, fa_le64, fa_lt64]
  omega
theorem lg_gt0 (x y : Int64) : 0 < lg_cmp x y ↔ y < x := by
  unfold lg_cmp
  by_cases h1 : x > y
  · rw [if_pos h1]
    exact ⟨fun _ => h1, fun _ => by decide⟩
  · rw [if_neg h1]
    by_cases h2 : x = y
    · rw [if_pos h2]
      exact ⟨fun z => absurd z (by decide), fun z => absurd z h1⟩
    · rw [if_neg h2]
      exact ⟨fun z => absurd z (by decide), fun z => absurd z h1⟩
/-- the reference's 'in', of ints -/
theorem in_eq (a b c : Int32) : f_M_in a.toInt64 b.toInt64 c.toInt64 = if a < b then 0 else if c < a then 0 else 1 := by
  unfold f_M_in
  have h1 : lg_cmp a.toInt64 b.toInt64 < 0 ↔ a < b := by rw [lg_lt0, fa_lt64, fa_lt, Int32.toInt_toInt64, Int32.toInt_toInt64]
  have h2 : 0 < lg_cmp a.toInt64 c.toInt64 ↔ c < a := by rw [lg_gt0, fa_lt64, fa_lt, Int32.toInt_toInt64, Int32.toInt_toInt64]
  simp only [h1, h2]
theorem L_0 : (0 : Int64) = (0 : Int32).toInt64 := by decide
theorem L_1 : (1 : Int64) = (1 : Int32).toInt64 := by decide
theorem L_2 : (2 : Int64) = (2 : Int32).toInt64 := by decide
theorem L_3 : (3 : Int64) = (3 : Int32).toInt64 := by decide
theorem L_4 : (4 : Int64) = (4 : Int32).toInt64 := by decide
theorem L_5 : (5 : Int64) = (5 : Int32).toInt64 := by decide
theorem L_9 : (9 : Int64) = (9 : Int32).toInt64 := by decide
theorem L_60 : (60 : Int64) = (60 : Int32).toInt64 := by decide
theorem L_126 : (126 : Int64) = (126 : Int32).toInt64 := by decide
/-- a number below N: the reference's test, as the class writes it -/
theorem in_N (p : Int32) {N : Nat} (hN : N < 2 ^ 30) : (f_M_in p.toInt64 (0 : Int64) (nI N - 1).toInt64 &&& 1) = if p < 0 then (0 : Int32) else if nI N ≤ p then 0 else 1 := by
  rw [L_0, in_eq]
  by_cases h0 : p < 0
  · rw [if_pos h0, if_pos h0]; decide
  · rw [if_neg h0, if_neg h0]
    obtain ⟨j, hj, rfl⟩ := nI_of h0
    rcases Nat.eq_zero_or_pos N with h | h
    · subst h
      have e1 : nI 0 - 1 = -1 := by decide
      have e2 : (-1 : Int32) < nI j := by
        rw [fa_lt, nI_toInt hj]
        have e3 : (-1 : Int32).toInt = -1 := by decide
        rw [e3]
        omega
      rw [e1, if_pos e2, if_pos (nI_le (Nat.zero_le j) hj)]
      decide
    · have e1 : nI N - 1 = nI (N - 1) := by
        have := nI_pred (N - 1)
        rwa [show N - 1 + 1 = N by omega] at this
      rw [e1]
      by_cases h2 : N ≤ j
      · rw [if_pos (nI_lt (by omega) hj), if_pos (nI_le h2 hj)]; decide
      · rw [if_neg (nI_nlt (by omega) (by omega)), if_neg (nI_ge (by omega) (by omega))]; decide
/-- a whole number's place: below 0, from N on, or one of N -/
theorem three {N : Nat} (p : Int32) (hN : N < 2 ^ 31) : (p < 0 ∨ nI N ≤ p) ∨ ∃ c, c < N ∧ p = nI c := by
  rcases pk_ix p hN with h | h | h
  · exact Or.inl (Or.inl h)
  · exact Or.inl (Or.inr h)
  · exact Or.inr h
theorem ite_out {N : Nat} {p : Int32} (h : p < 0 ∨ nI N ≤ p) : (if p < 0 then (0 : Int32) else if nI N ≤ p then 0 else 1) = 0 := by
  by_cases h0 : p < 0
  · rw [if_pos h0]
  · rw [if_neg h0, if_pos (h.resolve_left h0)]
theorem ite_in {N c : Nat} (h : c < N) (hN : N < 2 ^ 31) : (if nI c < 0 then (0 : Int32) else if nI N ≤ nI c then 0 else 1) = 1 := by
  rw [if_neg (nI_pos (by omega)), if_neg (nI_ge h hN)]
/-- one of the first k numbers, or none of them -/
theorem none_lt {k : Nat} {x : Int32} (hk : k < 2 ^ 31) (h : ∀ j, j < k → ¬ x = nI j) : x < 0 ∨ nI k ≤ x := by
  rcases three x hk with h1 | ⟨c, hc, e⟩
  · exact h1
  · exact absurd e (h c hc)
theorem nI_inj {a b : Nat} (ha : a < 2 ^ 31) (hb : b < 2 ^ 31) (h : nI a = nI b) : a = b := (nI_eq ha hb).mp h
theorem sub_nI {a b : Nat} (h : b ≤ a) : nI a - nI b = nI (a - b) := pk_sub h
theorem mul_nI (a b : Nat) : nI a * nI b = nI (a * b) := pk_mul a b
theorem add_nI (a b : Nat) : nI a + nI b = nI (a + b) := nI_add a b
theorem bind_some {α β : Type} {x : Option α} {f : α → Option β} {a : α} {b : β} (h : x = some a) (h2 : f a = some b) : x.bind f = some b := by rw [h]; exact h2
