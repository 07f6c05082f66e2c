/-! WAY, ROUND, MEET, APART, WHERE, NEXT, WALKS -/
section ASK
variable {σ τ : ST} {N P : Nat} {kd : Nat → Nat} {go : Nat → Nat → Nat}
theorem Rm.rt (h : Rm σ τ N kd go) {c : Nat} (hc : c < N) : 2 ≤ N ∧ Rt σ N kd go := h.1.resolve_left (by omega)
theorem eq_way (h : Rm σ τ N kd go) (p q x : Int32) : ∃ τ', f_M_way p q x τ = some (f_LT_way p q x σ, τ') ∧ Sm τ τ' := by
  unfold f_M_way f_LT_way
  rcases cross_cases h.2.1 h.2.2.1 p with ⟨h1, h2⟩ | ⟨a, ha, e, h1, h2⟩
  · rw [h1, h2, if_pos rfl, if_pos rfl]; exact ⟨_, rfl, Sm.rf⟩
  rw [h1, h2, if_neg n10, if_neg n10]
  rcases cross_cases h.2.1 h.2.2.1 q with ⟨h1, h2⟩ | ⟨b, hb, e2, h1, h2⟩
  · rw [h1, h2, if_pos rfl, if_pos rfl]; exact ⟨_, rfl, Sm.rf⟩
  rw [h1, h2, if_neg n10, if_neg n10, show (2 : Int64) = (nI 2).toInt64 by decide]
  subst e; subst e2
  rcases in_dec 2 (by decide) x with ⟨k, hk, e, i1⟩ | ⟨i0, i1, i2⟩
  · subst e
    obtain ⟨τ', t1, t2⟩ := wayOf_ok h.2.1 h.2.2.1 (h.rt ha).2 ha hb (show k < 3 by omega)
    rw [i1, if_neg n10, t1]
    refine ⟨τ', ?_, t2⟩
    show some (wayV σ a b k, τ') = _
    unfold wayV
    rcases (show k = 0 ∨ k = 1 ∨ k = 2 by omega) with z | z | z
    · subst z; rfl
    · subst z; rfl
    · subst z; rfl
  · rw [i2, if_pos rfl, if_neg (show ¬ x = 0 from i0 0 (by decide)), if_neg (show ¬ x = 1 from i0 1 (by decide)), if_neg (show ¬ x = 2 from i0 2 (by decide))]
    exact ⟨_, rfl, Sm.rf⟩
theorem eq_apart (h : Rm σ τ N kd go) (p q x : Int32) : ∃ τ', f_M_apart p q x τ = some (f_LT_apart p q x σ, τ') ∧ Sm τ τ' := by
  unfold f_M_apart f_LT_apart
  rcases cross_cases h.2.1 h.2.2.1 p with ⟨h1, h2⟩ | ⟨a, ha, e, h1, h2⟩
  · rw [h1, h2, if_pos rfl, if_pos rfl]; exact ⟨_, rfl, Sm.rf⟩
  rw [h1, h2, if_neg n10, if_neg n10]
  rcases cross_cases h.2.1 h.2.2.1 q with ⟨h1, h2⟩ | ⟨b, hb, e2, h1, h2⟩
  · rw [h1, h2, if_pos rfl, if_pos rfl]; exact ⟨_, rfl, Sm.rf⟩
  rw [h1, h2, if_neg n10, if_neg n10, show (1 : Int64) = (nI 1).toInt64 by decide]
  subst e; subst e2
  rcases in_dec 1 (by decide) x with ⟨k, hk, e, i1⟩ | ⟨i0, i1, i2⟩
  · subst e
    obtain ⟨τ', t1, t2⟩ := apartOf_ok h.2.1 h.2.2.1 (h.rt ha).2 ha hb (show k < 2 by omega)
    rw [i1, if_neg n10, t1]
    refine ⟨τ', ?_, t2⟩
    show some (apartV σ a b k, τ') = _
    unfold apartV
    rcases (show k = 0 ∨ k = 1 by omega) with z | z
    · subst z; rfl
    · subst z; rfl
  · rw [i2, if_pos rfl, if_neg (show ¬ x = 0 from i0 0 (by decide)), if_neg (show ¬ x = 1 from i0 1 (by decide))]
    exact ⟨_, rfl, Sm.rf⟩
theorem eq_round (h : Rm σ τ N kd go) (p x : Int32) : ∃ τ', f_M_round p x τ = some (f_LT_round p x σ, τ') ∧ Sm τ τ' := by
  unfold f_M_round f_LT_round
  rcases cross_cases h.2.1 h.2.2.1 p with ⟨h1, h2⟩ | ⟨a, ha, e, h1, h2⟩
  · rw [h1, h2, if_pos rfl, if_pos rfl]; exact ⟨_, rfl, Sm.rf⟩
  rw [h1, h2, if_neg n10, if_neg n10, show (1 : Int64) = (nI 1).toInt64 by decide]
  subst e
  rcases in_dec 1 (by decide) x with ⟨k, hk, e, i1⟩ | ⟨i0, i1, i2⟩
  · subst e
    obtain ⟨τ', t1, t2⟩ := roundOf_ok (h.rt ha).1 h.2.1 h.2.2.1 (h.rt ha).2 ha (show k < 2 by omega)
    rw [i1, if_neg n10, t1]
    refine ⟨τ', ?_, t2⟩
    show some (roundV σ a k, τ') = _
    unfold roundV
    rcases (show k = 0 ∨ k = 1 by omega) with z | z
    · subst z; rfl
    · subst z; rfl
  · rw [i2, if_pos rfl, if_neg (show ¬ x = 0 from i0 0 (by decide)), if_neg (show ¬ x = 1 from i0 1 (by decide))]
    exact ⟨_, rfl, Sm.rf⟩
theorem eq_meet (h : Rm σ τ N kd go) (hc : Rc σ τ N P) (p q : Int32) : ∃ τ', f_M_meet p q τ = some (f_LT_meet p q σ, τ') ∧ Sm τ τ' := by
  have h3 := hc.1
  unfold f_M_meet f_LT_meet
  rcases party_cases hc p with ⟨h1, h2⟩ | ⟨a, ha, e, h1, h2⟩
  · rw [h1, h2, if_pos rfl, if_pos rfl]; exact ⟨_, rfl, Sm.rf⟩
  rw [h1, h2, if_neg n10, if_neg n10]
  rcases party_cases hc q with ⟨h1, h2⟩ | ⟨b, hb, e2, h1, h2⟩
  · rw [h1, h2, if_pos rfl, if_pos rfl]; exact ⟨_, rfl, Sm.rf⟩
  rw [h1, h2, if_neg n10, if_neg n10]
  subst e; subst e2
  obtain ⟨⟨qa, hqa, r0⟩, r1, -⟩ := hc.2.2.2 a ha
  obtain ⟨⟨qb, hqb, s0⟩, s1, -⟩ := hc.2.2.2 b hb
  obtain ⟨τ', t1, t2⟩ := meetOf_ok h.2.2.1 (h.rt hqa).2 hqa hqb
  rw [cell_in (by omega) (by decide), cell_in (by omega) (by decide), i40, i40, if_pos (inB_t (by omega) (by decide)), if_pos (inB_t (by omega) (by decide)), nI_clamp (by omega), nI_clamp (by omega), r1, s1, r0, s0, t1]
  exact ⟨τ', rfl, t2⟩
theorem n0_cases (h : Rm σ τ N kd go) : (f_Mine_isThere σ = 0 ∧ f_M_lacks τ = 1 ∧ N = 0) ∨ (f_Mine_isThere σ = 1 ∧ f_M_lacks τ = 0 ∧ 0 < N) := by
  have hN := h.2.1.1
  unfold f_Mine_isThere f_M_lacks
  rw [h.2.1.2.1, h.2.2.1.2.1]
  rcases Nat.eq_zero_or_pos N with q | q
  · subst q; exact Or.inl ⟨rfl, rfl, rfl⟩
  · rw [if_neg (nI_nle q (by omega)), if_neg (nI_ne0 q (by omega))]; exact Or.inr ⟨rfl, rfl, q⟩
theorem eq_where (h : Rm σ τ N kd go) {k : Nat} (hh : Rh σ τ k) : ∃ v, f_LT_where σ = some v ∧ f_M_where τ = some v := by
  rcases n0_cases h with ⟨h1, h2, h3⟩ | ⟨h1, h2, h3⟩
  · unfold f_LT_where f_M_where
    rw [h1, h2, if_pos rfl, if_neg n10]; exact ⟨_, rfl, rfl⟩
  · obtain ⟨v, v1, v2⟩ := where_eq h.2.1 h.2.2.1 hh h3
    refine ⟨v, v1, ?_⟩
    unfold f_M_where
    rw [h2, if_pos rfl, v2]; rfl
theorem eq_next (h : Rm σ τ N kd go) {k : Nat} (hh : Rh σ τ k) : ∃ v, f_LT_next σ = some v ∧ f_M_next τ = some v := by
  rcases n0_cases h with ⟨h1, h2, h3⟩ | ⟨h1, h2, h3⟩
  · unfold f_LT_next f_M_next
    rw [h1, h2, if_pos rfl, if_neg n10]; exact ⟨_, rfl, rfl⟩
  · obtain ⟨v, v1, v2⟩ := next_eq h.2.1 h.2.2.1 hh h3
    refine ⟨v, v1, ?_⟩
    unfold f_M_next
    rw [h2, if_pos rfl, v2]; rfl
end ASK
/-- the seed after t -/
def nx (t : Nat) : Nat := (1103515245 * t + 12345) % 2147483648
theorem nx_lt (t : Nat) : nx t < 2147483648 := Nat.mod_lt _ (by decide)
theorem nI_L {t : Nat} (h : t < 2 ^ 31) : (nI t).toInt64 = lN t := by
  apply Int64.toInt_inj.mp
  rw [Int32.toInt_toInt64, nI_toInt h, lN_toInt h]
theorem seed_eq {t : Nat} (h : t < 2 ^ 31) : f_LT_seedAfter (nI t) = nI (nx t) := by
  unfold f_LT_seedAfter nx
  rw [nI_L h, show (1103515245 : Int64) = lN 1103515245 from rfl, show (12345 : Int64) = lN 12345 from rfl, show (2147483648 : Int64) = lN 2147483648 from rfl, lN_mul, lN_add, pk_lRem (by omega) (by decide) (by decide), lN_i]
theorem lN_and (a : Nat) (h : a < 2 ^ 63) : lN a &&& (2147483647 : Int64) = lN (a % 2147483648) := by
  have e : (2147483647 : Int64) = lN 2147483647 := rfl
  rw [e]
  apply Int64.toBitVec_inj.mp
  rw [Int64.toBitVec_and]
  show BitVec.ofNat 64 a &&& BitVec.ofNat 64 2147483647 = BitVec.ofNat 64 (a % 2147483648)
  rw [← BitVec.ofNat_and]
  have := Nat.and_two_pow_sub_one_eq_mod a 31
  rw [show (2147483647 : Nat) = 2 ^ 31 - 1 from rfl, this]
theorem draw_eq {τ : ST} {t : Nat} (h : t < 2 ^ 31) (ht : gI τ 3118 = nI t) : f_M_draw 2 τ = some (f_LT_drawOfTwo (nI (nx t)), sI τ 3118 (nI (nx t))) := by
  unfold f_M_draw f_LT_drawOfTwo
  rw [if_pos (show ¬ (2 : Int32) = 0 by decide), ht]
  have e : ((1103515245 : Int64) * (nI t).toInt64 + 12345 &&& 2147483647).toInt32 = nI (nx t) := by
    rw [nI_L h, show (1103515245 : Int64) = lN 1103515245 from rfl, show (12345 : Int64) = lN 12345 from rfl, lN_mul, lN_add, lN_and _ (by omega), lN_i]; rfl
  rw [e]
  have e2 : gI (sI τ 3118 (nI (nx t))) 3118 = nI (nx t) := rfl
  rw [e2]
theorem draw_01 {t : Nat} (h : t < 2 ^ 31) : ∃ w, w < 2 ∧ f_LT_drawOfTwo (nI t) = nI w := by
  refine ⟨t / 65536 % 2, Nat.mod_lt _ (by decide), ?_⟩
  unfold f_LT_drawOfTwo
  rw [show (65536 : Int32) = nI 65536 from rfl, pk_div h (by decide) (by decide), l_2, pk_rem (by omega) (by decide) (by decide)]
section WALKS
variable {σ τ : ST} {N : Nat} {kd : Nat → Nat} {go : Nat → Nat → Nat}
theorem walks_loop (hC : Mc σ N kd go) {p2 : Int32} {K : Nat} (hK : p2 = nI K) (hK2 : K ≤ 60) {p4 : Int32} : ∀ (n i c b t : Nat) (s : Int32) (τ : ST), K - i < n → i ≤ K → c < N → b < 2 ^ N → t < 2 ^ 31 → Mm τ N kd go → gI τ 3118 = nI t → ∃ c' b' s' t' τ', c' < N ∧ b' < 2 ^ N ∧ f_LT_walks_L49 n p2 p4 (nI c) (nI b) s (nI t) (nI i) σ = some (nI c', nI b', s', nI t') ∧ f_M_walks_L62 n p2 p4 (nI c) (nI b) s (nI i) τ = some (nI c', nI b', s', τ') ∧ gI τ' 3118 = nI t' ∧ Sm τ τ' := by
  have hN := hC.1
  intro n
  induction n with
  | zero => intro i c b t s τ h; omega
  | succ n ih =>
    intro i c b t s τ hn hi hc hb ht hM he
    rw [f_LT_walks_L49, f_M_walks_L62, hK]
    by_cases q : i < K
    · obtain ⟨w, hw, ew⟩ := draw_01 (nx_lt t)
      have hg := go_lt hC hc hw
      rw [if_neg (nI_ge q (by omega)), if_neg (nI_ge q (by omega)), draw_eq ht he, seed_eq ht, ew, Option.bind_some, m_leads hC hc hw, m_sound hC hg]
      have f : Sm τ (sI τ 3118 (nI (nx t))) := Fr.sm (Fr.sI Fr.rf (by decide)) rfl
      have hM' := hM.keep f
      have eix : (2 : Int32) * nI c + nI w = nI (2 * c + w) := by rw [l_2, mul_nI, add_nI]
      show ∃ c' b' s' t' τ', c' < N ∧ b' < 2 ^ N ∧ _ ∧ (if inB ((2 : Int32) * nI c + nI w) 12 = true then (f_M_soundOf (gA (sI τ 3118 (nI (nx t))) 35 ((2 : Int32) * nI c + nI w).toNatClampNeg) (sI τ 3118 (nI (nx t)))).bind (fun q8 => (f_M_walks_L62 n (nI K) p4 (gA (sI τ 3118 (nI (nx t))) 35 (((2 : Int32) * nI c) + nI w).toNatClampNeg) (nI b ||| ((1 : Int32) <<< ((gA (sI τ 3118 (nI (nx t))) 35 (((2 : Int32) * nI c) + nI w).toNatClampNeg) &&& 31))) (s + q8) (nI i + (1 : Int32)) (sI τ 3118 (nI (nx t))))) else none) = _ ∧ _ ∧ _
      rw [eix, if_pos (inB_t (by omega) (by decide)), nI_clamp (by omega), (hM'.to hc hw).2, mm_sound hM' hg, Option.bind_some, nI_1, bit1 _ (by omega), fa_or]
      obtain ⟨c', b', s', t', τ', k1, k2, k3, k4, k5, k6⟩ := ih (i + 1) (go c w) (b ||| 2 ^ go c w) (nx t) (s + nI (sn kd (go c w))) (sI τ 3118 (nI (nx t))) (by omega) (by omega) hg (or_lt hb hg) (nx_lt t) hM' rfl
      rw [hK] at k3 k4
      exact ⟨c', b', s', t', τ', k1, k2, k3, k4, k5, f.tr k6⟩
    · have : i = K := by omega
      subst this
      rw [if_pos (nI_le (Nat.le_refl _) (by omega)), if_pos (nI_le (Nat.le_refl _) (by omega))]
      exact ⟨c, b, s, t, τ, hc, hb, rfl, rfl, he, Sm.rf⟩
theorem eq_walks (hC : Mc σ N kd go) (hM : Mm τ N kd go) (p1 p2 p3 p4 : Int32) : ∃ v τ', f_LT_walks p1 p2 p3 p4 σ = some v ∧ f_M_walks p1 p2 p3 p4 τ = some (v, τ') ∧ Sm τ τ' := by
  have hN := hC.1
  have h64 := pow_le64 hN
  unfold f_LT_walks f_M_walks
  rcases cross_cases hC hM p1 with ⟨h1, h2⟩ | ⟨c, hc, e, h1, h2⟩
  · rw [h1, h2, if_pos rfl, if_pos rfl]; exact ⟨_, _, rfl, rfl, Sm.rf⟩
  rw [h1, h2, if_neg n10, if_neg n10, L_60, L_1, in_eq]
  by_cases q1 : p2 < 1
  · rw [if_pos q1, if_pos q1, if_pos rfl]; exact ⟨_, _, rfl, rfl, Sm.rf⟩
  rw [if_neg q1, if_neg q1]
  by_cases q2 : (60 : Int32) < p2
  · rw [if_pos q2, if_pos q2, if_pos rfl]; exact ⟨_, _, rfl, rfl, Sm.rf⟩
  rw [if_neg q2, if_neg q2, if_neg n10]
  by_cases q3 : p3 < 0
  · rw [if_neg (show ¬ (0 : Int32) ≤ p3 by rw [fa_le]; rw [fa_lt] at q3; omega), if_pos q3]; exact ⟨_, _, rfl, rfl, Sm.rf⟩
  rw [if_pos (show (0 : Int32) ≤ p3 by rw [fa_le]; rw [fa_lt] at q3; omega), if_neg q3]
  obtain ⟨K, K1, K2, eK⟩ := rng (a := 1) (b := 60) (by decide) q1 (by rw [fa_le]; rw [fa_lt] at q2; have : (nI 60).toInt = (60 : Int32).toInt := by decide
                                                                      omega) (by decide)
  obtain ⟨t, ht, et⟩ := nI_of q3
  subst e; subst et
  have f : Sm τ (sI τ 3118 (nI t)) := Fr.sm (Fr.sI Fr.rf (by decide)) rfl
  have hcb : 2 ^ c < 2 ^ N := Nat.pow_lt_pow_right (by decide) hc
  obtain ⟨c', b', s', t', τ', k1, k2, k3, k4, k5, k6⟩ := walks_loop hC eK K2 (p4 := p4) 400 0 c (2 ^ c) t 0 (sI τ 3118 (nI t)) (by omega) (by omega) hc hcb ht (hM.keep f) rfl
  have k3' : f_LT_walks_L49 400 p2 p4 (nI c) (nI (2 ^ c)) 0 (nI t) 0 σ = some (nI c', nI b', s', nI t') := k3
  have k4' : f_M_walks_L62 400 p2 p4 (nI c) (nI (2 ^ c)) 0 0 (sI τ 3118 (nI t)) = some (nI c', nI b', s', τ') := k4
  have s2 := f.tr k6
  rw [bit1 _ (by omega), k3', k4', Option.bind_some, Option.bind_some, show (3 : Int64) = (nI 3).toInt64 by decide]
  show ∃ v υ, (if p4 = (0 : Int32) then some (f_Integer_bitCount (nI b')) else (if p4 = (1 : Int32) then some (nI c') else (if p4 = (2 : Int32) then some s' else (if p4 = (3 : Int32) then some (nI t') else some (-102 : Int32))))) = some v ∧ (if f_M_in p4.toInt64 (0 : Int64) (nI 3).toInt64 = 0 then some ((-102 : Int32), τ) else (if p4 = 0 then ((f_M_ones (nI b') τ').bind (fun q13 => some (q13, τ'))) else (if p4 = (1 : Int32) then some (nI c', τ') else (if p4 = (2 : Int32) then some (s', τ') else some ((gI τ' 3118), τ'))))) = some (v, υ) ∧ Sm τ υ
  rcases in_dec 3 (by decide) p4 with ⟨k, hk, e, i1⟩ | ⟨i0, i1, i2⟩
  · rw [i1, if_neg n10]
    subst e
    rw [bc_dec b' (by omega), ones_ok (by omega), k5]
    rcases (show k = 0 ∨ k = 1 ∨ k = 2 ∨ k = 3 by omega) with z | z | z | z
    · subst z; exact ⟨_, _, rfl, rfl, s2⟩
    · subst z; exact ⟨_, _, rfl, rfl, s2⟩
    · subst z; exact ⟨_, _, rfl, rfl, s2⟩
    · subst z; exact ⟨_, _, rfl, rfl, s2⟩
  · rw [i2, if_pos rfl, if_neg (show ¬ p4 = 0 from i0 0 (by decide)), if_neg (show ¬ p4 = 1 from i0 1 (by decide)), if_neg (show ¬ p4 = 2 from i0 2 (by decide)), if_neg (show ¬ p4 = 3 from i0 3 (by decide))]
    exact ⟨_, _, rfl, rfl, Sm.rf⟩
end WALKS
