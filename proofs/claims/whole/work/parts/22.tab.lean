/-! THE MINE, as the class holds it; its four tables -/
def sn (kd : Nat → Nat) (c : Nat) : Nat := if kd c = 1 then 1 else if kd c = 4 then 2 else 0
def bn (kd : Nat → Nat) (c : Nat) : Nat := if kd c = 3 then 3 else 1
theorem sn_le (kd : Nat → Nat) (c : Nat) : sn kd c ≤ 2 := by
  unfold sn
  by_cases h : kd c = 1
  · rw [if_pos h]; omega
  · rw [if_neg h]
    by_cases h2 : kd c = 4
    · rw [if_pos h2]; omega
    · rw [if_neg h2]; omega
theorem bn_le (kd : Nat → Nat) (c : Nat) : 1 ≤ bn kd c ∧ bn kd c ≤ 3 := by
  unfold bn
  by_cases h : kd c = 3
  · rw [if_pos h]; omega
  · rw [if_neg h]; omega
/-- the class's mine -/
def Mc (σ : ST) (N : Nat) (kd : Nat → Nat) (go : Nat → Nat → Nat) : Prop := N ≤ 6 ∧ gI σ 300 = nI N ∧ (∀ c, c < N → kd c ≤ 4 ∧ gA σ 4 c = nI (kd c)) ∧ ∀ c, c < N → go c 0 < N ∧ go c 1 < N ∧ gA σ 5 c = nI (go c 0) ∧ gA σ 6 c = nI (go c 1)
/-- only these arrays have changed -/
def Ka (σ σ' : ST) (S : Nat → Prop) : Prop := (∀ i, gI σ' i = gI σ i) ∧ gL σ' = gL σ ∧ ∀ a, ¬ S a → gA σ' a = gA σ a
theorem Ka.rf {σ : ST} {S : Nat → Prop} : Ka σ σ S := ⟨fun _ => rfl, rfl, fun _ _ => rfl⟩
theorem Ka.tr {σ τ υ : ST} {S : Nat → Prop} (h : Ka σ τ S) (h2 : Ka τ υ S) : Ka σ υ S := ⟨fun i => (h2.1 i).trans (h.1 i), h2.2.1.trans h.2.1, fun a ha => (h2.2.2 a ha).trans (h.2.2 a ha)⟩
theorem Ka.sA {σ : ST} {S : Nat → Prop} {a k : Nat} {v : Int32} (h : S a) : Ka σ (sA σ a k v) S := ⟨fun _ => rfl, rfl, fun b hb => by rw [gA_sA, if_neg (fun e => hb (by rw [e]; exact h))]⟩
theorem Ka.mono {σ τ : ST} {S S' : Nat → Prop} (h : Ka σ τ S) (hs : ∀ a, S a → S' a) : Ka σ τ S' := ⟨h.1, h.2.1, fun a ha => h.2.2 a (fun z => ha (hs a z))⟩
theorem Mc.keep {σ τ : ST} {N : Nat} {kd : Nat → Nat} {go : Nat → Nat → Nat} {S : Nat → Prop} (h : Mc σ N kd go) (hk : Ka σ τ S) (h4 : ¬ S 4) (h5 : ¬ S 5) (h6 : ¬ S 6) : Mc τ N kd go := by
  obtain ⟨a1, a2, a3, a4⟩ := h
  refine ⟨a1, by rw [hk.1]; exact a2, fun c hc => ?_, fun c hc => ?_⟩
  · rw [hk.2.2 4 h4]; exact a3 c hc
  · rw [hk.2.2 5 h5, hk.2.2 6 h6]; exact a4 c hc
section MINE
variable {σ : ST} {N : Nat} {kd : Nat → Nat} {go : Nat → Nat → Nat}
theorem go_lt (h : Mc σ N kd go) {c w : Nat} (hc : c < N) (hw : w < 2) : go c w < N := by
  have := h.2.2.2 c hc
  rcases (show w = 0 ∨ w = 1 by omega) with e | e
  · rw [e]; exact this.1
  · rw [e]; exact this.2.1
theorem m_kind (h : Mc σ N kd go) {c : Nat} (hc : c < N) : f_Mine_kindOf (nI c) σ = nI (kd c) := by
  unfold f_Mine_kindOf
  rw [cell_in (Nat.lt_of_lt_of_le hc h.1) (by decide)]
  exact (h.2.2.1 c hc).2
theorem m_leads (h : Mc σ N kd go) {c w : Nat} (hc : c < N) (hw : w < 2) : f_Mine_leadsTo (nI c) (nI w) σ = nI (go c w) := by
  unfold f_Mine_leadsTo
  obtain ⟨-, -, h3, h4⟩ := h.2.2.2 c hc
  have h6 := Nat.lt_of_lt_of_le hc h.1
  rcases (show w = 0 ∨ w = 1 by omega) with e | e
  · rw [e, if_pos (show nI 0 = 0 from rfl), cell_in h6 (by decide)]; exact h3
  · rw [e, if_neg (by decide), cell_in h6 (by decide)]; exact h4
theorem m_sound (h : Mc σ N kd go) {c : Nat} (hc : c < N) : f_Mine_soundOf (nI c) σ = nI (sn kd c) := by
  unfold f_Mine_soundOf sn
  rw [m_kind h hc, l_1, l_4]
  have hk := (h.2.2.1 c hc).1
  by_cases e : kd c = 1
  · rw [if_pos (by rw [e]), if_pos e]
  · rw [if_neg (fun z => e (nI_inj (by omega) (by omega) z)), if_neg e]
    by_cases e2 : kd c = 4
    · rw [if_pos (by rw [e2]), if_pos e2]; rfl
    · rw [if_neg (fun z => e2 (nI_inj (by omega) (by omega) z)), if_neg e2]; rfl
theorem m_oil (h : Mc σ N kd go) {c : Nat} (hc : c < N) : f_Mine_oilTo (nI c) σ = nI (bn kd c) := by
  unfold f_Mine_oilTo bn
  rw [m_kind h hc, l_3]
  have hk := (h.2.2.1 c hc).1
  by_cases e : kd c = 3
  · rw [if_pos (by rw [e]), if_pos e]
  · rw [if_neg (fun z => e (nI_inj (by omega) (by omega) z)), if_neg e]; rfl
end MINE
/-- the edges of table i by a step of way w -/
def Ew (kd : Nat → Nat) (go : Nat → Nat → Nat) (i w a b : Nat) : List ED :=
  if i = 0 then [(1, go a w, b)] else if i = 1 then [(bn kd (go a w), go a w, b)] else if i = 2 then [(1, go a w, go b 0), (1, go a w, go b 1)] else [(1, go a w, go b w)]
def Ee (kd : Nat → Nat) (go : Nat → Nat → Nat) (i a b : Nat) : List ED := Ew kd go i 0 a b ++ Ew kd go i 1 a b
def Gg (kd : Nat → Nat) (i a b : Nat) : Prop := if i = 3 then sn kd a ≠ sn kd b else a = b
def Tab (σ : ST) (N : Nat) (T : Nat → Nat → Nat → Nat) : Prop := ∀ i a b, i < 4 → a < N → b < N → gA σ (12 + i) (a * 6 + b) = nI (T i a b) ∧ T i a b ≤ 1000
def isT (a : Nat) : Prop := 12 ≤ a ∧ a < 16
def lowT (T : Nat → Nat → Nat → Nat) (i a b v : Nat) : Nat → Nat → Nat → Nat := fun j x y => if (j = i ∧ x = a ∧ y = b) ∧ v < T i a b then v else T j x y
theorem lowT_le (T : Nat → Nat → Nat → Nat) (i a b v j x y : Nat) : lowT T i a b v j x y ≤ T j x y := by
  unfold lowT
  by_cases h : (j = i ∧ x = a ∧ y = b) ∧ v < T i a b
  · rw [if_pos h]
    obtain ⟨⟨rfl, rfl, rfl⟩, h2⟩ := h
    omega
  · rw [if_neg h]; omega
theorem lowT_at (T : Nat → Nat → Nat → Nat) (i a b v : Nat) : lowT T i a b v i a b ≤ v := by
  unfold lowT
  by_cases h : v < T i a b
  · rw [if_pos ⟨⟨rfl, rfl, rfl⟩, h⟩]; omega
  · rw [if_neg (fun z => h z.2)]; omega
theorem lowT_ne {T : Nat → Nat → Nat → Nat} {i a b v j x y : Nat} (h : ¬ (x = a ∧ y = b)) : lowT T i a b v j x y = T j x y := by
  unfold lowT
  rw [if_neg (fun z => h z.1.2)]
theorem lowT_tab {T : Nat → Nat → Nat → Nat} {i a b v j : Nat} (h : j ≠ i) : lowT T i a b v j = T j := by
  funext x y
  unfold lowT
  rw [if_neg (fun z => h z.1.1)]
/-- a step of relaxing keeps the table sound -/
theorem lowT_snd {kd : Nat → Nat} {go : Nat → Nat → Nat} {N i a b : Nat} {e : ED} {T : Nat → Nat → Nat → Nat} (hC : Clo (Ee kd go i) N) (hs : ∀ j, j < 4 → Snd (Ee kd go j) (Gg kd j) N (T j)) (hi : i < 4) (ha : a < N) (hb : b < N) (he : e ∈ Ee kd go i a b) : ∀ j, j < 4 → Snd (Ee kd go j) (Gg kd j) N (lowT T i a b (e.1 + T i e.2.1 e.2.2) j) := by
  intro j hj
  by_cases hji : j = i
  · subst hji
    intro x y hx hy
    have h0 := hs j hj x y hx hy
    have hle := lowT_le T j a b (e.1 + T j e.2.1 e.2.2) j x y
    refine ⟨by omega, fun hlt => ?_⟩
    by_cases hc : (j = j ∧ x = a ∧ y = b) ∧ e.1 + T j e.2.1 e.2.2 < T j a b
    · have ev : lowT T j a b (e.1 + T j e.2.1 e.2.2) j x y = e.1 + T j e.2.1 e.2.2 := by unfold lowT; rw [if_pos hc]
      rw [ev]
      rw [ev] at hlt
      obtain ⟨⟨-, rfl, rfl⟩, -⟩ := hc
      have hcl := hC x y hx hy e he
      obtain ⟨k, hk⟩ := (hs j hj _ _ hcl.1 hcl.2).2 (by omega)
      exact ⟨k + 1, e, he, by omega, by rw [Nat.add_sub_cancel_left]; exact hk⟩
    · have ev : lowT T j a b (e.1 + T j e.2.1 e.2.2) j x y = T j x y := by unfold lowT; rw [if_neg hc]
      rw [ev] at hlt ⊢
      exact h0.2 hlt
  · rw [lowT_tab hji]
    exact hs j hj

theorem low_8 {σ : ST} {N a b v : Nat} {T : Nat → Nat → Nat → Nat} (hT : Tab σ N T) (hN : N ≤ 6) (ha : a < N) (hb : b < N) (hv : v < 2 ^ 20) : ∃ r σ', f_Table_lower_8 (nI a) (nI b) (nI v) σ = (r, σ') ∧ (r = 0 ∨ r = 1) ∧ Tab σ' N (lowT T 0 a b v) ∧ (r = 0 → lowT T 0 a b v = T) ∧ Ka σ σ' isT := by
  have h0 := hT 0 a b (by decide) ha hb
  have hidx : a * 6 + b < 36 := by omega
  have hg : f_Table_get_8 (nI a) (nI b) σ = nI (T 0 a b) := by
    unfold f_Table_get_8
    rw [l_6, mul_nI, add_nI, cell_in hidx (by decide)]
    exact h0.1
  unfold f_Table_lower_8
  rw [hg]
  by_cases h : v < T 0 a b
  · refine ⟨1, sA σ 12 (a * 6 + b) (nI v), ?_, Or.inr rfl, ?_, fun z => absurd z (by decide), Ka.sA (by unfold isT; omega)⟩
    · rw [if_pos (nI_lt h (by omega))]
      unfold f_Table_set_8
      rw [l_6, mul_nI, add_nI, put_in hidx (by decide)]
    · intro j x y hj hx hy
      have h1 := hT j x y hj hx hy
      rw [gA_sA']
      unfold lowT
      by_cases e : j = 0 ∧ x = a ∧ y = b
      · obtain ⟨rfl, rfl, rfl⟩ := e
        rw [if_pos ⟨by omega, rfl⟩, if_pos ⟨⟨rfl, rfl, rfl⟩, h⟩]
        exact ⟨rfl, by omega⟩
      · rw [if_neg (fun z => e ⟨by omega, by omega, by omega⟩), if_neg (fun z => e z.1)]
        exact h1
  · have e : lowT T 0 a b v = T := by
      funext j x y
      unfold lowT
      rw [if_neg (fun z => h z.2)]
    refine ⟨0, σ, ?_, Or.inl rfl, ?_, fun _ => e, Ka.rf⟩
    · rw [if_neg (fun z => h ((nI_ltI (by omega) (by omega)).mp z))]
    · rw [e]; exact hT
theorem tget_8 {σ : ST} {N a b : Nat} {T : Nat → Nat → Nat → Nat} (hT : Tab σ N T) (hN : N ≤ 6) (ha : a < N) (hb : b < N) : f_Table_get_8 (nI a) (nI b) σ = nI (T 0 a b) := by
  unfold f_Table_get_8
  rw [l_6, mul_nI, add_nI, cell_in (by omega) (by decide)]
  exact (hT 0 a b (by decide) ha hb).1
theorem low_9 {σ : ST} {N a b v : Nat} {T : Nat → Nat → Nat → Nat} (hT : Tab σ N T) (hN : N ≤ 6) (ha : a < N) (hb : b < N) (hv : v < 2 ^ 20) : ∃ r σ', f_Table_lower_9 (nI a) (nI b) (nI v) σ = (r, σ') ∧ (r = 0 ∨ r = 1) ∧ Tab σ' N (lowT T 1 a b v) ∧ (r = 0 → lowT T 1 a b v = T) ∧ Ka σ σ' isT := by
  have h0 := hT 1 a b (by decide) ha hb
  have hidx : a * 6 + b < 36 := by omega
  have hg : f_Table_get_9 (nI a) (nI b) σ = nI (T 1 a b) := by
    unfold f_Table_get_9
    rw [l_6, mul_nI, add_nI, cell_in hidx (by decide)]
    exact h0.1
  unfold f_Table_lower_9
  rw [hg]
  by_cases h : v < T 1 a b
  · refine ⟨1, sA σ 13 (a * 6 + b) (nI v), ?_, Or.inr rfl, ?_, fun z => absurd z (by decide), Ka.sA (by unfold isT; omega)⟩
    · rw [if_pos (nI_lt h (by omega))]
      unfold f_Table_set_9
      rw [l_6, mul_nI, add_nI, put_in hidx (by decide)]
    · intro j x y hj hx hy
      have h1 := hT j x y hj hx hy
      rw [gA_sA']
      unfold lowT
      by_cases e : j = 1 ∧ x = a ∧ y = b
      · obtain ⟨rfl, rfl, rfl⟩ := e
        rw [if_pos ⟨by omega, rfl⟩, if_pos ⟨⟨rfl, rfl, rfl⟩, h⟩]
        exact ⟨rfl, by omega⟩
      · rw [if_neg (fun z => e ⟨by omega, by omega, by omega⟩), if_neg (fun z => e z.1)]
        exact h1
  · have e : lowT T 1 a b v = T := by
      funext j x y
      unfold lowT
      rw [if_neg (fun z => h z.2)]
    refine ⟨0, σ, ?_, Or.inl rfl, ?_, fun _ => e, Ka.rf⟩
    · rw [if_neg (fun z => h ((nI_ltI (by omega) (by omega)).mp z))]
    · rw [e]; exact hT
theorem tget_9 {σ : ST} {N a b : Nat} {T : Nat → Nat → Nat → Nat} (hT : Tab σ N T) (hN : N ≤ 6) (ha : a < N) (hb : b < N) : f_Table_get_9 (nI a) (nI b) σ = nI (T 1 a b) := by
  unfold f_Table_get_9
  rw [l_6, mul_nI, add_nI, cell_in (by omega) (by decide)]
  exact (hT 1 a b (by decide) ha hb).1
theorem low_10 {σ : ST} {N a b v : Nat} {T : Nat → Nat → Nat → Nat} (hT : Tab σ N T) (hN : N ≤ 6) (ha : a < N) (hb : b < N) (hv : v < 2 ^ 20) : ∃ r σ', f_Table_lower_10 (nI a) (nI b) (nI v) σ = (r, σ') ∧ (r = 0 ∨ r = 1) ∧ Tab σ' N (lowT T 2 a b v) ∧ (r = 0 → lowT T 2 a b v = T) ∧ Ka σ σ' isT := by
  have h0 := hT 2 a b (by decide) ha hb
  have hidx : a * 6 + b < 36 := by omega
  have hg : f_Table_get_10 (nI a) (nI b) σ = nI (T 2 a b) := by
    unfold f_Table_get_10
    rw [l_6, mul_nI, add_nI, cell_in hidx (by decide)]
    exact h0.1
  unfold f_Table_lower_10
  rw [hg]
  by_cases h : v < T 2 a b
  · refine ⟨1, sA σ 14 (a * 6 + b) (nI v), ?_, Or.inr rfl, ?_, fun z => absurd z (by decide), Ka.sA (by unfold isT; omega)⟩
    · rw [if_pos (nI_lt h (by omega))]
      unfold f_Table_set_10
      rw [l_6, mul_nI, add_nI, put_in hidx (by decide)]
    · intro j x y hj hx hy
      have h1 := hT j x y hj hx hy
      rw [gA_sA']
      unfold lowT
      by_cases e : j = 2 ∧ x = a ∧ y = b
      · obtain ⟨rfl, rfl, rfl⟩ := e
        rw [if_pos ⟨by omega, rfl⟩, if_pos ⟨⟨rfl, rfl, rfl⟩, h⟩]
        exact ⟨rfl, by omega⟩
      · rw [if_neg (fun z => e ⟨by omega, by omega, by omega⟩), if_neg (fun z => e z.1)]
        exact h1
  · have e : lowT T 2 a b v = T := by
      funext j x y
      unfold lowT
      rw [if_neg (fun z => h z.2)]
    refine ⟨0, σ, ?_, Or.inl rfl, ?_, fun _ => e, Ka.rf⟩
    · rw [if_neg (fun z => h ((nI_ltI (by omega) (by omega)).mp z))]
    · rw [e]; exact hT
theorem tget_10 {σ : ST} {N a b : Nat} {T : Nat → Nat → Nat → Nat} (hT : Tab σ N T) (hN : N ≤ 6) (ha : a < N) (hb : b < N) : f_Table_get_10 (nI a) (nI b) σ = nI (T 2 a b) := by
  unfold f_Table_get_10
  rw [l_6, mul_nI, add_nI, cell_in (by omega) (by decide)]
  exact (hT 2 a b (by decide) ha hb).1
theorem low_11 {σ : ST} {N a b v : Nat} {T : Nat → Nat → Nat → Nat} (hT : Tab σ N T) (hN : N ≤ 6) (ha : a < N) (hb : b < N) (hv : v < 2 ^ 20) : ∃ r σ', f_Table_lower_11 (nI a) (nI b) (nI v) σ = (r, σ') ∧ (r = 0 ∨ r = 1) ∧ Tab σ' N (lowT T 3 a b v) ∧ (r = 0 → lowT T 3 a b v = T) ∧ Ka σ σ' isT := by
  have h0 := hT 3 a b (by decide) ha hb
  have hidx : a * 6 + b < 36 := by omega
  have hg : f_Table_get_11 (nI a) (nI b) σ = nI (T 3 a b) := by
    unfold f_Table_get_11
    rw [l_6, mul_nI, add_nI, cell_in hidx (by decide)]
    exact h0.1
  unfold f_Table_lower_11
  rw [hg]
  by_cases h : v < T 3 a b
  · refine ⟨1, sA σ 15 (a * 6 + b) (nI v), ?_, Or.inr rfl, ?_, fun z => absurd z (by decide), Ka.sA (by unfold isT; omega)⟩
    · rw [if_pos (nI_lt h (by omega))]
      unfold f_Table_set_11
      rw [l_6, mul_nI, add_nI, put_in hidx (by decide)]
    · intro j x y hj hx hy
      have h1 := hT j x y hj hx hy
      rw [gA_sA']
      unfold lowT
      by_cases e : j = 3 ∧ x = a ∧ y = b
      · obtain ⟨rfl, rfl, rfl⟩ := e
        rw [if_pos ⟨by omega, rfl⟩, if_pos ⟨⟨rfl, rfl, rfl⟩, h⟩]
        exact ⟨rfl, by omega⟩
      · rw [if_neg (fun z => e ⟨by omega, by omega, by omega⟩), if_neg (fun z => e z.1)]
        exact h1
  · have e : lowT T 3 a b v = T := by
      funext j x y
      unfold lowT
      rw [if_neg (fun z => h z.2)]
    refine ⟨0, σ, ?_, Or.inl rfl, ?_, fun _ => e, Ka.rf⟩
    · rw [if_neg (fun z => h ((nI_ltI (by omega) (by omega)).mp z))]
    · rw [e]; exact hT
theorem tget_11 {σ : ST} {N a b : Nat} {T : Nat → Nat → Nat → Nat} (hT : Tab σ N T) (hN : N ≤ 6) (ha : a < N) (hb : b < N) : f_Table_get_11 (nI a) (nI b) σ = nI (T 3 a b) := by
  unfold f_Table_get_11
  rw [l_6, mul_nI, add_nI, cell_in (by omega) (by decide)]
  exact (hT 3 a b (by decide) ha hb).1
theorem or01 {x y : Int32} (hx : x = 0 ∨ x = 1) (hy : y = 0 ∨ y = 1) : (x ||| y = 0 ∨ x ||| y = 1) ∧ (x ||| y = 0 → x = 0 ∧ y = 0) := by
  rcases hx with rfl | rfl <;> rcases hy with rfl | rfl <;> decide
theorem and01 {x : Int32} (hx : x = 0 ∨ x = 1) : x &&& 1 = x := by
  rcases hx with rfl | rfl <;> decide
theorem Clo_E {σ : ST} {N : Nat} {kd : Nat → Nat} {go : Nat → Nat → Nat} (h : Mc σ N kd go) (i : Nat) : Clo (Ee kd go i) N := by
  intro a b ha hb e he
  have g : ∀ c w, c < N → w < 2 → go c w < N := fun c w hc hw => go_lt h hc hw
  have a0 := g a 0 ha (by decide)
  have a1 := g a 1 ha (by decide)
  have b0 := g b 0 hb (by decide)
  have b1 := g b 1 hb (by decide)
  unfold Ee Ew at he
  by_cases h0 : i = 0
  · subst h0
    simp at he
    rcases he with rfl | rfl <;> exact ⟨by assumption, by assumption⟩
  · by_cases h1 : i = 1
    · subst h1
      simp at he
      rcases he with rfl | rfl <;> exact ⟨by assumption, by assumption⟩
    · by_cases h2 : i = 2
      · subst h2
        simp at he
        rcases he with rfl | rfl | rfl | rfl <;> exact ⟨by assumption, by assumption⟩
      · simp [h0, h1, h2] at he
        rcases he with rfl | rfl <;> exact ⟨by assumption, by assumption⟩
/-- what one call of lowerBy does to the tables -/
def LB (kd : Nat → Nat) (go : Nat → Nat → Nat) (N a b : Nat) (l : Nat → List ED) (T T' : Nat → Nat → Nat → Nat) (r : Int32) : Prop :=
  (∀ j x y, T' j x y ≤ T j x y) ∧ (∀ j x y, ¬ (x = a ∧ y = b) → T' j x y = T j x y) ∧ (∀ j, j < 4 → ∀ e ∈ l j, T' j a b ≤ e.1 + T j e.2.1 e.2.2) ∧ (∀ j, j < 4 → Snd (Ee kd go j) (Gg kd j) N (T' j)) ∧ (r = 0 → T' = T)
set_option maxHeartbeats 4000000 in
theorem lowerBy_ok {σ : ST} {N a b w : Nat} {kd : Nat → Nat} {go : Nat → Nat → Nat} {T : Nat → Nat → Nat → Nat} (hM : Mc σ N kd go) (hT : Tab σ N T) (hs : ∀ j, j < 4 → Snd (Ee kd go j) (Gg kd j) N (T j)) (ha : a < N) (hb : b < N) (hw : w < 2) : ∃ r σ' T', f_Ways_lowerBy (nI a) (nI b) (nI w) σ = (r, σ') ∧ (r = 0 ∨ r = 1) ∧ Tab σ' N T' ∧ LB kd go N a b (fun i => Ew kd go i w a b) T T' r ∧ Ka σ σ' isT := by
  have hN := hM.1
  have hC : ∀ i, Clo (Ee kd go i) N := fun i => Clo_E hM i
  have hg : go a w < N := go_lt hM ha hw
  have hb0 : go b 0 < N := go_lt hM hb (by decide)
  have hb1 : go b 1 < N := go_lt hM hb (by decide)
  have hbw : go b w < N := go_lt hM hb hw
  have hnT4 : ¬ isT 4 := by unfold isT; omega
  have hnT5 : ¬ isT 5 := by unfold isT; omega
  have hnT6 : ¬ isT 6 := by unfold isT; omega
  have ein : ∀ (i : Nat) (e : ED), e ∈ Ew kd go i w a b → e ∈ Ee kd go i a b := by
    intro i e he
    unfold Ee
    rcases (show w = 0 ∨ w = 1 by omega) with q | q
    · subst q; exact List.mem_append_left _ he
    · subst q; exact List.mem_append_right _ he
  have hbn := bn_le kd (go a w)
  have t0 : ∀ j x y, j < 4 → x < N → y < N → T j x y ≤ 1000 := fun j x y hj hx hy => (hT j x y hj hx hy).2
  -- steps
  obtain ⟨r1, σ1, e1, z1, hT1, c1, k1⟩ := low_8 (v := 1 + T 0 (go a w) b) hT hN ha hb (by have := t0 0 (go a w) b (by decide) hg hb; omega)
  have s1 := lowT_snd (e := (1, go a w, b)) (hC 0) hs (by decide) ha hb (ein 0 _ (by unfold Ew; simp))
  generalize hT1e : lowT T 0 a b (1 + T 0 (go a w) b) = T1 at *
  have l1 : ∀ j x y, T1 j x y ≤ T j x y := fun j x y => by rw [← hT1e]; exact lowT_le ..
  have m1 : T1 0 a b ≤ 1 + T 0 (go a w) b := by rw [← hT1e]; exact lowT_at ..
  have n1 : ∀ j x y, ¬ (x = a ∧ y = b) → T1 j x y = T j x y := fun j x y h => by rw [← hT1e]; exact lowT_ne h
  have hM1 := hM.keep k1 hnT4 hnT5 hnT6
  obtain ⟨r2, σ2, e2, z2, hT2, c2, k2⟩ := low_9 (v := bn kd (go a w) + T1 1 (go a w) b) hT1 hN ha hb (by have := t0 1 (go a w) b (by decide) hg hb; have := l1 1 (go a w) b; omega)
  have s2 := lowT_snd (e := (bn kd (go a w), go a w, b)) (hC 1) s1 (by decide) ha hb (ein 1 _ (by unfold Ew; simp))
  generalize hT2e : lowT T1 1 a b (bn kd (go a w) + T1 1 (go a w) b) = T2 at *
  have l2 : ∀ j x y, T2 j x y ≤ T1 j x y := fun j x y => by rw [← hT2e]; exact lowT_le ..
  have m2 : T2 1 a b ≤ bn kd (go a w) + T1 1 (go a w) b := by rw [← hT2e]; exact lowT_at ..
  have n2 : ∀ j x y, ¬ (x = a ∧ y = b) → T2 j x y = T1 j x y := fun j x y h => by rw [← hT2e]; exact lowT_ne h
  have hM2 := hM1.keep k2 hnT4 hnT5 hnT6
  obtain ⟨r3, σ3, e3, z3, hT3, c3, k3⟩ := low_10 (v := 1 + T2 2 (go a w) (go b 0)) hT2 hN ha hb (by have := t0 2 (go a w) (go b 0) (by decide) hg hb0; have := l1 2 (go a w) (go b 0); have := l2 2 (go a w) (go b 0); omega)
  have s3 := lowT_snd (e := (1, go a w, go b 0)) (hC 2) s2 (by decide) ha hb (ein 2 _ (by unfold Ew; simp))
  generalize hT3e : lowT T2 2 a b (1 + T2 2 (go a w) (go b 0)) = T3 at *
  have l3 : ∀ j x y, T3 j x y ≤ T2 j x y := fun j x y => by rw [← hT3e]; exact lowT_le ..
  have m3 : T3 2 a b ≤ 1 + T2 2 (go a w) (go b 0) := by rw [← hT3e]; exact lowT_at ..
  have n3 : ∀ j x y, ¬ (x = a ∧ y = b) → T3 j x y = T2 j x y := fun j x y h => by rw [← hT3e]; exact lowT_ne h
  have hM3 := hM2.keep k3 hnT4 hnT5 hnT6
  obtain ⟨r4, σ4, e4, z4, hT4, c4, k4⟩ := low_10 (v := 1 + T3 2 (go a w) (go b 1)) hT3 hN ha hb (by have := t0 2 (go a w) (go b 1) (by decide) hg hb1; have := l1 2 (go a w) (go b 1); have := l2 2 (go a w) (go b 1); have := l3 2 (go a w) (go b 1); omega)
  have s4 := lowT_snd (e := (1, go a w, go b 1)) (hC 2) s3 (by decide) ha hb (ein 2 _ (by unfold Ew; simp))
  generalize hT4e : lowT T3 2 a b (1 + T3 2 (go a w) (go b 1)) = T4 at *
  have l4 : ∀ j x y, T4 j x y ≤ T3 j x y := fun j x y => by rw [← hT4e]; exact lowT_le ..
  have m4 : T4 2 a b ≤ 1 + T3 2 (go a w) (go b 1) := by rw [← hT4e]; exact lowT_at ..
  have n4 : ∀ j x y, ¬ (x = a ∧ y = b) → T4 j x y = T3 j x y := fun j x y h => by rw [← hT4e]; exact lowT_ne h
  have hM4 := hM3.keep k4 hnT4 hnT5 hnT6
  obtain ⟨r5, σ5, e5, z5, hT5, c5, k5⟩ := low_11 (v := 1 + T4 3 (go a w) (go b w)) hT4 hN ha hb (by have := t0 3 (go a w) (go b w) (by decide) hg hbw; have := l1 3 (go a w) (go b w); have := l2 3 (go a w) (go b w); have := l3 3 (go a w) (go b w); have := l4 3 (go a w) (go b w); omega)
  have s5 := lowT_snd (e := (1, go a w, go b w)) (hC 3) s4 (by decide) ha hb (ein 3 _ (by unfold Ew; simp))
  generalize hT5e : lowT T4 3 a b (1 + T4 3 (go a w) (go b w)) = T5 at *
  have l5 : ∀ j x y, T5 j x y ≤ T4 j x y := fun j x y => by rw [← hT5e]; exact lowT_le ..
  have m5 : T5 3 a b ≤ 1 + T4 3 (go a w) (go b w) := by rw [← hT5e]; exact lowT_at ..
  have n5 : ∀ j x y, ¬ (x = a ∧ y = b) → T5 j x y = T4 j x y := fun j x y h => by rw [← hT5e]; exact lowT_ne h
  have o1 := or01 z1 z2
  have o2 := or01 o1.1 z3
  have o3 := or01 o2.1 z4
  have o4 := or01 o3.1 z5
  refine ⟨(((r1 ||| r2) ||| r3) ||| r4) ||| r5, σ5, T5, ?_, o4.1, hT5, ?_, k1.tr (k2.tr (k3.tr (k4.tr k5)))⟩
  · unfold f_Ways_lowerBy f_Ways_apartAfter
    have w1 : f_Table_lower_8 (nI a) (nI b) (1 + f_Table_get_8 (f_Mine_leadsTo (nI a) (nI w) σ) (nI b) σ) σ = (r1, σ1) := by
      rw [m_leads hM ha hw, tget_8 hT hN hg hb, l_1, add_nI]; exact e1
    rw [w1]
    dsimp only
    have w2 : f_Table_lower_9 (nI a) (nI b) (f_Mine_oilTo (f_Mine_leadsTo (nI a) (nI w) σ) σ1 + f_Table_get_9 (f_Mine_leadsTo (nI a) (nI w) σ) (nI b) σ1) σ1 = (r2, σ2) := by
      rw [m_leads hM ha hw, tget_9 hT1 hN hg hb, m_oil hM1 hg, add_nI]; exact e2
    rw [w2]
    dsimp only
    have w3 : f_Table_lower_10 (nI a) (nI b) (1 + f_Table_get_10 (f_Mine_leadsTo (nI a) (nI w) σ) (f_Mine_leadsTo (nI b) 0 σ2) σ2) σ2 = (r3, σ3) := by
      rw [m_leads hM ha hw, l_0, m_leads hM2 hb (by decide), tget_10 hT2 hN hg hb0, l_1, add_nI]; exact e3
    rw [w3]
    dsimp only
    have w4 : f_Table_lower_10 (nI a) (nI b) (1 + f_Table_get_10 (f_Mine_leadsTo (nI a) (nI w) σ) (f_Mine_leadsTo (nI b) 1 σ3) σ3) σ3 = (r4, σ4) := by
      rw [m_leads hM ha hw, l_1, m_leads hM3 hb (by decide), tget_10 hT3 hN hg hb1, add_nI]; exact e4
    rw [w4]
    dsimp only
    have w5 : f_Table_lower_11 (nI a) (nI b) (1 + f_Table_get_11 (f_Mine_leadsTo (nI a) (nI w) σ4) (f_Mine_leadsTo (nI b) (nI w) σ4) σ4) σ4 = (r5, σ5) := by
      rw [m_leads hM4 ha hw, m_leads hM4 hb hw, tget_11 hT4 hN hg hbw, l_1, add_nI]; exact e5
    rw [w5]
    dsimp only
    rw [and01 o4.1]
  · refine ⟨fun j x y => ?_, fun j x y h => ?_, fun j hj e he => ?_, s5, fun hz => ?_⟩
    · have := l1 j x y; have := l2 j x y; have := l3 j x y; have := l4 j x y; have := l5 j x y
      omega
    · rw [n5 j x y h, n4 j x y h, n3 j x y h, n2 j x y h, n1 j x y h]
    · unfold Ew at he
      rcases (show j = 0 ∨ j = 1 ∨ j = 2 ∨ j = 3 by omega) with q | q | q | q
      · subst q
        simp at he
        subst he
        have := l2 0 a b; have := l3 0 a b; have := l4 0 a b; have := l5 0 a b
        show T5 0 a b ≤ 1 + T 0 (go a w) b
        omega
      · subst q
        simp at he
        subst he
        have := l1 1 (go a w) b; have := l3 1 a b; have := l4 1 a b; have := l5 1 a b
        show T5 1 a b ≤ bn kd (go a w) + T 1 (go a w) b
        omega
      · subst q
        simp at he
        rcases he with rfl | rfl
        · have := l1 2 (go a w) (go b 0); have := l2 2 (go a w) (go b 0); have := l4 2 a b; have := l5 2 a b
          show T5 2 a b ≤ 1 + T 2 (go a w) (go b 0)
          omega
        · have := l1 2 (go a w) (go b 1); have := l2 2 (go a w) (go b 1); have := l3 2 (go a w) (go b 1); have := l5 2 a b
          show T5 2 a b ≤ 1 + T 2 (go a w) (go b 1)
          omega
      · subst q
        simp at he
        subst he
        have := l1 3 (go a w) (go b w); have := l2 3 (go a w) (go b w); have := l3 3 (go a w) (go b w); have := l4 3 (go a w) (go b w)
        show T5 3 a b ≤ 1 + T 3 (go a w) (go b w)
        omega
    · obtain ⟨h3, q5⟩ := o4.2 hz
      obtain ⟨h2, q4⟩ := o3.2 h3
      obtain ⟨h1, q3⟩ := o2.2 h2
      obtain ⟨q1, q2⟩ := o1.2 h1
      rw [c5 q5, c4 q4, c3 q3, c2 q2, c1 q1]
