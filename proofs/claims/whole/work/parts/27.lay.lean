/-! THE REFERENCE'S MINE, and its least ways -/
def Mm (τ : ST) (N : Nat) (kd : Nat → Nat) (go : Nat → Nat → Nat) : Prop := N ≤ 6 ∧ gI τ 3106 = nI N ∧ (∀ c, c < N → kd c ≤ 4 ∧ gA τ 34 c = nI (kd c)) ∧ ∀ c, c < N → go c 0 < N ∧ go c 1 < N ∧ gA τ 35 (2 * c) = nI (go c 0) ∧ gA τ 35 (2 * c + 1) = nI (go c 1)
def scI (i : Nat) : Prop := i = 3103 ∨ i = 3104 ∨ i = 3105 ∨ i = 3118
def scA (a : Nat) : Prop := a = 33 ∨ a = 37 ∨ a = 38 ∨ a = 39
/-- only what the reference works with has changed -/
def Sm (τ τ' : ST) : Prop := (∀ i, ¬ scI i → gI τ' i = gI τ i) ∧ (∀ a, ¬ scA a → gA τ' a = gA τ a) ∧ gL τ' = gL τ
theorem Sm.rf {τ : ST} : Sm τ τ := ⟨fun _ _ => rfl, fun _ _ => rfl, rfl⟩
theorem Sm.tr {τ υ φ : ST} (h : Sm τ υ) (h2 : Sm υ φ) : Sm τ φ := ⟨fun i hi => (h2.1 i hi).trans (h.1 i hi), fun a ha => (h2.2.1 a ha).trans (h.2.1 a ha), h2.2.2.trans h.2.2⟩
theorem Ka.sm {τ υ : ST} {S : Nat → Prop} (h : Ka τ υ S) (hs : ∀ a, S a → scA a) : Sm τ υ := ⟨fun i _ => h.1 i, fun a ha => h.2.2 a (fun z => ha (hs a z)), h.2.1⟩
theorem Mm.keep {τ υ : ST} {N : Nat} {kd : Nat → Nat} {go : Nat → Nat → Nat} (h : Mm τ N kd go) (hk : Sm τ υ) : Mm υ N kd go := by
  obtain ⟨a1, a2, a3, a4⟩ := h
  refine ⟨a1, by rw [hk.1 3106 (by unfold scI; omega)]; exact a2, fun c hc => ?_, fun c hc => ?_⟩
  · rw [hk.2.1 34 (by unfold scA; omega)]; exact a3 c hc
  · rw [hk.2.1 35 (by unfold scA; omega)]; exact a4 c hc
section MM
variable {τ : ST} {N : Nat} {kd : Nat → Nat} {go : Nat → Nat → Nat}
theorem Mm.to (h : Mm τ N kd go) {c w : Nat} (hc : c < N) (hw : w < 2) : go c w < N ∧ gA τ 35 (2 * c + w) = nI (go c w) := by
  have := h.2.2.2 c hc
  rcases (show w = 0 ∨ w = 1 by omega) with e | e
  · subst e; exact ⟨this.1, this.2.2.1⟩
  · subst e; exact ⟨this.2.1, this.2.2.2⟩
theorem mm_sound (h : Mm τ N kd go) {c : Nat} (hc : c < N) : f_M_soundOf (nI c) τ = some (nI (sn kd c)) := by
  unfold f_M_soundOf sn
  have h6 := Nat.lt_of_lt_of_le hc h.1
  obtain ⟨hk, hg⟩ := h.2.2.1 c hc
  rw [if_pos (inB_t h6 (by decide)), nI_clamp (by omega), hg, l_1, l_4]
  by_cases e : kd c = 1
  · rw [if_pos (by rw [e]), if_pos e]
  · rw [if_neg (fun z => e (nI_inj (by omega) (by omega) z)), if_neg e, if_pos (inB_t h6 (by decide))]
    by_cases e2 : kd c = 4
    · rw [if_pos (by rw [e2]), if_pos e2]; rfl
    · rw [if_neg (fun z => e2 (nI_inj (by omega) (by omega) z)), if_neg e2]; rfl
theorem mm_burn (h : Mm τ N kd go) {c : Nat} (hc : c < N) : f_M_burnsAt (nI c) τ = some (nI (bn kd c)) := by
  unfold f_M_burnsAt bn
  have h6 := Nat.lt_of_lt_of_le hc h.1
  obtain ⟨hk, hg⟩ := h.2.2.1 c hc
  rw [if_pos (inB_t h6 (by decide)), nI_clamp (by omega), hg, l_3]
  by_cases e : kd c = 3
  · rw [if_pos (by rw [e]), if_pos e]
  · rw [if_neg (fun z => e (nI_inj (by omega) (by omega) z)), if_neg e]; rfl
end MM
theorem sA_same (σ : ST) (a k : Nat) : sA σ a k (gA σ a k) = σ := by
  unfold sA
  refine Prod.ext rfl (Prod.ext rfl ?_)
  funext b j
  show (if b = a then upd (σ.2.2 b) k (gA σ a k) else σ.2.2 b) j = σ.2.2 b j
  by_cases e : b = a
  · subst e
    rw [if_pos rfl, upd_at]
    by_cases q : j = k
    · rw [if_pos q, q]; rfl
    · rw [if_neg q]
  · rw [if_neg e]
/-- what it costs to come to c: 1 for steps (0), its oil (1) -/
def wt (kd : Nat → Nat) (i c : Nat) : Nat := if i = 0 then 1 else bn kd c
theorem wt_le (kd : Nat → Nat) (i c : Nat) : 1 ≤ wt kd i c ∧ wt kd i c ≤ 3 := by
  unfold wt
  by_cases h : i = 0
  · rw [if_pos h]; omega
  · rw [if_neg h]; exact bn_le kd c
theorem owi_succ {kd : Nat → Nat} {go : Nat → Nat → Nat} {i k w a c : Nat} (hi : i < 2) : ow (Ee kd go i) (Gg kd i) (k + 1) w a c ↔ ∃ x, x < 2 ∧ wt kd i (go a x) ≤ w ∧ ow (Ee kd go i) (Gg kd i) k (w - wt kd i (go a x)) (go a x) c := by
  rcases (show i = 0 ∨ i = 1 by omega) with q | q
  · subst q
    exact ow0_succ
  · subst q
    constructor
    · intro h
      obtain ⟨e, he, h1, h2⟩ := h
      unfold Ee Ew at he
      simp at he
      rcases he with rfl | rfl
      · exact ⟨0, by decide, h1, h2⟩
      · exact ⟨1, by decide, h1, h2⟩
    · intro h
      obtain ⟨x, hx, h1, h2⟩ := h
      refine ⟨(bn kd (go a x), go a x, c), ?_, h1, h2⟩
      unfold Ee Ew
      rcases (show x = 0 ∨ x = 1 by omega) with q | q <;> subst q <;> simp
theorem owi_zero {kd : Nat → Nat} {go : Nat → Nat → Nat} {i w a c : Nat} (hi : i < 2) : ow (Ee kd go i) (Gg kd i) 0 w a c ↔ a = c ∧ w = 0 := by
  show Gg kd i a c ∧ w = 0 ↔ _
  unfold Gg
  rw [if_neg (by omega)]
theorem ow_snoc {kd : Nat → Nat} {go : Nat → Nat → Nat} {i m x : Nat} (hi : i < 2) (hx : x < 2) : ∀ (k w a : Nat), ow (Ee kd go i) (Gg kd i) k w a m → ow (Ee kd go i) (Gg kd i) (k + 1) (w + wt kd i (go m x)) a (go m x) := by
  intro k
  induction k with
  | zero =>
    intro w a h
    obtain ⟨rfl, rfl⟩ := (owi_zero hi).mp h
    exact (owi_succ hi).mpr ⟨x, hx, by omega, (owi_zero hi).mpr ⟨rfl, by omega⟩⟩
  | succ k ih =>
    intro w a h
    obtain ⟨y, hy, h1, h2⟩ := (owi_succ hi).mp h
    refine (owi_succ hi).mpr ⟨y, hy, by omega, ?_⟩
    have := ih _ _ h2
    rwa [show w + wt kd i (go m x) - wt kd i (go a y) = w - wt kd i (go a y) + wt kd i (go m x) by omega]
theorem ow_last {kd : Nat → Nat} {go : Nat → Nat → Nat} {i N : Nat} (hi : i < 2) (hgo : ∀ c w, c < N → w < 2 → go c w < N) : ∀ (k w a c : Nat), a < N → ow (Ee kd go i) (Gg kd i) (k + 1) w a c → ∃ m x, m < N ∧ x < 2 ∧ c = go m x ∧ wt kd i c ≤ w ∧ ow (Ee kd go i) (Gg kd i) k (w - wt kd i c) a m := by
  intro k
  induction k with
  | zero =>
    intro w a c ha h
    obtain ⟨y, hy, h1, h2⟩ := (owi_succ hi).mp h
    obtain ⟨h3, h4⟩ := (owi_zero hi).mp h2
    subst h3
    exact ⟨a, y, ha, hy, rfl, h1, (owi_zero hi).mpr ⟨rfl, h4⟩⟩
  | succ k ih =>
    intro w a c ha h
    obtain ⟨y, hy, h1, h2⟩ := (owi_succ hi).mp h
    obtain ⟨m, x, hm, hx, e, h3, h4⟩ := ih _ _ _ (hgo a y ha hy) h2
    refine ⟨m, x, hm, hx, e, by omega, (owi_succ hi).mpr ⟨y, hy, by omega, ?_⟩⟩
    rwa [show w - wt kd i c - wt kd i (go a y) = w - wt kd i (go a y) - wt kd i c by omega]
def isF (a : Nat) : Prop := a = 37
/-- the row of the least costs from a crossing -/
def FR (τ : ST) (F : Nat → Nat) : Prop := ∀ c, c < 6 → gA τ 37 c = nI (F c) ∧ F c ≤ 9999
def rlx (kd : Nat → Nat) (i m t : Nat) (F : Nat → Nat) : Nat → Nat := fun c => if c = t ∧ F m < 9999 ∧ F m + wt kd i t < F t then F m + wt kd i t else F c
theorem FR_put {τ : ST} {F : Nat → Nat} {kd : Nat → Nat} {i m t : Nat} (h : FR τ F) (hm : F m < 9999) (hl : F m + wt kd i t < F t) (ht : t < 6) : FR (sA τ 37 t (nI (F m + wt kd i t))) (rlx kd i m t F) := by
  intro c hc
  rw [gA_sA']
  unfold rlx
  have h2 := h t ht
  by_cases e : c = t
  · rw [if_pos ⟨rfl, e⟩, if_pos ⟨e, hm, hl⟩]
    exact ⟨rfl, by omega⟩
  · rw [if_neg (fun z => e z.2), if_neg (fun z => e z.1)]
    exact h c hc
theorem rlx_no {F : Nat → Nat} {kd : Nat → Nat} {i m t : Nat} (h : ¬ (F m < 9999 ∧ F m + wt kd i t < F t)) : rlx kd i m t F = F := by
  funext c
  unfold rlx
  rw [if_neg (fun z => h z.2)]
set_option maxHeartbeats 1000000 in
theorem lay_edge {τ : ST} {N i k n : Nat} {kd : Nat → Nat} {go : Nat → Nat → Nat} {F : Nat → Nat} {x3 : Int32} (hi : i < 2) (hM : Mm τ N kd go) (hF : FR τ F) (hk : k < 2 * N) : ∃ τ', f_M_layFar_L43 (n + 1) (nI i) x3 (nI k) τ = f_M_layFar_L43 n (nI i) x3 (nI (k + 1)) τ' ∧ FR τ' (rlx kd i (k / 2) (go (k / 2) (k % 2)) F) ∧ Ka τ τ' isF := by
  have hN := hM.1
  have hm : k / 2 < N := by omega
  obtain ⟨ht, hg⟩ := hM.to hm (show k % 2 < 2 by omega)
  have hto : gA τ 35 k = nI (go (k / 2) (k % 2)) := by rw [← hg]; congr 1; omega
  generalize htt : go (k / 2) (k % 2) = t at *
  have c4 : (nI k).toNatClampNeg = k := nI_clamp (by omega)
  have d2 : nI k / 2 = nI (k / 2) := by rw [l_2, pk_div (by omega) (by decide) (by decide)]
  have cm : (nI (k / 2)).toNatClampNeg = k / 2 := nI_clamp (by omega)
  have ct : (nI t).toNatClampNeg = t := nI_clamp (by omega)
  have i1 : inB (nI k) 12 = true := inB_t (by omega) (by decide)
  have i2 : inB (nI (k / 2)) 6 = true := inB_t (by omega) (by decide)
  have i3 : inB (nI t) 6 = true := inB_t (by omega) (by decide)
  obtain ⟨f1, f2⟩ := hF (k / 2) (by omega)
  obtain ⟨g1, g2⟩ := hF t (by omega)
  have hw := wt_le kd i t
  have h0 : ¬ (2 : Int32) * gI τ 3106 ≤ nI k := by
    rw [hM.2.1, l_2, mul_nI]
    exact nI_ge hk (by omega)
  have key : f_M_layFar_L43 (n + 1) (nI i) x3 (nI k) τ = if nI 9999 ≤ nI (F (k / 2)) then f_M_layFar_L43 n (nI i) x3 (nI (k + 1)) τ else if nI (F t) ≤ nI (F (k / 2) + wt kd i t) then f_M_layFar_L43 n (nI i) x3 (nI (k + 1)) τ else f_M_layFar_L43 n (nI i) x3 (nI (k + 1)) (sA τ 37 t (nI (F (k / 2) + wt kd i t))) := by
    rw [f_M_layFar_L43, if_neg h0]
    simp only [c4, d2, cm, hto, ct, i1, i2, i3, f1, nI_1, eq_self, ↓reduceIte]
    have es : sA τ 37 t (gA τ 37 t) = τ := sA_same τ 37 t
    rcases (show i = 0 ∨ i = 1 by omega) with q | q
    · subst q
      rw [if_pos (show nI 0 = 0 from rfl), es, g1, ← l_9999]
      rfl
    · subst q
      rw [if_neg (by decide), mm_burn hM ht]
      show (if (9999 : Int32) ≤ nI (F (k / 2)) then _ else if gA τ 37 t ≤ nI (F (k / 2)) + nI (bn kd t) then _ else f_M_layFar_L43 n (nI 1) x3 (nI (k + 1)) (sA τ 37 t (nI (F (k / 2)) + nI (bn kd t)))) = _
      rw [es, g1, add_nI]
      rfl
  rw [key]
  by_cases q1 : F (k / 2) < 9999
  · rw [if_neg (nI_ge q1 (by omega))]
    by_cases q2 : F (k / 2) + wt kd i t < F t
    · rw [if_neg (nI_ge q2 (by omega))]
      exact ⟨_, rfl, FR_put hF q1 q2 (by omega), Ka.sA rfl⟩
    · rw [if_pos (nI_le (by omega) (by omega))]
      exact ⟨τ, rfl, by rw [rlx_no (fun z => q2 z.2)]; exact hF, Ka.rf⟩
  · rw [if_pos (nI_le (by omega) (by omega))]
    exact ⟨τ, rfl, by rw [rlx_no (fun z => q1 z.1)]; exact hF, Ka.rf⟩
/-- values are costs of walks from s -/
def FS (kd : Nat → Nat) (go : Nat → Nat → Nat) (N i s : Nat) (F : Nat → Nat) : Prop := ∀ c, F c < 9999 → c < N ∧ oc (Ee kd go i) (Gg kd i) s c (F c)
def FC (kd : Nat → Nat) (go : Nat → Nat → Nat) (i s r : Nat) (F : Nat → Nat) : Prop := ∀ k w c, k ≤ r → ow (Ee kd go i) (Gg kd i) k w s c → F c ≤ w
theorem rlx_le {F : Nat → Nat} {kd : Nat → Nat} {i m t : Nat} (c : Nat) : rlx kd i m t F c ≤ F c := by
  unfold rlx
  by_cases h : c = t ∧ F m < 9999 ∧ F m + wt kd i t < F t
  · rw [if_pos h, h.1]; omega
  · rw [if_neg h]; omega
theorem rlx_at {F : Nat → Nat} {kd : Nat → Nat} {i m t : Nat} (h : F m < 9999) : rlx kd i m t F t ≤ F m + wt kd i t := by
  unfold rlx
  by_cases q : F m + wt kd i t < F t
  · rw [if_pos ⟨rfl, h, q⟩]; omega
  · rw [if_neg (fun z => q z.2.2)]; omega
theorem rlx_FS {kd : Nat → Nat} {go : Nat → Nat → Nat} {N i s m x : Nat} {F : Nat → Nat} (hi : i < 2) (hgo : ∀ c w, c < N → w < 2 → go c w < N) (hx : x < 2) (h : FS kd go N i s F) : FS kd go N i s (rlx kd i m (go m x) F) := by
  intro c hc
  unfold rlx at hc ⊢
  by_cases q : c = go m x ∧ F m < 9999 ∧ F m + wt kd i (go m x) < F (go m x)
  · rw [if_pos q] at hc ⊢
    obtain ⟨hm, k, hk⟩ := h m q.2.1
    obtain ⟨rfl, -, -⟩ := q
    exact ⟨hgo m x hm hx, k + 1, ow_snoc hi hx _ _ _ hk⟩
  · rw [if_neg q] at hc ⊢
    exact h c hc
/-- a round of the edges: F0 at its start, F at edge k -/
theorem lay_round {N i s : Nat} {kd : Nat → Nat} {go : Nat → Nat → Nat} {F0 : Nat → Nat} {x3 : Int32} (hi : i < 2) : ∀ (n k : Nat) (τ : ST) (F : Nat → Nat), 2 * N - k < n → k ≤ 2 * N → Mm τ N kd go → FR τ F → FS kd go N i s F → (∀ c, F c ≤ F0 c) → (∀ j, j < k → F0 (j / 2) < 9999 → F (go (j / 2) (j % 2)) ≤ F0 (j / 2) + wt kd i (go (j / 2) (j % 2))) →
    ∃ τ' F', f_M_layFar_L43 n (nI i) x3 (nI k) τ = some τ' ∧ Mm τ' N kd go ∧ FR τ' F' ∧ FS kd go N i s F' ∧ (∀ c, F' c ≤ F0 c) ∧ (∀ m x, m < N → x < 2 → F0 m < 9999 → F' (go m x) ≤ F0 m + wt kd i (go m x)) ∧ Ka τ τ' isF := by
  intro n
  induction n with
  | zero => intro k τ F h; omega
  | succ n ih =>
    intro k τ F hn hkN hM hF hS hle hdone
    have hN := hM.1
    have hgo : ∀ c w, c < N → w < 2 → go c w < N := fun c w hc hw => (hM.to hc hw).1
    by_cases hk : k < 2 * N
    · obtain ⟨τ1, e1, hF1, k1⟩ := lay_edge (n := n) (x3 := x3) hi hM hF hk
      rw [e1]
      have hM1 := hM.keep (k1.sm (fun a h => by unfold isF at h; unfold scA; omega))
      obtain ⟨τ', F', f1, f2, f3, f4, f5, f6, f7⟩ := ih (k + 1) τ1 _ (by omega) (by omega) hM1 hF1 (rlx_FS hi hgo (by omega) hS) (fun c => Nat.le_trans (rlx_le c) (hle c)) (by
        intro j hj h9
        by_cases e : j = k
        · subst e
          have h1 := hle (j / 2)
          have := rlx_at (kd := kd) (i := i) (t := go (j / 2) (j % 2)) (show F (j / 2) < 9999 by omega)
          omega
        · exact Nat.le_trans (rlx_le _) (hdone j (by omega) h9))
      exact ⟨τ', F', f1, f2, f3, f4, f5, f6, k1.tr f7⟩
    · have hke : k = 2 * N := by omega
      subst hke
      rw [f_M_layFar_L43, hM.2.1, l_2, mul_nI, if_pos (nI_le (Nat.le_refl _) (by omega))]
      refine ⟨τ, F, rfl, hM, hF, hS, hle, fun m x hm hx h9 => ?_, Ka.rf⟩
      have := hdone (2 * m + x) (by omega) (by rwa [show (2 * m + x) / 2 = m by omega])
      rwa [show (2 * m + x) / 2 = m by omega, show (2 * m + x) % 2 = x by omega] at this
theorem lay_rounds {N i s : Nat} {kd : Nat → Nat} {go : Nat → Nat → Nat} (hi : i < 2) (hs : s < N) : ∀ (n r : Nat) (τ : ST) (F : Nat → Nat), 6 - r < n → r ≤ 6 → Mm τ N kd go → FR τ F → FS kd go N i s F → FC kd go i s r F →
    ∃ τ' F', f_M_layFar_L34 n (nI i) (nI r) τ = some τ' ∧ Mm τ' N kd go ∧ FR τ' F' ∧ FS kd go N i s F' ∧ FC kd go i s 6 F' ∧ Ka τ τ' isF := by
  intro n
  induction n with
  | zero => intro r τ F h; omega
  | succ n ih =>
    intro r τ F hn hr6 hM hF hS hC
    have hgo : ∀ c w, c < N → w < 2 → go c w < N := fun c w hc hw => (hM.to hc hw).1
    rw [f_M_layFar_L34, l_6]
    by_cases hr : r < 6
    · rw [if_neg (nI_ge hr (by omega))]
      obtain ⟨τ1, F1, e1, hM1, hF1, hS1, hle, hdone, k1⟩ := lay_round (F0 := F) (x3 := nI r) hi 400 0 τ F (by have := hM.1; omega) (by omega) hM hF hS (fun _ => Nat.le_refl _) (fun j hj => by omega)
      have e1' : f_M_layFar_L43 400 (nI i) (nI r) 0 τ = some τ1 := e1
      rw [e1']
      show ∃ τ' F', f_M_layFar_L34 n (nI i) (nI r + 1) τ1 = some τ' ∧ _
      rw [nI_1]
      obtain ⟨τ', F', f1, f2, f3, f4, f5, f6⟩ := ih (r + 1) τ1 F1 (by omega) (by omega) hM1 hF1 hS1 (by
        intro k w c hk ho
        cases k with
        | zero => exact Nat.le_trans (hle c) (hC 0 w c (by omega) ho)
        | succ k =>
          obtain ⟨m, x, hm, hx, e, h1, h2⟩ := ow_last hi hgo k w s c hs ho
          have h3 := hC k _ m (by omega) h2
          have h4 := cost_le (E_cost i) _ _ _ _ ho
          have h5 := hdone m x hm hx (by omega)
          rw [← e] at h5
          omega)
      exact ⟨τ', F', f1, f2, f3, f4, f5, k1.tr f6⟩
    · have : r = 6 := by omega
      subst this
      rw [if_pos (nI_le (Nat.le_refl _) (by omega))]
      exact ⟨τ, F, rfl, hM, hF, hS, hC, Ka.rf⟩
theorem lay_init {s : Nat} (hs : s < 6) {x2 : Int32} : ∀ (n c : Nat) (τ : ST), 6 - c < n → c ≤ 6 → (∀ j, j < c → gA τ 37 j = nI (if j = s then 0 else 9999)) → ∃ τ', f_M_layFar_L2 n (nI s) x2 (nI c) τ = some τ' ∧ FR τ' (fun j => if j = s then 0 else 9999) ∧ Ka τ τ' isF := by
  intro n
  induction n with
  | zero => intro c τ h; omega
  | succ n ih =>
    intro c τ hn hc6 h
    rw [f_M_layFar_L2, l_6]
    by_cases hc : c < 6
    · rw [if_neg (nI_ge hc (by omega)), if_pos (inB_t hc (by decide)), if_pos (inB_t hc (by decide)), nI_clamp (by omega), nI_1]
      have step : ∀ v : Nat, (if c = s then 0 else 9999) = v → ∃ τ', f_M_layFar_L2 n (nI s) x2 (nI (c + 1)) (sA τ 37 c (nI v)) = some τ' ∧ FR τ' (fun j => if j = s then 0 else 9999) ∧ Ka τ τ' isF := by
        intro v hv
        obtain ⟨τ', f1, f2, f3⟩ := ih (c + 1) (sA τ 37 c (nI v)) (by omega) (by omega) (by
          intro j hj
          rw [gA_sA']
          by_cases e : j = c
          · subst e; rw [if_pos ⟨rfl, rfl⟩, hv]
          · rw [if_neg (fun z => e z.2)]; exact h j (by omega))
        exact ⟨τ', f1, f2, (Ka.sA (S := isF) rfl).tr f3⟩
      by_cases e : c = s
      · rw [if_pos (by rw [e])]
        exact step 0 (by rw [if_pos e])
      · rw [if_neg (fun z => e (nI_inj (by omega) (by omega) z))]
        exact step 9999 (by rw [if_neg e])
    · have : c = 6 := by omega
      subst this
      rw [if_pos (nI_le (Nat.le_refl _) (by omega))]
      refine ⟨τ, rfl, fun j hj => ⟨h j hj, ?_⟩, Ka.rf⟩
      by_cases e : j = s
      · simp only [if_pos e]; omega
      · simp only [if_neg e]; omega
/-- layFar: the least costs from s -/
theorem layFar_ok {τ : ST} {N i s : Nat} {kd : Nat → Nat} {go : Nat → Nat → Nat} (hi : i < 2) (hs : s < N) (hM : Mm τ N kd go) : ∃ τ' F, f_M_layFar (nI s) (nI i) τ = some τ' ∧ FR τ' F ∧ (∀ c, c < N → Lst (oc (Ee kd go i) (Gg kd i) s c) 9999 (F c)) ∧ Ka τ τ' isF := by
  have hN := hM.1
  have hgo : ∀ c w, c < N → w < 2 → go c w < N := fun c w hc hw => (hM.to hc hw).1
  obtain ⟨τ1, e1, hF1, k1⟩ := lay_init (x2 := nI i) (show s < 6 by omega) 400 0 τ (by omega) (by omega) (fun j hj => by omega)
  have hM1 := hM.keep (k1.sm (fun a h => by unfold isF at h; unfold scA; omega))
  obtain ⟨τ2, F, e2, hM2, hF2, hS2, hC2, k2⟩ := lay_rounds hi hs 400 0 τ1 _ (by omega) (by omega) hM1 hF1 (by
    intro c hc
    by_cases e : c = s
    · subst e
      simp only [if_pos]
      exact ⟨hs, 0, (owi_zero hi).mpr ⟨rfl, rfl⟩⟩
    · simp only [if_neg e] at hc
      omega) (by
    intro k w c hk ho
    have : k = 0 := by omega
    subst this
    obtain ⟨e, h2⟩ := (owi_zero hi).mp ho
    show (if c = s then 0 else 9999) ≤ w
    rw [if_pos e.symm]
    omega)
  refine ⟨τ2, F, ?_, hF2, fun c hc => ?_, k1.tr k2⟩
  · unfold f_M_layFar
    have e1' : f_M_layFar_L2 400 (nI s) (nI i) 0 τ = some τ1 := e1
    rw [e1']
    show (f_M_layFar_L34 400 (nI i) 0 τ1).bind _ = _
    have e2' : f_M_layFar_L34 400 (nI i) 0 τ1 = some τ2 := e2
    rw [e2']
    rfl
  · have low : ∀ j, oc (Ee kd go i) (Gg kd i) s c j → F c ≤ j ∧ F c < 9999 := by
      intro j ⟨k, hk⟩
      obtain ⟨k', v, hsh⟩ := sh_ex hk
      have l1 := sh_lt1 (E01 hi hgo) hs hsh
      have l2 := hC2 k' v c (by omega) hsh.1
      have l3 := hsh.2.1 _ _ hk
      have l4 := cost_le (E_cost i) _ _ _ _ hsh.1
      exact ⟨by omega, by omega⟩
    by_cases q : F c < 9999
    · exact Or.inl ⟨(hS2 c q).2, q, fun j hj => (low j hj).1⟩
    · have := (hF2 c (by omega)).2
      exact Or.inr ⟨by omega, fun j hj => by have := (low j hj).2; omega⟩
