/-! THE THREE SEARCHES of the reference -/
theorem d_nI {k d : Nat} (hk : k < 2 ^ 31) (h0 : 0 < d) (hd : d < 2 ^ 31) : nI k / nI d = nI (k / d) := pk_div hk h0 hd
theorem r_nI {k d : Nat} (hk : k < 2 ^ 31) (h0 : 0 < d) (hd : d < 2 ^ 31) : nI k - nI k / nI d * nI d = nI (k % d) := pk_rem hk h0 hd
def Vp (N s : Nat) : Prop := s / 6 < N ∧ s % 6 < N
theorem begin_loop {x1 x2 : Int32} : ∀ (n c : Nat) (τ : ST), 36 - c < n → c ≤ 36 → (∀ j, j < c → gA τ 39 j = nI 9999) → ∃ τ', f_M_beginPair_L2 n x1 x2 (nI c) τ = some τ' ∧ (∀ j, j < 36 → gA τ' 39 j = nI 9999) ∧ Ka τ τ' (fun a => a = 39) := by
  intro n
  induction n with
  | zero => intro c τ h; omega
  | succ n ih =>
    intro c τ hn hc36 h
    rw [f_M_beginPair_L2, l_36]
    by_cases hc : c < 36
    · rw [if_neg (nI_ge hc (by omega)), if_pos (inB_t hc (by decide)), nI_clamp (by omega), nI_1]
      obtain ⟨τ', f1, f2, f3⟩ := ih (c + 1) (sA τ 39 c 9999) (by omega) (by omega) (by
        intro j hj
        rw [gA_sA']
        by_cases e : j = c
        · rw [if_pos ⟨rfl, e⟩]; rfl
        · rw [if_neg (fun z => e z.2)]; exact h j (by omega))
      exact ⟨τ', f1, f2, (Ka.sA (S := fun a => a = 39) rfl).tr f3⟩
    · have : c = 36 := by omega
      subst this
      rw [if_pos (nI_le (Nat.le_refl _) (by omega))]
      exact ⟨τ, rfl, h, Ka.rf⟩
theorem begin_ok {τ : ST} {a b : Nat} (ha : a < 6) (hb : b < 6) : ∃ τ', f_M_beginPair (nI a) (nI b) τ = some τ' ∧ FQ τ' 39 36 (fun s => if s = 6 * a + b then 0 else 9999) ∧ Ka τ τ' (fun a => a = 39) := by
  obtain ⟨τ1, e1, h1, k1⟩ := begin_loop (x1 := nI a) (x2 := nI b) 400 0 τ (by omega) (by omega) (fun j hj => by omega)
  refine ⟨sA τ1 39 (6 * a + b) 0, ?_, ⟨fun s hs => ?_, fun s => ?_⟩, k1.tr (Ka.sA (S := fun a => a = 39) rfl)⟩
  · unfold f_M_beginPair
    have e1' : f_M_beginPair_L2 400 (nI a) (nI b) 0 τ = some τ1 := e1
    rw [e1']
    show (if inB (6 * nI a + nI b) 36 = true then some (sA τ1 39 (6 * nI a + nI b).toNatClampNeg 0) else none) = _
    rw [l_6, mul_nI, add_nI, if_pos (inB_t (by omega) (by decide)), nI_clamp (by omega)]
  · rw [gA_sA']
    show _ = nI (if s = 6 * a + b then 0 else 9999)
    by_cases e : s = 6 * a + b
    · rw [if_pos ⟨rfl, e⟩, if_pos e]; rfl
    · rw [if_neg (fun z => e z.2), if_neg e]; exact h1 s hs
  · by_cases e : s = 6 * a + b
    · simp only [if_pos e]; omega
    · simp only [if_neg e]; omega

def nx_meet (go : Nat → Nat → Nat) (s w : Nat) : Nat := 6 * go (s / 6) (w / 2) + go (s % 6) (w % 2)
def G_meet (kd : Nat → Nat) (s : Nat) : Prop := s / 6 = s % 6
theorem meet_V {τ : ST} {N : Nat} {kd : Nat → Nat} {go : Nat → Nat → Nat} (hM : Mm τ N kd go) : ∀ s w, Vp N s → w < 4 → Vp N (nx_meet go s w) := by
  intro s w h hw
  have hN := hM.1
  have h1 := (hM.to h.1 (show w / 2 < 2 by omega)).1
  have h2 := (hM.to h.2 (show w % 2 < 2 by omega)).1
  unfold nx_meet Vp
  constructor
  · rw [show (6 * go (s / 6) (w / 2) + go (s % 6) (w % 2)) / 6 = go (s / 6) (w / 2) by omega]; exact h1
  · rw [show (6 * go (s / 6) (w / 2) + go (s % 6) (w % 2)) % 6 = go (s % 6) (w % 2) by omega]; exact h2
set_option maxHeartbeats 1000000 in
theorem meet_H1 {N : Nat} {kd : Nat → Nat} {go : Nat → Nat → Nat} (τ : ST) (F : Nat → Nat) (n t k w : Nat) (hM : Mm τ N kd go) (hF : FQ τ 39 36 F) (hV : Vp N k) (ht : t < 100) (hFk : F k = t) (hw : w < 4) : f_M_meetOf_L53 (n + 1) (nI t) (nI k) (nI w) τ = f_M_meetOf_L53 n (nI t) (nI k) (nI (w + 1)) (if F (nx_meet go k w) = 9999 then sA τ 39 (nx_meet go k w) (nI (t + 1)) else τ) := by
  have hN := hM.1
  obtain ⟨v1, v2⟩ := id hV
  have hk : k < 36 := by omega
  obtain ⟨a1, a2⟩ := hM.to v1 (show w / 2 < 2 by omega)
  obtain ⟨b1, b2⟩ := hM.to v2 (show w % 2 < 2 by omega)
  have hnx : nx_meet go k w = 6 * go (k / 6) (w / 2) + go (k % 6) (w % 2) := rfl
  have hnl : nx_meet go k w < 36 := by rw [hnx]; omega
  have e1 : ((2 : Int32) * (nI k / (6 : Int32))) + (nI w / (2 : Int32)) = nI (2 * (k / 6) + w / 2) := by
    rw [l_2, l_6, d_nI (show k < 2 ^ 31 by omega) (by decide) (by decide), d_nI (show w < 2 ^ 31 by omega) (by decide) (by decide), mul_nI, add_nI]
  have e2 : ((2 : Int32) * (nI k - nI k / (6 : Int32) * (6 : Int32))) + (nI w - nI w / (2 : Int32) * (2 : Int32)) = nI (2 * (k % 6) + w % 2) := by
    rw [l_2, l_6, r_nI (show k < 2 ^ 31 by omega) (by decide) (by decide), r_nI (show w < 2 ^ 31 by omega) (by decide) (by decide), mul_nI, add_nI]
  have e3 : (6 : Int32) * nI (go (k / 6) (w / 2)) + nI (go (k % 6) (w % 2)) = nI (nx_meet go k w) := by
    rw [l_6, mul_nI, add_nI]; rfl
  have c0 : (nI k).toNatClampNeg = k := nI_clamp (by omega)
  have c1 : (nI (2 * (k / 6) + w / 2)).toNatClampNeg = 2 * (k / 6) + w / 2 := nI_clamp (by omega)
  have c2 : (nI (2 * (k % 6) + w % 2)).toNatClampNeg = 2 * (k % 6) + w % 2 := nI_clamp (by omega)
  have c3 : (nI (nx_meet go k w)).toNatClampNeg = nx_meet go k w := nI_clamp (by omega)
  have i0 : inB (nI k) 36 = true := inB_t hk (by decide)
  have i1 : inB (nI (2 * (k / 6) + w / 2)) 12 = true := inB_t (by omega) (by decide)
  have i2 : inB (nI (2 * (k % 6) + w % 2)) 12 = true := inB_t (by omega) (by decide)
  have i3 : inB (nI (nx_meet go k w)) 36 = true := inB_t hnl (by decide)
  have f0 : gA τ 39 k = nI t := by rw [hF.1 k hk, hFk]
  have f1 : gA τ 39 (nx_meet go k w) = nI (F (nx_meet go k w)) := hF.1 _ hnl
  have es : sA τ 39 (nx_meet go k w) (gA τ 39 (nx_meet go k w)) = τ := sA_same ..
  rw [f_M_meetOf_L53, if_neg (show ¬ (4 : Int32) ≤ nI w from by rw [l_4]; exact nI_ge hw (by decide))]
  simp only [e1, e2, c0, c1, c2, a2, b2, e3, c3, i0, i1, i2, i3, f0, es, nI_1, eq_self, ↓reduceIte]
  rw [f1, l_9999]
  have hle := hF.2 (nx_meet go k w)
  by_cases q : F (nx_meet go k w) = 9999
  · rw [if_pos (by rw [q]), if_pos q]
  · rw [if_neg (fun z => q (nI_inj (by omega) (by omega) z)), if_neg q]
theorem meet_H2 (τ : ST) (n t k : Nat) : f_M_meetOf_L53 (n + 1) (nI t) (nI k) (nI 4) τ = some τ := by
  rw [f_M_meetOf_L53, l_4, if_pos (nI_le (Nat.le_refl _) (by decide))]
theorem meet_H3 (τ : ST) (F : Nat → Nat) (n t k w : Nat) (hF : FQ τ 39 36 F) (hk : k < 36) (ht : t < 100) (hFk : F k ≠ t) (hw : w < 4) : f_M_meetOf_L53 (n + 1) (nI t) (nI k) (nI w) τ = some τ := by
  have hle := hF.2 k
  rw [f_M_meetOf_L53, if_neg (show ¬ (4 : Int32) ≤ nI w from by rw [l_4]; exact nI_ge hw (by decide)), if_pos (inB_t hk (by decide)), nI_clamp (by omega), hF.1 k hk, if_neg (fun z => hFk (nI_inj (by omega) (by omega) z))]
theorem meet_H4 {N : Nat} {kd : Nat → Nat} {go : Nat → Nat → Nat} (τ : ST) (F : Nat → Nat) (n t k : Nat) (hM : Mm τ N kd go) (hF : FQ τ 39 36 F) (hV : Vp N k) (hk : k < 36) (ht : t < 100) (hFk : F k = t) (hG : G_meet kd k) : f_M_meetOf_L17 (n + 1) (nI t) (nI k) τ = some (.inr (nI t, τ)) := by
  have hG : k / 6 = k % 6 := hG
  rw [f_M_meetOf_L17, l_36, if_neg (nI_ge hk (by decide)), if_pos (inB_t hk (by decide)), nI_clamp (by omega), hF.1 k hk, hFk, if_pos rfl, l_6, r_nI (by omega) (by decide) (by decide), d_nI (by omega) (by decide) (by decide), if_pos (by rw [hG])]
theorem meet_H5 {N : Nat} {kd : Nat → Nat} {go : Nat → Nat → Nat} (τ : ST) (F : Nat → Nat) (n t k : Nat) (hM : Mm τ N kd go) (hF : FQ τ 39 36 F) (hk : k < 36) (ht : t < 100) (h : F k ≠ t ∨ (Vp N k ∧ ¬ G_meet kd k)) : f_M_meetOf_L17 (n + 1) (nI t) (nI k) τ = (f_M_meetOf_L53 400 (nI t) (nI k) (nI 0) τ).bind (fun e => f_M_meetOf_L17 n (nI t) (nI (k + 1)) e) := by
  have hle := hF.2 k
  rw [f_M_meetOf_L17, l_36, if_neg (nI_ge hk (by decide)), if_pos (inB_t hk (by decide)), nI_clamp (by omega), hF.1 k hk, nI_1]
  by_cases q : F k = t
  · rw [if_pos (by rw [q]), l_6, r_nI (by omega) (by decide) (by decide), d_nI (by omega) (by decide) (by decide)]
    rcases h with h | h
    · exact absurd q h
    · rw [if_neg (fun z => h.2 (nI_inj (by omega) (by omega) z))]; rfl
  · rw [if_neg (fun z => q (nI_inj (by omega) (by omega) z))]; rfl
theorem meet_H6 (τ : ST) (n t : Nat) : f_M_meetOf_L17 (n + 1) (nI t) (nI 36) τ = some (.inl τ) := by
  rw [f_M_meetOf_L17, l_36, if_pos (nI_le (Nat.le_refl _) (by decide))]
theorem meet_H7 (τ : ST) (n t : Nat) (ht : t < 36) : f_M_meetOf_L8 (n + 1) (nI t) τ = (f_M_meetOf_L17 400 (nI t) (nI 0) τ).bind (fun e => match e with | .inl v => f_M_meetOf_L8 n (nI (t + 1)) v | .inr r => some (.inr r)) := by
  rw [f_M_meetOf_L8, l_36, if_neg (nI_ge ht (by decide)), nI_1]
  rfl
theorem meet_H8 (τ : ST) (n : Nat) : f_M_meetOf_L8 (n + 1) (nI 36) τ = some (.inl τ) := by
  rw [f_M_meetOf_L8, l_36, if_pos (nI_le (Nat.le_refl _) (by decide))]
theorem meet_ow {τ : ST} {N : Nat} {kd : Nat → Nat} {go : Nat → Nat → Nat} (hM : Mm τ N kd go) : ∀ (k w a b : Nat), a < N → b < N → (ow (Ee kd go 2) (Gg kd 2) k w a b ↔ w = k ∧ rcg (nx_meet go) 4 (G_meet kd) k (6 * a + b)) := by
  have hN := hM.1
  intro k
  induction k with
  | zero =>
    intro w a b ha hb
    rw [rcg_zero]
    show Gg kd 2 a b ∧ w = 0 ↔ _
    unfold Gg G_meet
    rw [show (6 * a + b) / 6 = a by omega, show (6 * a + b) % 6 = b by omega]
    simp
    exact And.comm
  | succ k ih =>
    intro w a b ha hb
    rw [rcg_succ]
    have d6 : (6 * a + b) / 6 = a := by omega
    have m6 : (6 * a + b) % 6 = b := by omega
    have st : ∀ x, x < 4 → (ow (Ee kd go 2) (Gg kd 2) k (w - 1) (go a (x / 2)) (go b (x % 2)) ↔ w - 1 = k ∧ rcg (nx_meet go) 4 (G_meet kd) k (nx_meet go (6 * a + b) x)) := by
      intro x hx
      have := ih (w - 1) (go a (x / 2)) (go b (x % 2)) (hM.to ha (by omega)).1 (hM.to hb (by omega)).1
      unfold nx_meet
      rw [d6, m6]
      exact this
    constructor
    · intro ⟨e, he, h1, h2⟩
      unfold Ee Ew at he
      simp at he
      rcases he with rfl | rfl | rfl | rfl
      · have h3 := (st 0 (by decide)).mp h2
        exact ⟨by have : 1 ≤ w := h1
                  omega, 0, by decide, h3.2⟩
      · have h3 := (st 1 (by decide)).mp h2
        exact ⟨by have : 1 ≤ w := h1
                  omega, 1, by decide, h3.2⟩
      · have h3 := (st 2 (by decide)).mp h2
        exact ⟨by have : 1 ≤ w := h1
                  omega, 2, by decide, h3.2⟩
      · have h3 := (st 3 (by decide)).mp h2
        exact ⟨by have : 1 ≤ w := h1
                  omega, 3, by decide, h3.2⟩
    · intro ⟨hw, x, hx, h2⟩
      have h3 := (st x hx).mpr ⟨by omega, h2⟩
      refine ⟨(1, go a (x / 2), go b (x % 2)), ?_, by show 1 ≤ w; omega, h3⟩
      unfold Ee Ew
      rcases (show x = 0 ∨ x = 1 ∨ x = 2 ∨ x = 3 by omega) with q | q | q | q <;> subst q <;> simp
/-- meet: the least number of steps -/
theorem meet_ok {τ : ST} {N a b : Nat} {kd : Nat → Nat} {go : Nat → Nat → Nat} (hM : Mm τ N kd go) (ha : a < N) (hb : b < N) : ∃ τ' v, f_M_meetOf (nI a) (nI b) τ = some (if v = 9999 then (-1 : Int32) else nI v, τ') ∧ Lst (oc (Ee kd go 2) (Gg kd 2) a b) 9999 v ∧ v ≤ 9999 ∧ Sm τ τ' := by
  have hN := hM.1
  obtain ⟨τ1, e1, hF1, k1⟩ := begin_ok (τ := τ) (show a < 6 by omega) (show b < 6 by omega)
  have s39 : ∀ a', (fun a => a = 39) a' → scA a' := fun a' h => by unfold scA; exact Or.inr (Or.inr (Or.inr h))
  have hM1 := hM.keep (k1.sm s39)
  have hV0 : Vp N (6 * a + b) := ⟨by omega, by omega⟩
  obtain ⟨τ', hM', k', h⟩ := steps_loop (nx := nx_meet go) (W := 4) (G := G_meet kd) (N := N) (kd := kd) (go := go) (arr := 39) (M := 36) (K := 36) (Tm := 36) (V := Vp N) (s0 := 6 * a + b) (WL := f_M_meetOf_L53) (KL := f_M_meetOf_L17) (SL := f_M_meetOf_L8)
    (by unfold scA; omega) hV0 (meet_V hM) (fun s h => by have := h.1; omega) (by decide) (by decide) (by decide) (by decide) meet_H1 meet_H2 meet_H3 meet_H4 meet_H5 (fun τ n t _ => meet_H6 τ n t) meet_H7 meet_H8 400 0 τ1 _ (by decide) (by decide) hM1 hF1 BK_start
  have hoc : ∀ j, oc (Ee kd go 2) (Gg kd 2) a b j ↔ rcg (nx_meet go) 4 (G_meet kd) j (6 * a + b) := by
    intro j
    constructor
    · intro ⟨k, hk⟩
      obtain ⟨q1, q2⟩ := (meet_ow hM k j a b ha hb).mp hk
      rw [q1]; exact q2
    · intro hj
      exact ⟨j, (meet_ow hM j j a b ha hb).mpr ⟨rfl, hj⟩⟩
  have sm : Sm τ τ' := (k1.sm s39).tr (k'.sm s39)
  rcases h with ⟨r, hr, e2, r1, r2⟩ | ⟨e2, r2⟩
  · refine ⟨τ', r, ?_, Or.inl ⟨(hoc r).mpr r1, by omega, fun j hj => ?_⟩, by omega, sm⟩
    · unfold f_M_meetOf
      rw [e1]
      show (f_M_meetOf_L8 400 0 τ1).bind _ = _
      have e2' : f_M_meetOf_L8 400 0 τ1 = some (.inr (nI r, τ')) := e2
      rw [e2']
      show some (nI r, τ') = _
      rw [if_neg (by omega)]
    · rcases Nat.lt_or_ge j r with q | q
      · exact absurd ((hoc j).mp hj) (r2 j q)
      · exact q
  · refine ⟨τ', 9999, ?_, Or.inr ⟨rfl, fun j hj => ?_⟩, by omega, sm⟩
    · unfold f_M_meetOf
      rw [e1]
      show (f_M_meetOf_L8 400 0 τ1).bind _ = _
      have e2' : f_M_meetOf_L8 400 0 τ1 = some (.inl τ') := e2
      rw [e2']
      rfl
    · obtain ⟨k, hk⟩ := hj
      obtain ⟨k', v, hsh⟩ := sh_ex hk
      have hC : Clo (Ee kd go 2) N := by
        intro x y hx hy e he
        have a0 := (hM.to hx (show 0 < 2 by decide)).1
        have a1 := (hM.to hx (show 1 < 2 by decide)).1
        have b0 := (hM.to hy (show 0 < 2 by decide)).1
        have b1 := (hM.to hy (show 1 < 2 by decide)).1
        unfold Ee Ew at he
        simp at he
        rcases he with rfl | rfl | rfl | rfl <;> exact ⟨by assumption, by assumption⟩
      have l1 := sh_lt hC ha hb hsh
      have hNN : N * N ≤ 36 := Nat.mul_le_mul hN hN
      exact r2 k' (by omega) ((meet_ow hM k' v a b ha hb).mp hsh.1).2


def nx_apart (go : Nat → Nat → Nat) (s w : Nat) : Nat := 6 * go (s / 6) (w) + go (s % 6) (w)
def G_apart (kd : Nat → Nat) (s : Nat) : Prop := sn kd (s / 6) ≠ sn kd (s % 6)
theorem apart_V {τ : ST} {N : Nat} {kd : Nat → Nat} {go : Nat → Nat → Nat} (hM : Mm τ N kd go) : ∀ s w, Vp N s → w < 2 → Vp N (nx_apart go s w) := by
  intro s w h hw
  have hN := hM.1
  have h1 := (hM.to h.1 (show w < 2 by omega)).1
  have h2 := (hM.to h.2 (show w < 2 by omega)).1
  unfold nx_apart Vp
  constructor
  · rw [show (6 * go (s / 6) (w) + go (s % 6) (w)) / 6 = go (s / 6) (w) by omega]; exact h1
  · rw [show (6 * go (s / 6) (w) + go (s % 6) (w)) % 6 = go (s % 6) (w) by omega]; exact h2
set_option maxHeartbeats 1000000 in
theorem apart_H1 {N : Nat} {kd : Nat → Nat} {go : Nat → Nat → Nat} (τ : ST) (F : Nat → Nat) (n t k w : Nat) (hM : Mm τ N kd go) (hF : FQ τ 39 36 F) (hV : Vp N k) (ht : t < 100) (hFk : F k = t) (hw : w < 2) : f_M_apartFrom_L61 (n + 1) (nI t) (nI k) (nI w) τ = f_M_apartFrom_L61 n (nI t) (nI k) (nI (w + 1)) (if F (nx_apart go k w) = 9999 then sA τ 39 (nx_apart go k w) (nI (t + 1)) else τ) := by
  have hN := hM.1
  obtain ⟨v1, v2⟩ := id hV
  have hk : k < 36 := by omega
  obtain ⟨a1, a2⟩ := hM.to v1 (show w < 2 by omega)
  obtain ⟨b1, b2⟩ := hM.to v2 (show w < 2 by omega)
  have hnx : nx_apart go k w = 6 * go (k / 6) (w) + go (k % 6) (w) := rfl
  have hnl : nx_apart go k w < 36 := by rw [hnx]; omega
  have e1 : ((2 : Int32) * (nI k / (6 : Int32))) + nI w = nI (2 * (k / 6) + w) := by
    rw [l_2, l_6, d_nI (show k < 2 ^ 31 by omega) (by decide) (by decide), mul_nI, add_nI]
  have e2 : ((2 : Int32) * (nI k - nI k / (6 : Int32) * (6 : Int32))) + nI w = nI (2 * (k % 6) + w) := by
    rw [l_2, l_6, r_nI (show k < 2 ^ 31 by omega) (by decide) (by decide), mul_nI, add_nI]
  have e3 : (6 : Int32) * nI (go (k / 6) (w)) + nI (go (k % 6) (w)) = nI (nx_apart go k w) := by
    rw [l_6, mul_nI, add_nI]; rfl
  have c0 : (nI k).toNatClampNeg = k := nI_clamp (by omega)
  have c1 : (nI (2 * (k / 6) + w)).toNatClampNeg = 2 * (k / 6) + w := nI_clamp (by omega)
  have c2 : (nI (2 * (k % 6) + w)).toNatClampNeg = 2 * (k % 6) + w := nI_clamp (by omega)
  have c3 : (nI (nx_apart go k w)).toNatClampNeg = nx_apart go k w := nI_clamp (by omega)
  have i0 : inB (nI k) 36 = true := inB_t hk (by decide)
  have i1 : inB (nI (2 * (k / 6) + w)) 12 = true := inB_t (by omega) (by decide)
  have i2 : inB (nI (2 * (k % 6) + w)) 12 = true := inB_t (by omega) (by decide)
  have i3 : inB (nI (nx_apart go k w)) 36 = true := inB_t hnl (by decide)
  have f0 : gA τ 39 k = nI t := by rw [hF.1 k hk, hFk]
  have f1 : gA τ 39 (nx_apart go k w) = nI (F (nx_apart go k w)) := hF.1 _ hnl
  have es : sA τ 39 (nx_apart go k w) (gA τ 39 (nx_apart go k w)) = τ := sA_same ..
  rw [f_M_apartFrom_L61, if_neg (show ¬ (2 : Int32) ≤ nI w from by rw [l_2]; exact nI_ge hw (by decide))]
  simp only [e1, e2, c0, c1, c2, a2, b2, e3, c3, i0, i1, i2, i3, f0, es, nI_1, eq_self, ↓reduceIte]
  rw [f1, l_9999]
  have hle := hF.2 (nx_apart go k w)
  by_cases q : F (nx_apart go k w) = 9999
  · rw [if_pos (by rw [q]), if_pos q]
  · rw [if_neg (fun z => q (nI_inj (by omega) (by omega) z)), if_neg q]
theorem apart_H2 (τ : ST) (n t k : Nat) : f_M_apartFrom_L61 (n + 1) (nI t) (nI k) (nI 2) τ = some τ := by
  rw [f_M_apartFrom_L61, l_2, if_pos (nI_le (Nat.le_refl _) (by decide))]
theorem apart_H3 (τ : ST) (F : Nat → Nat) (n t k w : Nat) (hF : FQ τ 39 36 F) (hk : k < 36) (ht : t < 100) (hFk : F k ≠ t) (hw : w < 2) : f_M_apartFrom_L61 (n + 1) (nI t) (nI k) (nI w) τ = some τ := by
  have hle := hF.2 k
  rw [f_M_apartFrom_L61, if_neg (show ¬ (2 : Int32) ≤ nI w from by rw [l_2]; exact nI_ge hw (by decide)), if_pos (inB_t hk (by decide)), nI_clamp (by omega), hF.1 k hk, if_neg (fun z => hFk (nI_inj (by omega) (by omega) z))]
theorem apart_H4 {N : Nat} {kd : Nat → Nat} {go : Nat → Nat → Nat} (τ : ST) (F : Nat → Nat) (n t k : Nat) (hM : Mm τ N kd go) (hF : FQ τ 39 36 F) (hV : Vp N k) (hk : k < 36) (ht : t < 100) (hFk : F k = t) (hG : G_apart kd k) : f_M_apartFrom_L17 (n + 1) (nI t) (nI k) τ = some (.inr (nI t, τ)) := by
  have hG : sn kd (k / 6) ≠ sn kd (k % 6) := hG
  have s1 := sn_le kd (k / 6)
  have s2 := sn_le kd (k % 6)
  rw [f_M_apartFrom_L17, l_36, if_neg (nI_ge hk (by decide)), if_pos (inB_t hk (by decide)), nI_clamp (by omega), hF.1 k hk, hFk, if_pos rfl, l_6, r_nI (by omega) (by decide) (by decide), d_nI (by omega) (by decide) (by decide), mm_sound hM hV.1, mm_sound hM hV.2]
  show (if nI (sn kd (k / 6)) = nI (sn kd (k % 6)) then _ else _) = _
  rw [if_neg (fun z => hG (nI_inj (by omega) (by omega) z))]
theorem apart_H5 {N : Nat} {kd : Nat → Nat} {go : Nat → Nat → Nat} (τ : ST) (F : Nat → Nat) (n t k : Nat) (hM : Mm τ N kd go) (hF : FQ τ 39 36 F) (hk : k < 36) (ht : t < 100) (h : F k ≠ t ∨ (Vp N k ∧ ¬ G_apart kd k)) : f_M_apartFrom_L17 (n + 1) (nI t) (nI k) τ = (f_M_apartFrom_L61 400 (nI t) (nI k) (nI 0) τ).bind (fun e => f_M_apartFrom_L17 n (nI t) (nI (k + 1)) e) := by
  have hle := hF.2 k
  rw [f_M_apartFrom_L17, l_36, if_neg (nI_ge hk (by decide)), if_pos (inB_t hk (by decide)), nI_clamp (by omega), hF.1 k hk, nI_1]
  by_cases q : F k = t
  · rw [if_pos (by rw [q]), l_6, r_nI (by omega) (by decide) (by decide), d_nI (by omega) (by decide) (by decide)]
    rcases h with h | h
    · exact absurd q h
    · have s1 := sn_le kd (k / 6)
      have s2 := sn_le kd (k % 6)
      have e : sn kd (k / 6) = sn kd (k % 6) := Classical.byContradiction (fun z => h.2 z)
      rw [mm_sound hM h.1.1, mm_sound hM h.1.2]
      show (if nI (sn kd (k / 6)) = nI (sn kd (k % 6)) then _ else _) = _
      rw [if_pos (by rw [e])]; rfl
  · rw [if_neg (fun z => q (nI_inj (by omega) (by omega) z))]; rfl
theorem apart_H6 (τ : ST) (n t : Nat) : f_M_apartFrom_L17 (n + 1) (nI t) (nI 36) τ = some (.inl τ) := by
  rw [f_M_apartFrom_L17, l_36, if_pos (nI_le (Nat.le_refl _) (by decide))]
theorem apart_H7 (τ : ST) (n t : Nat) (ht : t < 36) : f_M_apartFrom_L8 (n + 1) (nI t) τ = (f_M_apartFrom_L17 400 (nI t) (nI 0) τ).bind (fun e => match e with | .inl v => f_M_apartFrom_L8 n (nI (t + 1)) v | .inr r => some (.inr r)) := by
  rw [f_M_apartFrom_L8, l_36, if_neg (nI_ge ht (by decide)), nI_1]
  rfl
theorem apart_H8 (τ : ST) (n : Nat) : f_M_apartFrom_L8 (n + 1) (nI 36) τ = some (.inl τ) := by
  rw [f_M_apartFrom_L8, l_36, if_pos (nI_le (Nat.le_refl _) (by decide))]
theorem apart_ow {τ : ST} {N : Nat} {kd : Nat → Nat} {go : Nat → Nat → Nat} (hM : Mm τ N kd go) : ∀ (k w a b : Nat), a < N → b < N → (ow (Ee kd go 3) (Gg kd 3) k w a b ↔ w = k ∧ rcg (nx_apart go) 2 (G_apart kd) k (6 * a + b)) := by
  have hN := hM.1
  intro k
  induction k with
  | zero =>
    intro w a b ha hb
    rw [rcg_zero]
    show Gg kd 3 a b ∧ w = 0 ↔ _
    unfold Gg G_apart
    rw [show (6 * a + b) / 6 = a by omega, show (6 * a + b) % 6 = b by omega]
    simp
    exact And.comm
  | succ k ih =>
    intro w a b ha hb
    rw [rcg_succ]
    have d6 : (6 * a + b) / 6 = a := by omega
    have m6 : (6 * a + b) % 6 = b := by omega
    have st : ∀ x, x < 2 → (ow (Ee kd go 3) (Gg kd 3) k (w - 1) (go a (x)) (go b (x)) ↔ w - 1 = k ∧ rcg (nx_apart go) 2 (G_apart kd) k (nx_apart go (6 * a + b) x)) := by
      intro x hx
      have := ih (w - 1) (go a (x)) (go b (x)) (hM.to ha (by omega)).1 (hM.to hb (by omega)).1
      unfold nx_apart
      rw [d6, m6]
      exact this
    constructor
    · intro ⟨e, he, h1, h2⟩
      unfold Ee Ew at he
      simp at he
      rcases he with rfl | rfl
      · have h3 := (st 0 (by decide)).mp h2
        exact ⟨by have : 1 ≤ w := h1
                  omega, 0, by decide, h3.2⟩
      · have h3 := (st 1 (by decide)).mp h2
        exact ⟨by have : 1 ≤ w := h1
                  omega, 1, by decide, h3.2⟩
    · intro ⟨hw, x, hx, h2⟩
      have h3 := (st x hx).mpr ⟨by omega, h2⟩
      refine ⟨(1, go a (x), go b (x)), ?_, by show 1 ≤ w; omega, h3⟩
      unfold Ee Ew
      rcases (show x = 0 ∨ x = 1 by omega) with q | q <;> subst q <;> simp
/-- apart: the least number of steps -/
theorem apart_ok {τ : ST} {N a b : Nat} {kd : Nat → Nat} {go : Nat → Nat → Nat} (hM : Mm τ N kd go) (ha : a < N) (hb : b < N) : ∃ τ' v, f_M_apartFrom (nI a) (nI b) τ = some (nI v, τ') ∧ Lst (oc (Ee kd go 3) (Gg kd 3) a b) 9999 v ∧ v ≤ 9999 ∧ Sm τ τ' := by
  have hN := hM.1
  obtain ⟨τ1, e1, hF1, k1⟩ := begin_ok (τ := τ) (show a < 6 by omega) (show b < 6 by omega)
  have s39 : ∀ a', (fun a => a = 39) a' → scA a' := fun a' h => by unfold scA; exact Or.inr (Or.inr (Or.inr h))
  have hM1 := hM.keep (k1.sm s39)
  have hV0 : Vp N (6 * a + b) := ⟨by omega, by omega⟩
  obtain ⟨τ', hM', k', h⟩ := steps_loop (nx := nx_apart go) (W := 2) (G := G_apart kd) (N := N) (kd := kd) (go := go) (arr := 39) (M := 36) (K := 36) (Tm := 36) (V := Vp N) (s0 := 6 * a + b) (WL := f_M_apartFrom_L61) (KL := f_M_apartFrom_L17) (SL := f_M_apartFrom_L8)
    (by unfold scA; omega) hV0 (apart_V hM) (fun s h => by have := h.1; omega) (by decide) (by decide) (by decide) (by decide) apart_H1 apart_H2 apart_H3 apart_H4 apart_H5 (fun τ n t _ => apart_H6 τ n t) apart_H7 apart_H8 400 0 τ1 _ (by decide) (by decide) hM1 hF1 BK_start
  have hoc : ∀ j, oc (Ee kd go 3) (Gg kd 3) a b j ↔ rcg (nx_apart go) 2 (G_apart kd) j (6 * a + b) := by
    intro j
    constructor
    · intro ⟨k, hk⟩
      obtain ⟨q1, q2⟩ := (apart_ow hM k j a b ha hb).mp hk
      rw [q1]; exact q2
    · intro hj
      exact ⟨j, (apart_ow hM j j a b ha hb).mpr ⟨rfl, hj⟩⟩
  have sm : Sm τ τ' := (k1.sm s39).tr (k'.sm s39)
  rcases h with ⟨r, hr, e2, r1, r2⟩ | ⟨e2, r2⟩
  · refine ⟨τ', r, ?_, Or.inl ⟨(hoc r).mpr r1, by omega, fun j hj => ?_⟩, by omega, sm⟩
    · unfold f_M_apartFrom
      rw [e1]
      show (f_M_apartFrom_L8 400 0 τ1).bind _ = _
      have e2' : f_M_apartFrom_L8 400 0 τ1 = some (.inr (nI r, τ')) := e2
      rw [e2']
      rfl
    · rcases Nat.lt_or_ge j r with q | q
      · exact absurd ((hoc j).mp hj) (r2 j q)
      · exact q
  · refine ⟨τ', 9999, ?_, Or.inr ⟨rfl, fun j hj => ?_⟩, by omega, sm⟩
    · unfold f_M_apartFrom
      rw [e1]
      show (f_M_apartFrom_L8 400 0 τ1).bind _ = _
      have e2' : f_M_apartFrom_L8 400 0 τ1 = some (.inl τ') := e2
      rw [e2']
      rfl
    · obtain ⟨k, hk⟩ := hj
      obtain ⟨k', v, hsh⟩ := sh_ex hk
      have hC : Clo (Ee kd go 3) N := by
        intro x y hx hy e he
        have a0 := (hM.to hx (show 0 < 2 by decide)).1
        have a1 := (hM.to hx (show 1 < 2 by decide)).1
        have b0 := (hM.to hy (show 0 < 2 by decide)).1
        have b1 := (hM.to hy (show 1 < 2 by decide)).1
        unfold Ee Ew at he
        simp at he
        rcases he with rfl | rfl <;> exact ⟨by assumption, by assumption⟩
      have l1 := sh_lt hC ha hb hsh
      have hNN : N * N ≤ 36 := Nat.mul_le_mul hN hN
      exact r2 k' (by omega) ((apart_ow hM k' v a b ha hb).mp hsh.1).2
