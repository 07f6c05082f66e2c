/-! ROUND of the reference -/
theorem cv_bound {kd : Nat → Nat} {go : Nat → Nat → Nat} {N : Nat} (hN : N ≤ 6) (hgo : ∀ c w, c < N → w < 2 → go c w < N) : ∀ (u j v a : Nat), un v N = u → a < N → v.testBit a = true → cv go N j v a → ∃ k, k ≤ 5 * u ∧ cv go N k v a := by
  intro u
  induction u with
  | zero =>
    intro j v a hu ha hva h
    exact ⟨0, Nat.le_refl _, un_zero N hu⟩
  | succ u ih =>
    intro j v a hu ha hva h
    by_cases hf : ∀ c, c < N → v.testBit c = true
    · exact ⟨0, by omega, hf⟩
    · obtain ⟨c, j1, c1, c2, c3, c4, c5⟩ := cv_split (kd := kd) hgo j v a ha hva h hf
      have hu2 := (un_or c2 N).1 c1
      obtain ⟨k, k1, k2⟩ := ih (j - j1) (v ||| 2 ^ c) c (by omega) c1 (by rw [tb_or]; simp) c5
      obtain ⟨d, w, hsh⟩ := sh_ex c4
      have l1 := sh_lt1 (E01 (by decide) hgo) ha hsh
      have l2 := ow0_len _ _ _ _ hsh.1
      have h3 := hsh.1
      rw [l2] at h3
      exact ⟨d + k, by omega, cv_join d k v a c hva h3 k2⟩
def nx_rd (go : Nat → Nat → Nat) (s w : Nat) : Nat := 64 * go (s / 64) w + (s % 64 ||| 2 ^ (go (s / 64) w))
def G_rd (N s : Nat) : Prop := s % 64 = 2 ^ N - 1
def Vr (N s : Nat) : Prop := s / 64 < N ∧ s % 64 < 2 ^ N
theorem rd_parts {N g v : Nat} (hN : N ≤ 6) (hg : g < N) (hv : v < 2 ^ N) : (64 * g + (v ||| 2 ^ g)) / 64 = g ∧ (64 * g + (v ||| 2 ^ g)) % 64 = (v ||| 2 ^ g) ∧ (v ||| 2 ^ g) < 2 ^ N := by
  have h64 := pow_le64 hN
  have h1 := or_lt hv hg
  exact ⟨by omega, by omega, h1⟩
theorem rd_V {τ : ST} {N : Nat} {kd : Nat → Nat} {go : Nat → Nat → Nat} (hM : Mm τ N kd go) : ∀ s w, Vr N s → w < 2 → Vr N (nx_rd go s w) := by
  intro s w h hw
  have h1 := (hM.to h.1 hw).1
  obtain ⟨p1, p2, p3⟩ := rd_parts hM.1 h1 h.2
  unfold nx_rd Vr
  rw [p1, p2]
  exact ⟨h1, p3⟩
set_option maxHeartbeats 1000000 in
theorem rd_H1 {x3 : Int32} {N : Nat} {kd : Nat → Nat} {go : Nat → Nat → Nat} (τ : ST) (F : Nat → Nat) (n t k w : Nat) (hM : Mm τ N kd go) (hF : FQ τ 38 384 F) (hV : Vr N k) (ht : t < 100) (hFk : F k = t) (hw : w < 2) : f_M_roundFrom_L108 (n + 1) x3 (nI t) (nI k) (nI w) τ = f_M_roundFrom_L108 n x3 (nI t) (nI k) (nI (w + 1)) (if F (nx_rd go k w) = 9999 then sA τ 38 (nx_rd go k w) (nI (t + 1)) else τ) := by
  have hN := hM.1
  have h64 := pow_le64 hN
  obtain ⟨v1, v2⟩ := id hV
  have hk : k < 384 := by omega
  obtain ⟨a1, a2⟩ := hM.to v1 hw
  obtain ⟨p1, p2, p3⟩ := rd_parts hN a1 v2
  have hnx : nx_rd go k w = 64 * go (k / 64) w + (k % 64 ||| 2 ^ (go (k / 64) w)) := rfl
  have hnl : nx_rd go k w < 384 := by rw [hnx]; omega
  have e1 : ((2 : Int32) * (nI k / (64 : Int32))) + nI w = nI (2 * (k / 64) + w) := by
    rw [l_2, l_64, d_nI (show k < 2 ^ 31 by omega) (by decide) (by decide), mul_nI, add_nI]
  have e3 : (64 : Int32) * nI (go (k / 64) w) + ((nI k - nI k / (64 : Int32) * (64 : Int32)) ||| ((1 : Int32) <<< (nI (go (k / 64) w) &&& 31))) = nI (nx_rd go k w) := by
    rw [l_64, r_nI (show k < 2 ^ 31 by omega) (by decide) (by decide), bit1 _ (by omega), fa_or, mul_nI, add_nI]; rfl
  have c0 : (nI k).toNatClampNeg = k := nI_clamp (by omega)
  have c1 : (nI (2 * (k / 64) + w)).toNatClampNeg = 2 * (k / 64) + w := nI_clamp (by omega)
  have c3 : (nI (nx_rd go k w)).toNatClampNeg = nx_rd go k w := nI_clamp (by omega)
  have i0 : inB (nI k) 384 = true := inB_t hk (by decide)
  have i1 : inB (nI (2 * (k / 64) + w)) 12 = true := inB_t (by omega) (by decide)
  have i3 : inB (nI (nx_rd go k w)) 384 = true := inB_t hnl (by decide)
  have f0 : gA τ 38 k = nI t := by rw [hF.1 k hk, hFk]
  have f1 : gA τ 38 (nx_rd go k w) = nI (F (nx_rd go k w)) := hF.1 _ hnl
  have es : sA τ 38 (nx_rd go k w) (gA τ 38 (nx_rd go k w)) = τ := sA_same ..
  rw [f_M_roundFrom_L108, if_neg (show ¬ (2 : Int32) ≤ nI w from by rw [l_2]; exact nI_ge hw (by decide))]
  simp only [e1, c0, c1, a2, e3, c3, i0, i1, i3, f0, es, nI_1, eq_self, ↓reduceIte]
  rw [f1, l_9999]
  have hle := hF.2 (nx_rd go k w)
  by_cases q : F (nx_rd go k w) = 9999
  · rw [if_pos (by rw [q]), if_pos q]
  · rw [if_neg (fun z => q (nI_inj (by omega) (by omega) z)), if_neg q]
theorem rd_H2 {x3 : Int32} (τ : ST) (n t k : Nat) : f_M_roundFrom_L108 (n + 1) x3 (nI t) (nI k) (nI 2) τ = some τ := by
  rw [f_M_roundFrom_L108, l_2, if_pos (nI_le (Nat.le_refl _) (by decide))]
theorem rd_H3 {x3 : Int32} {N : Nat} (hN : N ≤ 6) (τ : ST) (F : Nat → Nat) (n t k w : Nat) (hF : FQ τ 38 384 F) (hk : k < 64 * N) (ht : t < 100) (hFk : F k ≠ t) (hw : w < 2) : f_M_roundFrom_L108 (n + 1) x3 (nI t) (nI k) (nI w) τ = some τ := by
  have hle := hF.2 k
  have hk' : k < 384 := by omega
  rw [f_M_roundFrom_L108, if_neg (show ¬ (2 : Int32) ≤ nI w from by rw [l_2]; exact nI_ge hw (by decide)), if_pos (inB_t hk' (by decide)), nI_clamp (by omega), hF.1 k hk', if_neg (fun z => hFk (nI_inj (by omega) (by omega) z))]
theorem rd_H4 {N : Nat} {kd : Nat → Nat} {go : Nat → Nat → Nat} (τ : ST) (F : Nat → Nat) (n t k : Nat) (hM : Mm τ N kd go) (hF : FQ τ 38 384 F) (hV : Vr N k) (hk : k < 64 * N) (ht : t < 100) (hFk : F k = t) (hG : G_rd N k) {x3 : Int32} (hx3 : x3 = nI (2 ^ N - 1)) : f_M_roundFrom_L69 (n + 1) x3 (nI t) (nI k) τ = some (.inr (nI t, τ)) := by
  subst hx3
  have hN := hM.1
  have hk' : k < 384 := by omega
  have hG : k % 64 = 2 ^ N - 1 := hG
  rw [f_M_roundFrom_L69, hM.2.1, l_64, mul_nI, if_neg (nI_ge hk (by omega)), if_pos (inB_t hk' (by decide)), nI_clamp (by omega), hF.1 k hk', hFk, if_pos rfl, r_nI (by omega) (by decide) (by decide), if_pos (by rw [hG])]
theorem rd_H5 {N : Nat} {kd : Nat → Nat} {go : Nat → Nat → Nat} (τ : ST) (F : Nat → Nat) (n t k : Nat) (hM : Mm τ N kd go) (hF : FQ τ 38 384 F) (hk : k < 64 * N) (ht : t < 100) (h : F k ≠ t ∨ (Vr N k ∧ ¬ G_rd N k)) {x3 : Int32} (hx3 : x3 = nI (2 ^ N - 1)) : f_M_roundFrom_L69 (n + 1) x3 (nI t) (nI k) τ = (f_M_roundFrom_L108 400 x3 (nI t) (nI k) (nI 0) τ).bind (fun e => f_M_roundFrom_L69 n x3 (nI t) (nI (k + 1)) e) := by
  subst hx3
  have hN := hM.1
  have h64 := pow_le64 hN
  have hk' : k < 384 := by omega
  have hle := hF.2 k
  rw [f_M_roundFrom_L69, hM.2.1, l_64, mul_nI, if_neg (nI_ge hk (by omega)), if_pos (inB_t hk' (by decide)), nI_clamp (by omega), hF.1 k hk', nI_1]
  by_cases q : F k = t
  · rw [if_pos (by rw [q]), r_nI (by omega) (by decide) (by decide)]
    rcases h with h | h
    · exact absurd q h
    · rw [if_neg (fun z => h.2 (nI_inj (by omega) (by omega) z))]; rfl
  · rw [if_neg (fun z => q (nI_inj (by omega) (by omega) z))]; rfl
theorem rd_H6 {x3 : Int32} {N : Nat} {kd : Nat → Nat} {go : Nat → Nat → Nat} (τ : ST) (n t : Nat) (hM : Mm τ N kd go) : f_M_roundFrom_L69 (n + 1) x3 (nI t) (nI (64 * N)) τ = some (.inl τ) := by
  have hN := hM.1
  rw [f_M_roundFrom_L69, hM.2.1, l_64, mul_nI, if_pos (nI_le (Nat.le_refl _) (by omega))]
theorem rd_H7 {x3 : Int32} (τ : ST) (n t : Nat) (ht : t < 64) : f_M_roundFrom_L59 (n + 1) x3 (nI t) τ = (f_M_roundFrom_L69 400 x3 (nI t) (nI 0) τ).bind (fun e => match e with | .inl v => f_M_roundFrom_L59 n x3 (nI (t + 1)) v | .inr r => some (.inr r)) := by
  rw [f_M_roundFrom_L59, l_64, if_neg (nI_ge ht (by decide)), nI_1]
  rfl
theorem rd_H8 {x3 : Int32} (τ : ST) (n : Nat) : f_M_roundFrom_L59 (n + 1) x3 (nI 64) τ = some (.inl τ) := by
  rw [f_M_roundFrom_L59, l_64, if_pos (nI_le (Nat.le_refl _) (by decide))]
theorem rd_cv {τ : ST} {N : Nat} {kd : Nat → Nat} {go : Nat → Nat → Nat} (hM : Mm τ N kd go) : ∀ (k a v : Nat), a < N → v < 2 ^ N → (rcg (nx_rd go) 2 (G_rd N) k (64 * a + v) ↔ cv go N k v a) := by
  have hN := hM.1
  have h64 := pow_le64 hN
  intro k
  induction k with
  | zero =>
    intro a v ha hv
    rw [rcg_zero]
    unfold G_rd
    rw [show (64 * a + v) % 64 = v by omega]
    exact (full_eq hv).symm
  | succ k ih =>
    intro a v ha hv
    rw [rcg_succ]
    have st : ∀ w, w < 2 → (rcg (nx_rd go) 2 (G_rd N) k (nx_rd go (64 * a + v) w) ↔ cv go N k (v ||| 2 ^ (go a w)) (go a w)) := by
      intro w hw
      have h1 := (hM.to ha hw).1
      have := ih (go a w) (v ||| 2 ^ (go a w)) h1 (or_lt hv h1)
      unfold nx_rd
      rw [show (64 * a + v) / 64 = a by omega, show (64 * a + v) % 64 = v by omega]
      exact this
    constructor
    · intro ⟨w, hw, h⟩; exact ⟨w, hw, (st w hw).mp h⟩
    · intro ⟨w, hw, h⟩; exact ⟨w, hw, (st w hw).mpr h⟩
theorem rd_init {x1 x2 x3 : Int32} : ∀ (n c : Nat) (τ : ST), 384 - c < n → c ≤ 384 → (∀ j, j < c → gA τ 38 j = nI 9999) → ∃ τ', f_M_roundFrom_L12 n x1 x2 x3 (nI c) τ = some τ' ∧ (∀ j, j < 384 → gA τ' 38 j = nI 9999) ∧ Ka τ τ' (fun a => a = 38) := by
  intro n
  induction n with
  | zero => intro c τ h; omega
  | succ n ih =>
    intro c τ hn hc36 h
    rw [f_M_roundFrom_L12, l_384]
    by_cases hc : c < 384
    · rw [if_neg (nI_ge hc (by omega)), if_pos (inB_t hc (by decide)), nI_clamp (by omega), nI_1]
      obtain ⟨τ', f1, f2, f3⟩ := ih (c + 1) (sA τ 38 c 9999) (by omega) (by omega) (by
        intro j hj
        rw [gA_sA']
        by_cases e : j = c
        · rw [if_pos ⟨rfl, e⟩]; rfl
        · rw [if_neg (fun z => e z.2)]; exact h j (by omega))
      exact ⟨τ', f1, f2, (Ka.sA (S := fun a => a = 38) rfl).tr f3⟩
    · have : c = 384 := by omega
      subst this
      rw [if_pos (nI_le (Nat.le_refl _) (by omega))]
      exact ⟨τ, rfl, h, Ka.rf⟩
/-- roundFrom: the least number of steps to come to all -/
theorem round_ok {τ : ST} {N a v : Nat} {kd : Nat → Nat} {go : Nat → Nat → Nat} (hM : Mm τ N kd go) (ha : a < N) (hv : v < 2 ^ N) : ∃ τ' r, f_M_roundFrom (nI a) (nI v) τ = some (nI r, τ') ∧ Lst (fun k => cv go N k (v ||| 2 ^ a) a) 9999 r ∧ r ≤ 9999 ∧ Sm τ τ' := by
  have hN := hM.1
  have h64 := pow_le64 hN
  have hgo : ∀ c w, c < N → w < 2 → go c w < N := fun c w hc hw => (hM.to hc hw).1
  obtain ⟨p1, p2, p3⟩ := rd_parts hN ha hv
  obtain ⟨τ1, e1, h1, k1⟩ := rd_init (x1 := nI a) (x2 := nI v) (x3 := nI (2 ^ N - 1)) 400 0 τ (by omega) (by omega) (fun j hj => by omega)
  have s38 : ∀ a', (fun a => a = 38) a' → scA a' := fun a' h => by unfold scA; exact Or.inr (Or.inr (Or.inl h))
  have kk : Ka τ1 (sA τ1 38 (64 * a + (v ||| 2 ^ a)) 0) (fun a => a = 38) := Ka.sA rfl
  have hM1 := (hM.keep (k1.sm s38)).keep (kk.sm s38)
  have hF1 : FQ (sA τ1 38 (64 * a + (v ||| 2 ^ a)) 0) 38 384 (fun s => if s = 64 * a + (v ||| 2 ^ a) then 0 else 9999) := by
    refine ⟨fun s hs => ?_, fun s => ?_⟩
    · rw [gA_sA']
      show _ = nI (if s = 64 * a + (v ||| 2 ^ a) then 0 else 9999)
      by_cases e : s = 64 * a + (v ||| 2 ^ a)
      · rw [if_pos ⟨rfl, e⟩, if_pos e]; rfl
      · rw [if_neg (fun z => e z.2), if_neg e]; exact h1 s hs
    · by_cases e : s = 64 * a + (v ||| 2 ^ a)
      · simp only [if_pos e]; omega
      · simp only [if_neg e]; omega
  have hV0 : Vr N (64 * a + (v ||| 2 ^ a)) := by unfold Vr; rw [p1, p2]; exact ⟨ha, p3⟩
  obtain ⟨x3, hx3⟩ : ∃ x3, x3 = nI (2 ^ N - 1) := ⟨_, rfl⟩
  obtain ⟨WL, hWL⟩ : ∃ WL : Nat → Int32 → Int32 → Int32 → ST → Option ST, ∀ n a b c τ, WL n a b c τ = f_M_roundFrom_L108 n x3 a b c τ := ⟨fun n => f_M_roundFrom_L108 n x3, fun _ _ _ _ _ => rfl⟩
  obtain ⟨KL, hKL⟩ : ∃ KL : Nat → Int32 → Int32 → ST → Option (ST ⊕ (Int32 × ST)), ∀ n a b τ, KL n a b τ = f_M_roundFrom_L69 n x3 a b τ := ⟨fun n => f_M_roundFrom_L69 n x3, fun _ _ _ _ => rfl⟩
  obtain ⟨SL, hSL⟩ : ∃ SL : Nat → Int32 → ST → Option (ST ⊕ (Int32 × ST)), ∀ n a τ, SL n a τ = f_M_roundFrom_L59 n x3 a τ := ⟨fun n => f_M_roundFrom_L59 n x3, fun _ _ _ => rfl⟩
  obtain ⟨τ', hM', k', h⟩ := steps_loop (nx := nx_rd go) (W := 2) (G := G_rd N) (N := N) (kd := kd) (go := go) (arr := 38) (M := 384) (K := 64 * N) (Tm := 64) (V := Vr N) (s0 := 64 * a + (v ||| 2 ^ a)) (WL := WL) (KL := KL) (SL := SL)
    (by unfold scA; omega) hV0 (rd_V hM) (fun s h => by have := h.1; omega) (by omega) (by decide) (by decide) (by decide)
    (fun τ F n t k w h1 h2 h3 h4 h5 h6 => by rw [hWL, hWL]; exact rd_H1 τ F n t k w h1 h2 h3 h4 h5 h6)
    (fun τ n t k => by rw [hWL]; exact rd_H2 τ n t k)
    (fun τ F n t k w h1 h2 h3 h4 h5 => by rw [hWL]; exact rd_H3 hN τ F n t k w h1 h2 h3 h4 h5)
    (fun τ F n t k h1 h2 h3 h4 h5 h6 h7 => by rw [hKL]; exact rd_H4 τ F n t k h1 h2 h3 h4 h5 h6 h7 hx3)
    (fun τ F n t k h1 h2 h3 h4 h5 => by simp only [hKL, hWL]; exact rd_H5 τ F n t k h1 h2 h3 h4 h5 hx3)
    (fun τ n t h1 => by rw [hKL]; exact rd_H6 τ n t h1)
    (fun τ n t h1 => by simp only [hSL, hKL]; exact rd_H7 τ n t h1)
    (fun τ n => by rw [hSL]; exact rd_H8 τ n) 400 0 _ _ (by decide) (by decide) hM1 hF1 BK_start
  have hoc : ∀ j, rcg (nx_rd go) 2 (G_rd N) j (64 * a + (v ||| 2 ^ a)) ↔ cv go N j (v ||| 2 ^ a) a := fun j => rd_cv hM j a _ ha p3
  have sm : Sm τ τ' := (k1.sm s38).tr ((kk.sm s38).tr (k'.sm s38))
  simp only [hSL] at h
  subst hx3
  have unf : ∀ e2, f_M_roundFrom_L59 400 (nI (2 ^ N - 1)) 0 (sA τ1 38 (64 * a + (v ||| 2 ^ a)) 0) = some e2 → f_M_roundFrom (nI a) (nI v) τ = (match e2 with | .inl v22 => some ((9999 : Int32), v22) | .inr r22 => some r22) := by
    intro e2 he
    unfold f_M_roundFrom
    rw [hM.2.1, allb N (by omega)]
    have e1' : f_M_roundFrom_L12 400 (nI a) (nI v) (nI (2 ^ N - 1)) 0 τ = some τ1 := e1
    rw [e1', bit1 a (by omega), fa_or, l_64, mul_nI, add_nI]
    show (if inB (nI (64 * a + (v ||| 2 ^ a))) 384 = true then _ else none) = _
    rw [if_pos (inB_t (by omega) (by decide)), nI_clamp (by omega), he]
    cases e2 <;> rfl
  rcases h with ⟨r, hr, e2, r1, r2⟩ | ⟨e2, r2⟩
  · refine ⟨τ', r, ?_, Or.inl ⟨(hoc r).mp r1, by omega, fun j hj => ?_⟩, by omega, sm⟩
    · rw [unf _ e2]
    · rcases Nat.lt_or_ge j r with q | q
      · exact absurd ((hoc j).mpr hj) (r2 j q)
      · exact q
  · refine ⟨τ', 9999, ?_, Or.inr ⟨rfl, fun j hj => ?_⟩, by omega, sm⟩
    · rw [unf _ e2]; rfl
    · obtain ⟨k, k1, k2⟩ := cv_bound (kd := kd) hN hgo (un (v ||| 2 ^ a) N) j (v ||| 2 ^ a) a rfl ha (by rw [tb_or]; simp) hj
      have := un_le (v ||| 2 ^ a) N
      exact r2 k (by omega) ((hoc k).mpr k2)
