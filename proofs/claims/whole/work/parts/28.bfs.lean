/-! THE REFERENCE'S SEARCH by layers, once for all three -/
section BFS
variable (nx : Nat → Nat → Nat) (W : Nat) (G : Nat → Prop)
/-- s comes from s0 in k steps -/
def fr (s0 : Nat) : Nat → Nat → Prop
  | 0, s => s = s0
  | k + 1, s => ∃ p w, fr s0 k p ∧ w < W ∧ s = nx p w
def rcg (k s0 : Nat) : Prop := ∃ s, fr nx W s0 k s ∧ G s
theorem fr_cons (s0 : Nat) : ∀ (k s : Nat), fr nx W s0 (k + 1) s ↔ ∃ w, w < W ∧ fr nx W (nx s0 w) k s := by
  intro k
  induction k with
  | zero =>
    intro s
    constructor
    · intro ⟨p, w, h1, h2, h3⟩
      exact ⟨w, h2, by rw [h3, show p = s0 from h1]; rfl⟩
    · intro ⟨w, h1, h2⟩
      exact ⟨s0, w, rfl, h1, h2⟩
  | succ k ih =>
    intro s
    constructor
    · intro ⟨p, w, h1, h2, h3⟩
      obtain ⟨w', h4, h5⟩ := (ih p).mp h1
      exact ⟨w', h4, p, w, h5, h2, h3⟩
    · intro ⟨w', h4, p, w, h5, h2, h3⟩
      exact ⟨p, w, (ih p).mpr ⟨w', h4, h5⟩, h2, h3⟩
theorem rcg_zero (s0 : Nat) : rcg nx W G 0 s0 ↔ G s0 := ⟨fun ⟨s, h1, h2⟩ => by rw [← show s = s0 from h1]; exact h2, fun h => ⟨s0, rfl, h⟩⟩
theorem rcg_succ (k s0 : Nat) : rcg nx W G (k + 1) s0 ↔ ∃ w, w < W ∧ rcg nx W G k (nx s0 w) := by
  constructor
  · intro ⟨s, h1, h2⟩
    obtain ⟨w, h3, h4⟩ := (fr_cons nx W s0 k s).mp h1
    exact ⟨w, h3, s, h4, h2⟩
  · intro ⟨w, h3, s, h4, h2⟩
    exact ⟨s, (fr_cons nx W s0 k s).mpr ⟨w, h3, h4⟩, h2⟩
/-- the search's state in step t at state k -/
def BK (s0 : Nat) (F : Nat → Nat) (t k : Nat) : Prop :=
  F s0 = 0 ∧ (∀ s, F s < 9999 → fr nx W s0 (F s) s) ∧ (∀ s, F s < 9999 → F s ≤ t + 1) ∧ (∀ s, F s < t → ¬ G s ∧ ∀ w, w < W → F (nx s w) ≤ F s + 1) ∧ (∀ s, s < k → F s = t → ¬ G s ∧ ∀ w, w < W → F (nx s w) ≤ t + 1)
def rl (F : Nat → Nat) (p v : Nat) : Nat → Nat := fun s => if s = p ∧ F p = 9999 then v else F s
variable {nx W G}
theorem rl_le {F : Nat → Nat} {p v : Nat} (hv : v ≤ 9999) (s : Nat) : rl F p v s ≤ F s := by
  unfold rl
  by_cases h : s = p ∧ F p = 9999
  · rw [if_pos h, h.1, h.2]; exact hv
  · rw [if_neg h]; exact Nat.le_refl _
theorem rl_at {F : Nat → Nat} {p v : Nat} (hle : F p ≤ v ∨ F p = 9999) : rl F p v p ≤ v := by
  unfold rl
  by_cases h : F p = 9999
  · rw [if_pos ⟨rfl, h⟩]; exact Nat.le_refl _
  · rw [if_neg (fun z => h z.2)]; rcases hle with q | q
    · exact q
    · exact absurd q h
theorem rl_old {F : Nat → Nat} {p v s : Nat} (h : F s < 9999) : rl F p v s = F s := by
  unfold rl
  by_cases q : s = p ∧ F p = 9999
  · obtain ⟨rfl, q⟩ := q; omega
  · rw [if_neg q]
theorem rl_new {F : Nat → Nat} {p v s : Nat} (h : rl F p v s ≠ F s) : s = p ∧ rl F p v s = v := by
  unfold rl at h ⊢
  by_cases q : s = p ∧ F p = 9999
  · rw [if_pos q]; exact ⟨q.1, rfl⟩
  · rw [if_neg q] at h; exact absurd rfl h
theorem BK_rl {s0 : Nat} {F : Nat → Nat} {t k w : Nat} (h : BK nx W G s0 F t k) (ht : t + 1 < 9999) (hk : F k = t) (hw : w < W) : BK nx W G s0 (rl F (nx k w) (t + 1)) t k := by
  obtain ⟨h1, h2, h3, h4, h5⟩ := h
  have hle : ∀ s, rl F (nx k w) (t + 1) s ≤ F s := fun s => rl_le (by omega) s
  refine ⟨by rw [rl_old (by omega)]; exact h1, fun s hs => ?_, fun s hs => ?_, fun s hs => ?_, fun s hs1 hs2 => ?_⟩
  · by_cases e : rl F (nx k w) (t + 1) s = F s
    · rw [e] at hs ⊢; exact h2 s hs
    · obtain ⟨e1, e2⟩ := rl_new e
      rw [e2, e1]
      have := h2 k (by omega)
      rw [hk] at this
      exact ⟨k, w, this, hw, rfl⟩
  · by_cases e : rl F (nx k w) (t + 1) s = F s
    · rw [e] at hs ⊢; exact h3 s hs
    · obtain ⟨e1, e2⟩ := rl_new e
      omega
  · by_cases e : rl F (nx k w) (t + 1) s = F s
    · rw [e] at hs ⊢
      obtain ⟨g1, g2⟩ := h4 s hs
      exact ⟨g1, fun x hx => Nat.le_trans (hle _) (g2 x hx)⟩
    · obtain ⟨e1, e2⟩ := rl_new e
      omega
  · by_cases e : rl F (nx k w) (t + 1) s = F s
    · rw [e] at hs2
      obtain ⟨g1, g2⟩ := h5 s hs1 hs2
      exact ⟨g1, fun x hx => Nat.le_trans (hle _) (g2 x hx)⟩
    · obtain ⟨e1, e2⟩ := rl_new e
      omega
/-- what is reached early has a small number -/
theorem BK_low {s0 : Nat} {F : Nat → Nat} {t k : Nat} (h : BK nx W G s0 F t k) : ∀ j s, j ≤ t → fr nx W s0 j s → F s ≤ j := by
  obtain ⟨h1, h2, h3, h4, h5⟩ := h
  intro j
  induction j with
  | zero => intro s _ hf; rw [show s = s0 from hf, h1]; exact Nat.le_refl _
  | succ j ih =>
    intro s hj hf
    obtain ⟨p, w, f1, f2, f3⟩ := hf
    have l1 := ih p (by omega) f1
    have l2 := (h4 p (by omega)).2 w f2
    rw [← f3] at l2
    omega
theorem BK_none {s0 : Nat} {F : Nat → Nat} {t k : Nat} (h : BK nx W G s0 F t k) : ∀ j, j < t → ¬ rcg nx W G j s0 := by
  intro j hj ⟨s, h1, h2⟩
  have := BK_low h j s (by omega) h1
  exact (h.2.2.2.1 s (by omega)).1 h2
def FQ (τ : ST) (arr M : Nat) (F : Nat → Nat) : Prop := (∀ s, s < M → gA τ arr s = nI (F s)) ∧ ∀ s, F s ≤ 9999
theorem FQ_rl {τ : ST} {arr M p t : Nat} {F : Nat → Nat} (h : FQ τ arr M F) (ht : t + 1 ≤ 9999) : FQ (if F p = 9999 then sA τ arr p (nI (t + 1)) else τ) arr M (rl F p (t + 1)) := by
  refine ⟨fun s hs => ?_, fun s => Nat.le_trans (rl_le ht s) (h.2 s)⟩
  unfold rl
  by_cases q : F p = 9999
  · rw [if_pos q, gA_sA']
    by_cases e : s = p
    · rw [if_pos ⟨rfl, e⟩, if_pos ⟨e, q⟩]
    · rw [if_neg (fun z => e z.2), if_neg (fun z => e z.1)]; exact h.1 s hs
  · rw [if_neg q, if_neg (fun z => q z.2)]; exact h.1 s hs
theorem Ka_rl {τ : ST} {arr p : Nat} {v : Int32} {c : Prop} [Decidable c] : Ka τ (if c then sA τ arr p v else τ) (fun a => a = arr) := by
  by_cases q : c
  · rw [if_pos q]; exact Ka.sA rfl
  · rw [if_neg q]; exact Ka.rf
variable {N : Nat} {kd : Nat → Nat} {go : Nat → Nat → Nat} {arr M K Tm : Nat} {V : Nat → Prop} {s0 : Nat}
variable {WL : Nat → Int32 → Int32 → Int32 → ST → Option ST} {KL : Nat → Int32 → Int32 → ST → Option (ST ⊕ (Int32 × ST))} {SL : Nat → Int32 → ST → Option (ST ⊕ (Int32 × ST))}
theorem way_loop (harr : scA arr) (hVn : ∀ s w, V s → w < W → V (nx s w)) 
    (H1 : ∀ (τ : ST) (F : Nat → Nat) (n t k w : Nat), Mm τ N kd go → FQ τ arr M F → V k → t < 100 → F k = t → w < W → WL (n + 1) (nI t) (nI k) (nI w) τ = WL n (nI t) (nI k) (nI (w + 1)) (if F (nx k w) = 9999 then sA τ arr (nx k w) (nI (t + 1)) else τ))
    (H2 : ∀ (τ : ST) (n t k : Nat), WL (n + 1) (nI t) (nI k) (nI W) τ = some τ) {t k : Nat} (ht : t < 100) (hk : V k) : ∀ (n w : Nat) (τ : ST) (F : Nat → Nat), W - w < n → w ≤ W → Mm τ N kd go → FQ τ arr M F → BK nx W G s0 F t k → F k = t → ¬ G k → (∀ x, x < w → F (nx k x) ≤ t + 1) →
    ∃ τ' F', WL n (nI t) (nI k) (nI w) τ = some τ' ∧ Mm τ' N kd go ∧ FQ τ' arr M F' ∧ BK nx W G s0 F' t (k + 1) ∧ Ka τ τ' (fun a => a = arr) := by
  intro n
  induction n with
  | zero => intro w τ F h; omega
  | succ n ih =>
    intro w τ F hn hwW hM hF hB hFk hG hdone
    by_cases hw : w < W
    · rw [H1 τ F n t k w hM hF hk ht hFk hw]
      have hM1 := hM.keep ((Ka_rl (τ := τ) (arr := arr) (p := nx k w) (v := nI (t + 1)) (c := F (nx k w) = 9999)).sm (fun a h => by rw [show a = arr from h]; exact harr))
      obtain ⟨τ', F', f1, f2, f3, f4, f5⟩ := ih (w + 1) _ (rl F (nx k w) (t + 1)) (by omega) (by omega) hM1 (FQ_rl hF (by omega)) (BK_rl hB (by omega) hFk hw) (by rw [rl_old (by omega)]; exact hFk) hG (by
        intro x hx
        by_cases e : x = w
        · subst e
          refine rl_at ?_
          by_cases q : F (nx k x) < 9999
          · exact Or.inl (hB.2.2.1 _ q)
          · exact Or.inr (by have := hF.2 (nx k x); omega)
        · exact Nat.le_trans (rl_le (by omega) _) (hdone x (by omega)))
      exact ⟨τ', F', f1, f2, f3, f4, Ka_rl.tr f5⟩
    · have : w = W := by omega
      subst this
      rw [H2]
      refine ⟨τ, F, rfl, hM, hF, ⟨hB.1, hB.2.1, hB.2.2.1, hB.2.2.2.1, fun s hs hst => ?_⟩, Ka.rf⟩
      by_cases e : s = k
      · subst e; exact ⟨hG, hdone⟩
      · exact hB.2.2.2.2 s (by omega) hst
theorem fr_V (hV0 : V s0) (hVn : ∀ s w, V s → w < W → V (nx s w)) : ∀ j s, fr nx W s0 j s → V s := by
  intro j
  induction j with
  | zero => intro s h; rw [show s = s0 from h]; exact hV0
  | succ j ih =>
    intro s ⟨p, w, h1, h2, h3⟩
    rw [h3]; exact hVn p w (ih p h1) h2
theorem scan_loop (harr : scA arr) (hV0 : V s0) (hVn : ∀ s w, V s → w < W → V (nx s w)) (hW : W < 400) (hW0 : 0 < W)
    (H1 : ∀ (τ : ST) (F : Nat → Nat) (n t k w : Nat), Mm τ N kd go → FQ τ arr M F → V k → t < 100 → F k = t → w < W → WL (n + 1) (nI t) (nI k) (nI w) τ = WL n (nI t) (nI k) (nI (w + 1)) (if F (nx k w) = 9999 then sA τ arr (nx k w) (nI (t + 1)) else τ))
    (H2 : ∀ (τ : ST) (n t k : Nat), WL (n + 1) (nI t) (nI k) (nI W) τ = some τ)
    (H3 : ∀ (τ : ST) (F : Nat → Nat) (n t k w : Nat), FQ τ arr M F → k < K → t < 100 → F k ≠ t → w < W → WL (n + 1) (nI t) (nI k) (nI w) τ = some τ)
    (H4 : ∀ (τ : ST) (F : Nat → Nat) (n t k : Nat), Mm τ N kd go → FQ τ arr M F → V k → k < K → t < 100 → F k = t → G k → KL (n + 1) (nI t) (nI k) τ = some (.inr (nI t, τ)))
    (H5 : ∀ (τ : ST) (F : Nat → Nat) (n t k : Nat), Mm τ N kd go → FQ τ arr M F → k < K → t < 100 → (F k ≠ t ∨ (V k ∧ ¬ G k)) → KL (n + 1) (nI t) (nI k) τ = (WL 400 (nI t) (nI k) (nI 0) τ).bind (fun e => KL n (nI t) (nI (k + 1)) e))
    (H6 : ∀ (τ : ST) (n t : Nat), Mm τ N kd go → KL (n + 1) (nI t) (nI K) τ = some (.inl τ)) {t : Nat} (ht : t < 100) : ∀ (n k : Nat) (τ : ST) (F : Nat → Nat), K - k < n → k ≤ K → Mm τ N kd go → FQ τ arr M F → BK nx W G s0 F t k →
    ∃ τ', Mm τ' N kd go ∧ Ka τ τ' (fun a => a = arr) ∧ ((KL n (nI t) (nI k) τ = some (.inr (nI t, τ')) ∧ rcg nx W G t s0 ∧ ∀ j, j < t → ¬ rcg nx W G j s0) ∨ ∃ F', KL n (nI t) (nI k) τ = some (.inl τ') ∧ FQ τ' arr M F' ∧ BK nx W G s0 F' t K) := by
  intro n
  induction n with
  | zero => intro k τ F h; omega
  | succ n ih =>
    intro k τ F hn hkK hM hF hB
    by_cases hk : k < K
    · by_cases hFk : F k = t
      · have hfr : fr nx W s0 t k := by have := hB.2.1 k (by omega); rwa [hFk] at this
        have hVk := fr_V hV0 hVn t k hfr
        by_cases hG : G k
        · exact ⟨τ, hM, Ka.rf, Or.inl ⟨H4 τ F n t k hM hF hVk hk ht hFk hG, ⟨k, hfr, hG⟩, BK_none hB⟩⟩
        · rw [H5 τ F n t k hM hF hk ht (Or.inr ⟨hVk, hG⟩)]
          obtain ⟨τ1, F1, e1, hM1, hF1, hB1, k1⟩ := way_loop harr hVn H1 H2 ht hVk 400 0 τ F (by omega) (by omega) hM hF hB hFk hG (fun x hx => by omega)
          rw [e1]
          obtain ⟨τ', g1, g2, g3⟩ := ih (k + 1) τ1 F1 (by omega) (by omega) hM1 hF1 hB1
          exact ⟨τ', g1, k1.tr g2, g3⟩
      · rw [H5 τ F n t k hM hF hk ht (Or.inl hFk), H3 τ F 399 t k 0 hF hk ht hFk hW0]
        obtain ⟨τ', g1, g2, g3⟩ := ih (k + 1) τ F (by omega) (by omega) hM hF ⟨hB.1, hB.2.1, hB.2.2.1, hB.2.2.2.1, fun s hs hst => by
          by_cases e : s = k
          · subst e; exact absurd hst hFk
          · exact hB.2.2.2.2 s (by omega) hst⟩
        exact ⟨τ', g1, g2, g3⟩
    · have : k = K := by omega
      subst this
      exact ⟨τ, hM, Ka.rf, Or.inr ⟨F, H6 τ n t hM, hF, hB⟩⟩
theorem steps_loop (harr : scA arr) (hV0 : V s0) (hVn : ∀ s w, V s → w < W → V (nx s w)) (hVK : ∀ s, V s → s < K) (hK : K < 400) (hTm : Tm < 100) (hW : W < 400) (hW0 : 0 < W)
    (H1 : ∀ (τ : ST) (F : Nat → Nat) (n t k w : Nat), Mm τ N kd go → FQ τ arr M F → V k → t < 100 → F k = t → w < W → WL (n + 1) (nI t) (nI k) (nI w) τ = WL n (nI t) (nI k) (nI (w + 1)) (if F (nx k w) = 9999 then sA τ arr (nx k w) (nI (t + 1)) else τ))
    (H2 : ∀ (τ : ST) (n t k : Nat), WL (n + 1) (nI t) (nI k) (nI W) τ = some τ)
    (H3 : ∀ (τ : ST) (F : Nat → Nat) (n t k w : Nat), FQ τ arr M F → k < K → t < 100 → F k ≠ t → w < W → WL (n + 1) (nI t) (nI k) (nI w) τ = some τ)
    (H4 : ∀ (τ : ST) (F : Nat → Nat) (n t k : Nat), Mm τ N kd go → FQ τ arr M F → V k → k < K → t < 100 → F k = t → G k → KL (n + 1) (nI t) (nI k) τ = some (.inr (nI t, τ)))
    (H5 : ∀ (τ : ST) (F : Nat → Nat) (n t k : Nat), Mm τ N kd go → FQ τ arr M F → k < K → t < 100 → (F k ≠ t ∨ (V k ∧ ¬ G k)) → KL (n + 1) (nI t) (nI k) τ = (WL 400 (nI t) (nI k) (nI 0) τ).bind (fun e => KL n (nI t) (nI (k + 1)) e))
    (H6 : ∀ (τ : ST) (n t : Nat), Mm τ N kd go → KL (n + 1) (nI t) (nI K) τ = some (.inl τ))
    (H7 : ∀ (τ : ST) (n t : Nat), t < Tm → SL (n + 1) (nI t) τ = (KL 400 (nI t) (nI 0) τ).bind (fun e => match e with | .inl v => SL n (nI (t + 1)) v | .inr r => some (.inr r)))
    (H8 : ∀ (τ : ST) (n : Nat), SL (n + 1) (nI Tm) τ = some (.inl τ)) : ∀ (n t : Nat) (τ : ST) (F : Nat → Nat), Tm - t < n → t ≤ Tm → Mm τ N kd go → FQ τ arr M F → BK nx W G s0 F t 0 →
    ∃ τ', Mm τ' N kd go ∧ Ka τ τ' (fun a => a = arr) ∧ ((∃ r, r < Tm ∧ SL n (nI t) τ = some (.inr (nI r, τ')) ∧ rcg nx W G r s0 ∧ ∀ j, j < r → ¬ rcg nx W G j s0) ∨ (SL n (nI t) τ = some (.inl τ') ∧ ∀ j, j < Tm → ¬ rcg nx W G j s0)) := by
  intro n
  induction n with
  | zero => intro t τ F h; omega
  | succ n ih =>
    intro t τ F hn htT hM hF hB
    by_cases ht : t < Tm
    · rw [H7 τ n t ht]
      obtain ⟨τ1, hM1, k1, h⟩ := scan_loop harr hV0 hVn hW hW0 H1 H2 H3 H4 H5 H6 (show t < 100 by omega) 400 0 τ F (by omega) (by omega) hM hF hB
      rcases h with ⟨e1, r1, r2⟩ | ⟨F1, e1, hF1, hB1⟩
      · rw [e1]
        exact ⟨τ1, hM1, k1, Or.inl ⟨t, ht, rfl, r1, r2⟩⟩
      · rw [e1]
        show ∃ τ', _ ∧ _ ∧ ((∃ r, r < Tm ∧ SL n (nI (t + 1)) τ1 = some (.inr (nI r, τ')) ∧ _) ∨ (SL n (nI (t + 1)) τ1 = some (.inl τ') ∧ _))
        obtain ⟨τ', g1, g2, g3⟩ := ih (t + 1) τ1 F1 (by omega) (by omega) hM1 hF1 ⟨hB1.1, hB1.2.1, fun s hs => by have := hB1.2.2.1 s hs; omega, fun s hs => by
          by_cases e : F1 s = t
          · have hfr := hB1.2.1 s (by omega)
            obtain ⟨q1, q2⟩ := hB1.2.2.2.2 s (hVK s (fr_V hV0 hVn _ s hfr)) e
            exact ⟨q1, fun w hw => by rw [e]; exact q2 w hw⟩
          · exact hB1.2.2.2.1 s (by omega), fun s hs => by omega⟩
        exact ⟨τ', g1, k1.tr g2, g3⟩
    · have : t = Tm := by omega
      subst this
      exact ⟨τ, hM, Ka.rf, Or.inr ⟨H8 τ n, BK_none hB⟩⟩
theorem BK_start : BK nx W G s0 (fun s => if s = s0 then 0 else 9999) 0 0 := by
  refine ⟨by simp, fun s hs => ?_, fun s hs => ?_, fun s hs => by omega, fun s hs => by omega⟩
  · by_cases e : s = s0
    · simp only [if_pos e]; exact e
    · simp only [if_neg e] at hs; omega
  · by_cases e : s = s0
    · simp only [if_pos e]; omega
    · simp only [if_neg e] at hs; omega
end BFS
