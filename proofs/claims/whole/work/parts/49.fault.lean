/-! FAULT, GOING ON -/
theorem ite3 {a b : Prop} [Decidable a] [Decidable b] : (if a then some (0 : Int32) else if b then some 0 else some 1) = some (if a then (0 : Int32) else if b then 0 else 1) := by
  by_cases ha : a
  · rw [if_pos ha, if_pos ha]
  · rw [if_neg ha, if_neg ha]
    by_cases hb : b
    · rw [if_pos hb, if_pos hb]
    · rw [if_neg hb, if_neg hb]
section FIT
variable {σ τ : ST} {pn i : Nat} {cd : Nat → Nat}
theorem fic0 (h : Rp σ τ pn cd) (hi : i < pn) (h4 : i % 4 = 0) : f_Page_fitsInCrossings (nI i) σ = some (if f_M_kindBy (nI (cd i)) = -1 then (0 : Int32) else 1) := by
  have := h.1
  have hc := (h.2.2.2 i hi).2.1
  have hr : nI i - nI i / 4 * 4 = nI (i % 4) := by rw [l_4, r_nI (by omega) (by decide) (by decide)]
  unfold f_Page_fitsInCrossings
  rw [hr, h4, if_pos (show nI 0 = 0 from rfl), h.code hi, kind_eq σ (by omega), Option.bind_some]
  by_cases q : f_M_kindBy (nI (cd i)) = -1
  · rw [if_pos q, if_pos q]
  · rw [if_neg q, if_neg q]
theorem fic12 (h : Rp σ τ pn cd) (hi : i < pn) (h4 : i % 4 = 1 ∨ i % 4 = 2) : f_Page_fitsInCrossings (nI i) σ = some (if 48 ≤ cd i ∧ cd i ≤ 53 then (1 : Int32) else 0) := by
  have := h.1
  have hc := (h.2.2.2 i hi).2.1
  have hr : nI i - nI i / 4 * 4 = nI (i % 4) := by rw [l_4, r_nI (by omega) (by decide) (by decide)]
  have e0 : ¬ nI (i % 4) = 0 := by rcases h4 with e | e <;> rw [e] <;> decide
  have e3 : ¬ nI (i % 4) = 3 := by rcases h4 with e | e <;> rw [e] <;> decide
  unfold f_Page_fitsInCrossings
  rw [hr, if_neg e0, if_neg e3, h.dig hi, ite3, dc_dec _ (by omega)]
theorem fic3 (h : Rp σ τ pn cd) (hi : i < pn) (h4 : i % 4 = 3) : f_Page_fitsInCrossings (nI i) σ = some (if cd i = 44 then (if i / 4 + 1 < 6 then (1 : Int32) else 0) else if cd i = 59 then (if i / 4 + 1 < 2 then 0 else 1) else 0) := by
  have := h.1
  have hc := (h.2.2.2 i hi).2.1
  have hr : nI i - nI i / 4 * 4 = nI (i % 4) := by rw [l_4, r_nI (by omega) (by decide) (by decide)]
  have hd : nI i / 4 + 1 = nI (i / 4 + 1) := by rw [l_4, d_nI (by omega) (by decide) (by decide), nI_1]
  unfold f_Page_fitsInCrossings
  rw [hr, h4, if_neg (show ¬ nI 3 = 0 by decide), if_pos (show nI 3 = 3 from rfl), hd, h.code hi, l_6, l_2]
  by_cases q : cd i = 44
  · rw [if_pos q, q, if_pos (show nI 44 = 44 from rfl), if_neg (show ¬ nI 44 = 59 by decide)]
    by_cases z : i / 4 + 1 < 6
    · rw [if_pos z, if_pos (nI_lt z (by decide))]
    · rw [if_neg z, if_neg (nI_nlt (by omega) (by omega))]
  · rw [if_neg q, if_neg (n_44 (by omega) q)]
    by_cases q2 : cd i = 59
    · rw [if_pos q2, q2, if_pos (show nI 59 = 59 from rfl)]
      by_cases z : i / 4 + 1 < 2
      · rw [if_pos z, if_pos (nI_lt z (by decide))]
      · rw [if_neg z, if_neg (nI_nlt (by omega) (by omega))]
    · rw [if_neg q2, if_neg (n_59 (by omega) q2)]
end FIT
section PH
variable {σ : ST} {pn : Nat} {cd : Nat → Nat}
theorem ph03 : ∀ (n i q s : Nat) (τ : ST), Rp σ τ pn cd → pn - i < n → i ≤ pn → i = 4 * q + s → s < 4 → q ≤ 5 → gI τ 3105 = nI s → gI τ 3103 = nI (if s = 3 then q + 1 else q) → Dd τ cd i → (∀ k, k < i → cd k ≠ 59) → Out σ pn cd n i 0 τ := by
  intro n
  induction n with
  | zero => intro i q s τ h hn; omega
  | succ n ih =>
    intro i q s τ h hn hi e hs hq s5 s3 d no
    have h28 := h.1
    by_cases hp : i < pn
    · have hc := (h.2.2.2 i hp).2.1
      have keep : ∀ τ1, Fq τ τ1 → Rp σ τ1 pn cd := fun τ1 f => h.fr (Fr.rf (I := [3103, 3104, 3105, 3118]) (A := [33, 37, 38, 39])) f (by decide)
      have no' : cd i ≠ 59 → ∀ k, k < i + 1 → cd k ≠ 59 := fun z k hk => by
        by_cases w : k = i
        · rw [w]; exact z
        · exact no k (by omega)
      rcases (show s = 0 ∨ s = 1 ∨ s = 2 ∨ s = 3 by omega) with z | z | z | z
      · subst z
        rw [if_neg (by decide)] at s3
        have e4 := h.l4 (n := n) hp (fic0 h hp (by omega))
        have e12 := h.l12 (n := n) hp
        rw [go_0 s5 s3 (by omega), Option.bind_some] at e12
        have f : Fq τ (sA (sI τ 3105 (nI 1)) 33 (3 * q) (f_M_kindBy (nI (cd i)))) := Fr.sA (Fr.sI Fr.rf (by decide)) (by decide)
        rcases kb_cases (cd i) (by omega) with w | ⟨-, -, w1, w2⟩
        · rw [if_pos w, if_pos rfl] at e4
          simp only [if_pos w] at e12
          rw [if_pos trivial] at e12
          exact Or.inl ⟨i, _, hp, e4, e12, f⟩
        · rw [if_neg w2, if_neg n10, if_neg w1] at e4
          simp only [if_neg w2] at e12
          rw [if_neg n10] at e12
          refine Out.step (ih (i + 1) q 1 _ (keep _ f) (by omega) (by omega) (by omega) (by omega) hq rfl s3 ?_ (no' w1)) f e4 e12
          intro q'
          refine ⟨fun hq' => ?_, fun hq' => ?_, fun hq' => ?_⟩
          · by_cases t : q' = q
            · rw [t, gA_sA', if_pos ⟨rfl, rfl⟩, show 4 * q = i by omega]; exact ⟨rfl, w2⟩
            · rw [gA_sA', if_neg (by omega)]; exact (d q').1 (by omega)
          · rw [gA_sA', if_neg (by omega)]; exact (d q').2.1 (by omega)
          · rw [gA_sA', if_neg (by omega)]; exact (d q').2.2 (by omega)
      · subst z
        rw [if_neg (by decide)] at s3
        have e4 := h.l4 (n := n) hp (fic12 h hp (by omega))
        have e12 := h.l12 (n := n) hp
        rw [go_1 s5 s3 (by omega), Option.bind_some, dm_dec _ (by omega)] at e12
        have f : Fq τ (sA (sI τ 3105 (nI 2)) 33 (3 * q + 1) (nI (cd i) - 48)) := Fr.sA (Fr.sI Fr.rf (by decide)) (by decide)
        by_cases w : 48 ≤ cd i ∧ cd i ≤ 53
        · rw [if_pos w, if_neg n10, if_neg (show ¬ cd i = 59 by omega)] at e4
          simp only [if_pos w] at e12
          rw [if_neg n10] at e12
          refine Out.step (ih (i + 1) q 2 _ (keep _ f) (by omega) (by omega) (by omega) (by omega) hq rfl s3 ?_ (no' (by omega))) f e4 e12
          intro q'
          refine ⟨fun hq' => ?_, fun hq' => ?_, fun hq' => ?_⟩
          · rw [gA_sA', if_neg (by omega)]; exact (d q').1 (by omega)
          · by_cases t : q' = q
            · rw [t, gA_sA', if_pos ⟨rfl, rfl⟩, show 4 * q + 1 = i by omega]; exact ⟨rfl, w⟩
            · rw [gA_sA', if_neg (by omega)]; exact (d q').2.1 (by omega)
          · rw [gA_sA', if_neg (by omega)]; exact (d q').2.2 (by omega)
        · rw [if_neg w, if_pos rfl] at e4
          simp only [if_neg w] at e12
          rw [if_pos trivial] at e12
          exact Or.inl ⟨i, _, hp, e4, e12, f⟩
      · subst z
        rw [if_neg (by decide)] at s3
        have e4 := h.l4 (n := n) hp (fic12 h hp (by omega))
        have e12 := h.l12 (n := n) hp
        rw [go_2 s5 s3 (by omega), Option.bind_some, dm_dec _ (by omega)] at e12
        have f : Fq τ (sI (sA (sI τ 3105 (nI 3)) 33 (3 * q + 2) (nI (cd i) - 48)) 3103 (nI (q + 1))) := Fr.sI (Fr.sA (Fr.sI Fr.rf (by decide)) (by decide)) (by decide)
        by_cases w : 48 ≤ cd i ∧ cd i ≤ 53
        · rw [if_pos w, if_neg n10, if_neg (show ¬ cd i = 59 by omega)] at e4
          simp only [if_pos w] at e12
          rw [if_neg n10] at e12
          refine Out.step (ih (i + 1) q 3 _ (keep _ f) (by omega) (by omega) (by omega) (by omega) hq rfl rfl ?_ (no' (by omega))) f e4 e12
          intro q'
          simp only [gA_sI]
          refine ⟨fun hq' => ?_, fun hq' => ?_, fun hq' => ?_⟩
          · rw [gA_sA', if_neg (by omega)]; exact (d q').1 (by omega)
          · rw [gA_sA', if_neg (by omega)]; exact (d q').2.1 (by omega)
          · by_cases t : q' = q
            · rw [t, gA_sA', if_pos ⟨rfl, rfl⟩, show 4 * q + 2 = i by omega]; exact ⟨rfl, w⟩
            · rw [gA_sA', if_neg (by omega)]; exact (d q').2.2 (by omega)
        · rw [if_neg w, if_pos rfl] at e4
          simp only [if_neg w] at e12
          rw [if_pos trivial] at e12
          exact Or.inl ⟨i, _, hp, e4, e12, f⟩
      · subst z
        rw [if_pos rfl] at s3
        have e4 := h.l4 (n := n) hp (fic3 h hp (by omega))
        have e12 := h.l12 (n := n) hp
        obtain ⟨τ1, g1, f, g2, g3, g4, g5⟩ := go_3 (p := nI (cd i)) s5 s3
        rw [g1, Option.bind_some] at e12
        have iq : i / 4 = q := by omega
        rw [iq] at e4
        have d' : Dd τ1 cd (i + 1) := by
          intro q'
          rw [g2]
          exact ⟨fun z => (d q').1 (by omega), fun z => (d q').2.1 (by omega), fun z => (d q').2.2 (by omega)⟩
        by_cases w : cd i = 44
        · have w' : nI (cd i) = 44 := by rw [w]; rfl
          rw [if_pos w] at e4
          simp only [if_pos w'] at e12
          by_cases t : q + 1 < 6
          · rw [if_pos t, if_neg n10, if_neg (show ¬ cd i = 59 by omega)] at e4
            rw [if_neg (show ¬ (6 : Int32) ≤ nI (q + 1) by rw [l_6]; exact nI_ge t (by decide)), if_neg n10] at e12
            exact Out.step (ih (i + 1) (q + 1) 0 _ (keep _ f) (by omega) (by omega) (by omega) (by omega) (by omega) (g4 w') g3 d' (no' (by omega))) f e4 e12
          · rw [if_neg t, if_pos rfl] at e4
            rw [if_pos (show (6 : Int32) ≤ nI (q + 1) by rw [l_6]; exact nI_le (by omega) (by omega)), if_pos rfl] at e12
            exact Or.inl ⟨i, _, hp, e4, e12, f⟩
        · rw [if_neg w] at e4
          simp only [if_neg (n_44 (show cd i < 127 by omega) w)] at e12
          by_cases w9 : cd i = 59
          · have w' : nI (cd i) = 59 := by rw [w9]; rfl
            rw [if_pos w9] at e4
            simp only [if_pos w'] at e12
            by_cases t : q + 1 < 2
            · rw [if_pos t, if_pos rfl] at e4
              rw [if_pos (show nI (q + 1) ≤ 1 by rw [l_1]; exact nI_le (by omega) (by omega)), if_pos rfl] at e12
              exact Or.inl ⟨i, _, hp, e4, e12, f⟩
            · rw [if_neg t, if_neg n10, if_pos w9] at e4
              rw [if_neg (show ¬ nI (q + 1) ≤ 1 by rw [l_1]; exact nI_ge (by omega) (by omega)), if_neg n10] at e12
              refine Out.step (ph4 (keep _ f) (M := q + 1) (n := n) (i := i + 1) (by omega) (by omega) (by omega) (by omega) (by omega) (g5 w') g3 ?_ ?_ ?_) f e4 e12
              · rw [show 4 * (q + 1) = i + 1 by omega]; exact d'
              · rw [show 4 * (q + 1) - 1 = i by omega]; exact w9
              · exact no _ (by omega)
          · rw [if_neg w9, if_pos rfl] at e4
            simp only [if_neg (n_59 (show cd i < 127 by omega) w9)] at e12
            rw [if_pos trivial] at e12
            exact Or.inl ⟨i, _, hp, e4, e12, f⟩
    · have ep : i = pn := by omega
      subst ep
      refine Or.inr ⟨τ, h.end4, h.end12, Fr.rf, Or.inl ⟨s, by omega, s5, ?_⟩⟩
      by_cases z : i < 2
      · exact closed_lo h z
      · rw [closed_at h (by omega), if_neg (no _ (by omega))]
end PH
/-- a digit that leads nowhere -/
def Bad (cd : Nat → Nat) (M k : Nat) : Prop := (k % 4 = 1 ∨ k % 4 = 2) ∧ M ≤ cd k - 48
section STRAY
variable {σ τ : ST} {pn M : Nat} {cd : Nat → Nat}
theorem dig48 {c : Nat} (h : 48 ≤ c) : nI c - 48 = nI (c - 48) := by rw [l_48, sub_nI h]
theorem Dd.dig (d : Dd τ cd (4 * M)) {k : Nat} (hk : k < 4 * M) (h : k % 4 = 1 ∨ k % 4 = 2) : 48 ≤ cd k ∧ cd k ≤ 53 := by
  rcases h with h | h
  · have := (d (k / 4)).2.1 (by omega)
    rw [show 4 * (k / 4) + 1 = k by omega] at this
    exact this.2
  · have := (d (k / 4)).2.2 (by omega)
    rw [show 4 * (k / 4) + 2 = k by omega] at this
    exact this.2
theorem nowhere_loop (h : Rp σ τ pn cd) (d : Dd τ cd (4 * M)) (h6 : M ≤ 6) (hpn : pn = 4 * M + 1) : ∀ (n i : Nat), 4 * M - i < n → i ≤ 4 * M → (∀ k, k < i → ¬ Bad cd M k) → (∃ r, r < 4 * M ∧ Bad cd M r ∧ (∀ k, k < r → ¬ Bad cd M k) ∧ f_Page_firstLeadingNowhere_L9 n (nI M) (nI i) σ = some (.inr (nI r))) ∨ ((∀ k, k < 4 * M → ¬ Bad cd M k) ∧ f_Page_firstLeadingNowhere_L9 n (nI M) (nI i) σ = some (.inl ())) := by
  intro n
  induction n with
  | zero => intro i hn; omega
  | succ n ih =>
    intro i hn hi no
    have hr : nI i - nI i / 4 * 4 = nI (i % 4) := by rw [l_4, r_nI (by omega) (by decide) (by decide)]
    rw [f_Page_firstLeadingNowhere_L9, hr, i40]
    by_cases q : i < 4 * M
    · rw [if_neg (nI_ge q (by omega)), nI_1]
      have go : ¬ Bad cd M i → (∃ r, r < 4 * M ∧ Bad cd M r ∧ (∀ k, k < r → ¬ Bad cd M k) ∧ f_Page_firstLeadingNowhere_L9 n (nI M) (nI (i + 1)) σ = some (.inr (nI r))) ∨ ((∀ k, k < 4 * M → ¬ Bad cd M k) ∧ f_Page_firstLeadingNowhere_L9 n (nI M) (nI (i + 1)) σ = some (.inl ())) := fun nb => ih (i + 1) (by omega) (by omega) (fun k hk => by
        by_cases z : k = i
        · rw [z]; exact nb
        · exact no k (by omega))
      have dd : i % 4 = 1 ∨ i % 4 = 2 → ((f_Page_digitAt (nI i) σ < nI M) ↔ ¬ Bad cd M i) := fun hb => by
        have := d.dig q hb
        rw [h.dig (by omega), dig48 this.1]
        by_cases z : cd i - 48 < M
        · exact ⟨fun _ b => by have := b.2; omega, fun _ => nI_lt z (by omega)⟩
        · exact ⟨fun l => absurd l (nI_nlt (by omega) (by omega)), fun b => absurd ⟨hb, by omega⟩ b⟩
      by_cases q1 : i % 4 = 1
      · rw [if_pos (show nI (i % 4) = 1 by rw [q1]; rfl)]
        by_cases z : Bad cd M i
        · rw [if_neg (fun l => (dd (Or.inl q1)).mp l z)]
          exact Or.inl ⟨i, q, z, no, rfl⟩
        · rw [if_pos ((dd (Or.inl q1)).mpr z)]; exact go z
      · have n1 : ¬ nI (i % 4) = 1 := fun z => q1 (nI_inj (b := 1) (by omega) (by decide) z)
        rw [if_neg n1]
        by_cases q2 : i % 4 = 2
        · rw [if_pos (show nI (i % 4) = 2 by rw [q2]; rfl)]
          by_cases z : Bad cd M i
          · rw [if_neg (fun l => (dd (Or.inr q2)).mp l z)]
            exact Or.inl ⟨i, q, z, no, rfl⟩
          · rw [if_pos ((dd (Or.inr q2)).mpr z)]; exact go z
        · have n2 : ¬ nI (i % 4) = 2 := fun z => q2 (nI_inj (b := 2) (by omega) (by decide) z)
          rw [if_neg n2]
          exact go (fun b => by rcases b.1 with e | e <;> omega)
    · rw [if_pos (nI_le (by omega) (by omega))]
      exact Or.inr ⟨fun k hk => no k (by omega), rfl⟩
theorem stray_loop (d : Dd τ cd (4 * M)) (h6 : M ≤ 6) (hm : gI τ 3103 = nI M) : ∀ (n k : Nat) (v : Int32), k < n → k ≤ M → ((v = -1 ∧ ∀ x, 4 * k ≤ x → x < 4 * M → ¬ Bad cd M x) ∨ ∃ r, v = nI r ∧ 4 * k ≤ r ∧ r < 4 * M ∧ Bad cd M r ∧ ∀ x, 4 * k ≤ x → x < r → ¬ Bad cd M x) → ∃ w, f_M_strayDigit_L9 n v (nI k - 1) τ = some w ∧ ((w = -1 ∧ ∀ x, x < 4 * M → ¬ Bad cd M x) ∨ ∃ r, w = nI r ∧ r < 4 * M ∧ Bad cd M r ∧ ∀ x, x < r → ¬ Bad cd M x) := by
  intro n
  induction n with
  | zero => intro k v hn; omega
  | succ n ih =>
    intro k v hn hk hv
    rcases Nat.eq_zero_or_pos k with q | q
    · subst q
      rw [f_M_strayDigit_L9, if_pos (show nI 0 - 1 < 0 by decide)]
      refine ⟨v, rfl, ?_⟩
      rcases hv with ⟨a, b⟩ | ⟨r, a1, a2, a3, a4, a5⟩
      · exact Or.inl ⟨a, fun x hx => b x (by omega) hx⟩
      · exact Or.inr ⟨r, a1, a3, a4, fun x hx => a5 x (by omega) hx⟩
    · obtain ⟨k, rfl⟩ : ∃ m, k = m + 1 := ⟨k - 1, by omega⟩
      have e1 : nI (k + 1) - 1 = nI k := nI_pred k
      have i31 : (3 : Int32) * nI k + 1 = nI (3 * k + 1) := by rw [l_3, mul_nI, l_1, add_nI]
      have i32 : (3 : Int32) * nI k + 2 = nI (3 * k + 2) := by rw [l_3, mul_nI, l_2, add_nI]
      have em : nI k + (-1) = nI k - 1 := by rw [Int32.sub_eq_add_neg]
      obtain ⟨a1, b1, c1⟩ := (d k).2.1 (by omega)
      obtain ⟨a2, b2, c2⟩ := (d k).2.2 (by omega)
      rw [dig48 b1] at a1
      rw [dig48 b2] at a2
      rw [e1, f_M_strayDigit_L9, if_neg (nI_pos (by omega)), i31, i32, i41, i42, if_pos (inB_t (by omega) (by decide)), nI_clamp (show 3 * k + 1 < 2 ^ 31 by omega), nI_clamp (show 3 * k + 2 < 2 ^ 31 by omega), a1, a2, hm, em]
      have nb0 : ¬ Bad cd M (4 * k) := fun b => by rcases b.1 with e | e <;> omega
      have nb3 : ¬ Bad cd M (4 * k + 3) := fun b => by rcases b.1 with e | e <;> omega
      have B1 : Bad cd M (4 * k + 1) ↔ M ≤ cd (4 * k + 1) - 48 := ⟨fun b => b.2, fun b => ⟨by omega, b⟩⟩
      have B2 : Bad cd M (4 * k + 2) ↔ M ≤ cd (4 * k + 2) - 48 := ⟨fun b => b.2, fun b => ⟨by omega, b⟩⟩
      have four : ∀ x, 4 * k ≤ x → x < 4 * (k + 1) → x = 4 * k ∨ x = 4 * k + 1 ∨ x = 4 * k + 2 ∨ x = 4 * k + 3 := fun x _ _ => by omega
      have first : M ≤ cd (4 * k + 1) - 48 → ∃ w, f_M_strayDigit_L9 n (nI (4 * k + 1)) (nI k - 1) τ = some w ∧ ((w = -1 ∧ ∀ x, x < 4 * M → ¬ Bad cd M x) ∨ ∃ r, w = nI r ∧ r < 4 * M ∧ Bad cd M r ∧ ∀ x, x < r → ¬ Bad cd M x) := fun z =>
        ih k _ (by omega) (by omega) (Or.inr ⟨4 * k + 1, rfl, by omega, by omega, B1.mpr z, fun x x1 x2 => by
          rw [show x = 4 * k by omega]; exact nb0⟩)
      by_cases z2 : cd (4 * k + 2) - 48 < M
      · rw [if_pos (nI_lt z2 (by omega)), if_pos (inB_t (by omega) (by decide))]
        by_cases z1 : cd (4 * k + 1) - 48 < M
        · rw [if_pos (nI_lt z1 (by omega))]
          refine ih k v (by omega) (by omega) ?_
          have none4 : ∀ x, 4 * k ≤ x → x < 4 * (k + 1) → ¬ Bad cd M x := fun x x1 x2 => by
            rcases four x x1 x2 with e | e | e | e
            · rw [e]; exact nb0
            · rw [e, B1]; omega
            · rw [e, B2]; omega
            · rw [e]; exact nb3
          rcases hv with ⟨a, b⟩ | ⟨r, r1, r2, r3, r4, r5⟩
          · refine Or.inl ⟨a, fun x x1 x2 => ?_⟩
            by_cases t : x < 4 * (k + 1)
            · exact none4 x x1 t
            · exact b x (by omega) x2
          · refine Or.inr ⟨r, r1, by omega, r3, r4, fun x x1 x2 => ?_⟩
            by_cases t : x < 4 * (k + 1)
            · exact none4 x x1 t
            · exact r5 x (by omega) x2
        · rw [if_neg (nI_nlt (by omega) (by omega))]; exact first (by omega)
      · rw [if_neg (nI_nlt (by omega) (by omega)), if_pos (inB_t (by omega) (by decide))]
        by_cases z1 : cd (4 * k + 1) - 48 < M
        · rw [if_pos (nI_lt z1 (by omega))]
          refine ih k _ (by omega) (by omega) (Or.inr ⟨4 * k + 2, rfl, by omega, by omega, B2.mpr (by omega), fun x x1 x2 => ?_⟩)
          rcases (show x = 4 * k ∨ x = 4 * k + 1 by omega) with e | e
          · rw [e]; exact nb0
          · rw [e, B1]; omega
        · rw [if_neg (nI_nlt (by omega) (by omega))]; exact first (by omega)
end STRAY
