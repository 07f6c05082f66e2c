/-! FAULT, AS ONE -/
section FO
variable {σ τ : ST} {pn : Nat} {cd : Nat → Nat}
/-- the page is whole: M crossings, no digit that leads nowhere -/
def Whole (σ τ : ST) (pn : Nat) (cd : Nat → Nat) (M : Nat) : Prop := 2 ≤ M ∧ M ≤ 6 ∧ pn = 4 * M + 1 ∧ gI τ 3105 = nI 5 ∧ gI τ 3103 = nI M ∧ f_Page_isClosed σ = 1 ∧ Dd τ cd (4 * M) ∧ gI τ 3104 = nI (cd (4 * M)) - 48 ∧ ∀ k, k < 4 * M → ¬ Bad cd M k
theorem fault_ok (h : Rp σ τ pn cd) : ∃ r τ', f_Page_faultPlace σ = some (nI r) ∧ f_M_faultOf τ = some (nI r, τ') ∧ Fq τ τ' ∧ (r < pn ∨ (r = pn ∧ ((∃ s, s < 5 ∧ gI τ' 3105 = nI s ∧ f_Page_isClosed σ = 0) ∨ ∃ M, Whole σ τ' pn cd M))) := by
  have h28 := h.1
  have f0 : Fq τ (sI (sI τ 3103 0) 3105 0) := Fr.sI (Fr.sI Fr.rf (by decide)) (by decide)
  have h0 : Rp σ (sI (sI τ 3103 0) 3105 0) pn cd := h.fr (Fr.rf (I := [3103, 3104, 3105, 3118]) (A := [33, 37, 38, 39])) f0 (by decide)
  have o := ph03 400 0 0 0 (sI (sI τ 3103 0) 3105 0) h0 (by omega) (by omega) (by omega) (by omega) (by omega) rfl rfl (fun q => ⟨fun z => absurd z (by omega), fun z => absurd z (by omega), fun z => absurd z (by omega)⟩) (fun k hk => absurd hk (by omega))
  unfold f_Page_faultPlace f_Page_firstMisfit f_M_faultOf
  rcases o with ⟨r, τ', r1, r2, r3, r4⟩ | ⟨τ', r2, r3, r4, fin⟩
  · have r2' : f_Page_firstMisfit_L4 400 0 0 σ = some (.inr (nI r)) := r2
    have r3' : f_M_faultOf_L12 400 0 (sI (sI τ 3103 0) 3105 0) = some (nI r, τ') := r3
    have ft : Fq τ τ' := Fr.tr f0 r4
    have e : gI τ' 3101 = nI pn := by rw [ft.1 3101 (by decide)]; exact h.2.2.1
    refine ⟨r, τ', ?_, ?_, ft, Or.inl r1⟩
    · rw [r2', Option.bind_some]
      show ((some (nI r)).bind _) = _
      rw [Option.bind_some, h.2.1, if_pos (nI_lt r1 (by omega))]
    · rw [r3', Option.bind_some, e, if_neg (fun z => absurd (nI_inj (by omega) (by omega) z) (by omega))]
  · have r2' : f_Page_firstMisfit_L4 400 0 0 σ = some (.inl ()) := r2
    have r3' : f_M_faultOf_L12 400 0 (sI (sI τ 3103 0) 3105 0) = some (nI pn, τ') := r3
    have ft : Fq τ τ' := Fr.tr f0 r4
    have e : gI τ' 3101 = nI pn := by rw [ft.1 3101 (by decide)]; exact h.2.2.1
    rw [r2', Option.bind_some, r3']
    simp only [Option.bind_some]
    rw [e, if_pos rfl, h.2.1, if_neg (nI_nlt (Nat.le_refl _) (by omega))]
    rcases fin with ⟨s, s1, s2, s3⟩ | ⟨M, m1, m2, m3, m4, m5, m6, m7, m8, m9, m10⟩
    · have ns : ¬ nI s = (5 : Int32) := fun z => absurd (nI_inj (a := s) (b := 5) (by omega) (by decide) z) (by omega)
      rw [s3, if_pos rfl, s2, if_neg ns]
      exact ⟨pn, τ', rfl, rfl, ft, Or.inr ⟨rfl, Or.inl ⟨s, s1, s2, rfl⟩⟩⟩
    · rw [m6, if_neg n10, m4, if_pos (show nI 5 = 5 from rfl)]
      have ep : nI pn / 4 = nI M := by rw [l_4, d_nI (by omega) (by decide) (by decide), m3, show (4 * M + 1) / 4 = M by omega]
      unfold f_Page_firstLeadingNowhere f_M_strayDigit
      rw [h.2.1, ep, m5]
      obtain ⟨w, w1, w2⟩ := stray_loop m7 m2 m5 400 M (-1) (by omega) (Nat.le_refl _) (Or.inl ⟨rfl, fun x x1 x2 => absurd x2 (by omega)⟩)
      rw [w1, Option.bind_some]
      show ∃ r τ'', _ ∧ ((some w).bind _) = _ ∧ _
      rw [Option.bind_some]
      rcases nowhere_loop (h.fr (Fr.rf (I := [3103, 3104, 3105, 3118]) (A := [33, 37, 38, 39])) ft (by decide)) m7 m2 m3 400 0 (by omega) (by omega) (fun k hk => absurd hk (by omega)) with ⟨r, r1, r5, r6, r7⟩ | ⟨r6, r7⟩
      · have r7' : f_Page_firstLeadingNowhere_L9 400 (nI M) 0 σ = some (.inr (nI r)) := r7
        rw [r7', Option.bind_some]
        rcases w2 with ⟨-, w3⟩ | ⟨r', w3, w4, w5, w6⟩
        · exact absurd r5 (w3 r r1)
        · have er : r = r' := by
            rcases Nat.lt_trichotomy r r' with t | t | t
            · exact absurd r5 (w6 r t)
            · exact t
            · exact absurd w5 (r6 r' t)
          rw [w3, if_neg (fun z => nI_pos (n := r') (by omega) (by rw [z]; decide)), ← er]
          exact ⟨r, τ', rfl, rfl, ft, Or.inl (by omega)⟩
      · have r7' : f_Page_firstLeadingNowhere_L9 400 (nI M) 0 σ = some (.inl ()) := r7
        rw [r7', Option.bind_some]
        rcases w2 with ⟨w3, -⟩ | ⟨r', w3, w4, w5, w6⟩
        · rw [w3, if_pos rfl]
          exact ⟨pn, τ', rfl, rfl, ft, Or.inr ⟨rfl, Or.inr ⟨M, m1, m2, m3, m4, m5, m6, m7, m10, r6⟩⟩⟩
        · exact absurd w5 (r6 r' w4)
theorem eq_fault (h : Rp σ τ pn cd) : ∃ v τ', f_LT_fault σ = some v ∧ f_M_fault τ = some (v, τ') ∧ Fq τ τ' := by
  obtain ⟨r, τ', h1, h2, h3, -⟩ := fault_ok h
  refine ⟨nI r, τ', ?_, ?_, h3⟩
  · unfold f_LT_fault; rw [h1]; rfl
  · unfold f_M_fault; rw [h2]; rfl
end FO
/-! MINE -/
def kdP (cd : Nat → Nat) (c : Nat) : Nat := (f_M_kindBy (nI (cd (4 * c)))).toNatClampNeg
def goP (cd : Nat → Nat) (c w : Nat) : Nat := if kdP cd c = 2 then (if w = 0 then cd (4 * c + 2) - 48 else cd (4 * c + 1) - 48) else (if w = 0 then cd (4 * c + 1) - 48 else cd (4 * c + 2) - 48)
section READ
variable {σ τ : ST} {pn M : Nat} {cd : Nat → Nat}
def Rd4 (cd : Nat → Nat) (σ : ST) (k : Nat) : Prop := ∀ c, c < k → gA σ 4 c = nI (kdP cd c) ∧ gA σ 5 c = nI (goP cd c 0) ∧ gA σ 6 c = nI (goP cd c 1)
theorem read_loop (hp : pn = 4 * M + 1) (h6 : M ≤ 6) {υ : ST} (d : Dd υ cd (4 * M)) : ∀ (n k : Nat) (σ : ST), Rp σ σ pn cd → M - k < n → k ≤ M → gI σ 300 = nI M → Rd4 cd σ k → ∃ σ', f_Mine_readFrom_1_L26 n (nI k) σ = some σ' ∧ Fr σ σ' [] [4, 5, 6] ∧ Rd4 cd σ' M := by
  intro n
  induction n with
  | zero => intro k σ h hn; omega
  | succ n ih =>
    intro k σ h hn hk h3 r
    rw [f_Mine_readFrom_1_L26, h3]
    by_cases q : k < M
    · obtain ⟨a0, a1, a2⟩ := d k
      obtain ⟨x0, y0⟩ := a0 (by omega)
      obtain ⟨x1, y1, z1⟩ := a1 (by omega)
      obtain ⟨x2, y2, z2⟩ := a2 (by omega)
      have hc := (h.2.2.2 (4 * k) (by omega)).2.1
      have ek : f_M_kindBy (nI (cd (4 * k))) = nI (kdP cd k) ∧ kdP cd k ≤ 4 := by
        rcases kb_cases (cd (4 * k)) (by omega) with w | ⟨w1, w2, -, -⟩
        · exact absurd w y0
        · exact ⟨w1, w2⟩
      rw [if_neg (nI_ge q (by omega)), i41, i42, i40, h.code (by omega), kind_eq σ (by omega), Option.bind_some, ek.1, put_in (show k < 6 by omega) (by decide)]
      generalize hs1 : sA σ 4 k (nI (kdP cd k)) = s1
      have f1 : Fr σ s1 [] [4, 5, 6] := by rw [← hs1]; exact Fr.sA Fr.rf (by decide)
      have h1 := h.fr f1 f1 (by decide)
      have k1 : f_Mine_kindOf (nI k) s1 = nI (kdP cd k) := by
        unfold f_Mine_kindOf
        rw [cell_in (by omega) (by decide), ← hs1, gA_sA', if_pos ⟨rfl, rfl⟩]
      rw [k1, h1.dig (show 4 * k + 1 < pn by omega), dig48 y1, put_in (show k < 6 by omega) (by decide), put_in (show k < 6 by omega) (by decide), nI_1]
      have fin : ∀ s3 : ST, Fr σ s3 [] [4, 5, 6] → (∀ c, c ≠ k → gA s3 4 c = gA σ 4 c ∧ gA s3 5 c = gA σ 5 c ∧ gA s3 6 c = gA σ 6 c) → gA s3 4 k = nI (kdP cd k) → gA s3 5 k = nI (goP cd k 0) → gA s3 6 k = nI (goP cd k 1) → ∃ σ', f_Mine_readFrom_1_L26 n (nI (k + 1)) s3 = some σ' ∧ Fr σ σ' [] [4, 5, 6] ∧ Rd4 cd σ' M := by
        intro s3 f3 o1 o4 o5 o6
        obtain ⟨σ', b1, b2, b3⟩ := ih (k + 1) s3 (h.fr f3 f3 (by decide)) (by omega) (by omega) (by rw [f3.1 300 (by decide)]; exact h3) (fun c hc => by
          by_cases z : c = k
          · rw [z]; exact ⟨o4, o5, o6⟩
          · obtain ⟨p4, p5, p6⟩ := o1 c z
            rw [p4, p5, p6]; exact r c (by omega))
        exact ⟨σ', b1, f3.tr b2, b3⟩
      by_cases z : kdP cd k = 2
      · rw [if_pos (show nI (kdP cd k) = 2 by rw [z]; rfl)]
        have f2 : Fr σ (sA s1 6 k (nI (cd (4 * k + 1) - 48))) [] [4, 5, 6] := Fr.sA f1 (by decide)
        rw [(h.fr f2 f2 (by decide)).dig (show 4 * k + 2 < pn by omega), dig48 y2]
        refine fin _ (Fr.sA f2 (by decide)) (fun c hc => ?_) ?_ ?_ ?_
        · rw [← hs1]; simp only [gA_sA']; simp [hc]
        · rw [← hs1]; simp only [gA_sA']; simp
        · rw [gA_sA', if_pos ⟨rfl, rfl⟩]; unfold goP; rw [if_pos z, if_pos rfl]
        · rw [gA_sA', if_neg (by omega), gA_sA', if_pos ⟨rfl, rfl⟩]; unfold goP; rw [if_pos z, if_neg (by decide)]
      · have nz : ¬ nI (kdP cd k) = (2 : Int32) := fun w => z (nI_inj (b := 2) (by omega) (by decide) w)
        rw [if_neg nz, put_in (a := 5) (show k < 6 by omega) (by decide)]
        have f2 : Fr σ (sA s1 5 k (nI (cd (4 * k + 1) - 48))) [] [4, 5, 6] := Fr.sA f1 (by decide)
        rw [(h.fr f2 f2 (by decide)).dig (show 4 * k + 2 < pn by omega), dig48 y2, put_in (show k < 6 by omega) (by decide)]
        refine fin _ (Fr.sA f2 (by decide)) (fun c hc => ?_) ?_ ?_ ?_
        · rw [← hs1]; simp only [gA_sA']; simp [hc]
        · rw [← hs1]; simp only [gA_sA']; simp
        · rw [gA_sA', if_neg (by omega), gA_sA', if_pos ⟨rfl, rfl⟩]; unfold goP; rw [if_neg z, if_pos rfl]
        · rw [gA_sA', if_pos ⟨rfl, rfl⟩]; unfold goP; rw [if_neg z, if_neg (by decide)]
    · have : k = M := by omega
      subst this
      rw [if_pos (nI_le (Nat.le_refl _) (by omega))]
      exact ⟨σ, rfl, Fr.rf, r⟩
end READ
