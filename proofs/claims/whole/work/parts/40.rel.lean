/-! THE TWO SIDES, HELD TOGETHER -/
def Fr (σ σ' : ST) (I A : List Nat) : Prop := (∀ i, i ∉ I → gI σ' i = gI σ i) ∧ ∀ a, a ∉ A → gA σ' a = gA σ a
theorem Fr.rf {σ : ST} {I A : List Nat} : Fr σ σ I A := ⟨fun _ _ => rfl, fun _ _ => rfl⟩
theorem Fr.sI {σ σ' : ST} {I A : List Nat} {i : Nat} {v : Int32} (h : Fr σ σ' I A) (hi : i ∈ I) : Fr σ (sI σ' i v) I A := ⟨fun k hk => by rw [gI_sI, if_neg (fun e => hk (by rw [e]; exact hi))]; exact h.1 k hk, h.2⟩
theorem Fr.sA {σ σ' : ST} {I A : List Nat} {a k : Nat} {v : Int32} (h : Fr σ σ' I A) (ha : a ∈ A) : Fr σ (sA σ' a k v) I A := ⟨h.1, fun b hb => by rw [gA_sA, if_neg (fun e => hb (by rw [e]; exact ha))]; exact h.2 b hb⟩
theorem Fr.tr {σ τ υ : ST} {I A : List Nat} (h : Fr σ τ I A) (h2 : Fr τ υ I A) : Fr σ υ I A := ⟨fun i hi => (h2.1 i hi).trans (h.1 i hi), fun a ha => (h2.2 a ha).trans (h.2 a ha)⟩
theorem Fr.mono {σ τ : ST} {I A I' A' : List Nat} (h : Fr σ τ I A) (hI : ∀ i ∈ I, i ∈ I') (hA : ∀ a ∈ A, a ∈ A') : Fr σ τ I' A' := ⟨fun i hi => h.1 i (fun z => hi (hI i z)), fun a ha => h.2 a (fun z => ha (hA a z))⟩
theorem Sm.fr {σ τ : ST} (h : Sm σ τ) : Fr σ τ [3103, 3104, 3105, 3118] [33, 37, 38, 39] := ⟨fun i hi => h.1 i (by unfold scI; simp at hi; omega), fun a ha => h.2.1 a (by unfold scA; simp at ha; omega)⟩
theorem Fr.sm {σ τ : ST} (h : Fr σ τ [3103, 3104, 3105, 3118] [33, 37, 38, 39]) (hl : gL τ = gL σ) : Sm σ τ := ⟨fun i hi => h.1 i (by unfold scI at hi; simp; omega), fun a ha => h.2 a (by unfold scA at ha; simp; omega), hl⟩
/-- the page -/
def Rp (σ τ : ST) (pn : Nat) (cd : Nat → Nat) : Prop := pn ≤ 28 ∧ gI σ 101 = nI pn ∧ gI τ 3101 = nI pn ∧ ∀ k, k < pn → 1 ≤ cd k ∧ cd k ≤ 126 ∧ gA σ 2 k = nI (cd k) ∧ gA τ 32 k = nI (cd k)
/-- the mine -/
def Rm (σ τ : ST) (N : Nat) (kd : Nat → Nat) (go : Nat → Nat → Nat) : Prop := (N = 0 ∨ (2 ≤ N ∧ Rt σ N kd go)) ∧ Mc σ N kd go ∧ Mm τ N kd go ∧ gI τ 3107 = gI σ 301
/-- parties: of the camp, or kept -/
def RcG (i1 b0 b1 b2 b3 i2 m : Nat) (σ τ : ST) (N P : Nat) : Prop := P ≤ 3 ∧ gI σ i1 = nI P ∧ gI τ i2 = nI P ∧ ∀ p, p < P → (∃ c, c < N ∧ gA σ b0 p = nI c) ∧ gA τ m (4 * p) = gA σ b0 p ∧ gA τ m (4 * p + 1) = gA σ b1 p ∧ gA τ m (4 * p + 2) = gA σ b2 p ∧ gA τ m (4 * p + 3) = gA σ b3 p
def RhG (i1 b0 b1 i2 m : Nat) (σ τ : ST) (h : Nat) : Prop := h ≤ 8 ∧ gI σ i1 = nI h ∧ gI τ i2 = nI h ∧ ∀ i, i < h → gA τ m (2 * i) = gA σ b0 i ∧ gA τ m (2 * i + 1) = gA σ b1 i ∧ (0 < i → gA σ b0 i = 0 ∨ gA σ b0 i = 1)
def Rc (σ τ : ST) (N P : Nat) : Prop := RcG 1700 18 19 20 21 3111 36 σ τ N P
/-- the kept image -/
def Rk (σ τ : ST) (N j : Nat) : Prop := ∃ m, m ≤ j ∧ gI σ 6 = nI m ∧ gI τ 3108 = nI m ∧ ((gI σ 5 = 0 ∧ (gI τ 3119 = -1 ∨ ∃ k, k < m ∧ gI τ 3119 = nI k)) ∨ (gI σ 5 = 1 ∧ gI τ 3119 = nI m ∧ ∃ P h, RcG 2400 25 26 27 28 3120 41 σ τ N P ∧ RhG 2405 29 30 3121 42 σ τ h))
def Rall (σ : ST) (j pn : Nat) (cd : Nat → Nat) (N : Nat) (kd : Nat → Nat) (go : Nat → Nat → Nat) (P h : Nat) : Prop := Rp σ σ pn cd ∧ Rm σ σ N kd go ∧ Rc σ σ N P ∧ Rh σ σ h ∧ Rk σ σ N j
def Inv (σ : ST) (j : Nat) : Prop := ∃ pn cd N kd go P h, Rall σ j pn cd N kd go P h
section KEEP
variable {σ τ σ' τ' : ST} {I A : List Nat}
theorem Rp.fr {pn : Nat} {cd : Nat → Nat} (h : Rp σ τ pn cd) (f : Fr σ σ' I A) (g : Fr τ τ' I A) (d : 101 ∉ I ∧ 3101 ∉ I ∧ 2 ∉ A ∧ 32 ∉ A) : Rp σ' τ' pn cd := by
  unfold Rp
  rw [f.1 101 d.1, g.1 3101 d.2.1, f.2 2 d.2.2.1, g.2 32 d.2.2.2]; exact h
theorem Mc.fr {N : Nat} {kd : Nat → Nat} {go : Nat → Nat → Nat} (h : Mc σ N kd go) (f : Fr σ σ' I A) (d : 300 ∉ I ∧ 4 ∉ A ∧ 5 ∉ A ∧ 6 ∉ A) : Mc σ' N kd go := by
  unfold Mc
  rw [f.1 300 d.1, f.2 4 d.2.1, f.2 5 d.2.2.1, f.2 6 d.2.2.2]; exact h
theorem Mm.fr {N : Nat} {kd : Nat → Nat} {go : Nat → Nat → Nat} (h : Mm σ N kd go) (f : Fr σ σ' I A) (d : 3106 ∉ I ∧ 34 ∉ A ∧ 35 ∉ A) : Mm σ' N kd go := by
  unfold Mm
  rw [f.1 3106 d.1, f.2 34 d.2.1, f.2 35 d.2.2]; exact h
theorem Rt.fr {N : Nat} {kd : Nat → Nat} {go : Nat → Nat → Nat} (h : Rt σ N kd go) (f : Fr σ σ' I A) (d : 12 ∉ A ∧ 13 ∉ A ∧ 14 ∉ A ∧ 15 ∉ A ∧ 16 ∉ A) : Rt σ' N kd go := by
  obtain ⟨T, h1, h2, h3⟩ := h
  refine ⟨T, fun i a b hi ha hb => ?_, h2, ?_⟩
  · have e : gA σ' (12 + i) = gA σ (12 + i) := f.2 _ (by
      rcases (show i = 0 ∨ i = 1 ∨ i = 2 ∨ i = 3 by omega) with e | e | e | e
      · subst e; exact d.1
      · subst e; exact d.2.1
      · subst e; exact d.2.2.1
      · subst e; exact d.2.2.2.1)
    rw [e]; exact h1 i a b hi ha hb
  · unfold RT
    rw [f.2 16 d.2.2.2.2]; exact h3
theorem Rm.fr {N : Nat} {kd : Nat → Nat} {go : Nat → Nat → Nat} (h : Rm σ τ N kd go) (f : Fr σ σ' I A) (g : Fr τ τ' I A) (d : (300 ∉ I ∧ 4 ∉ A ∧ 5 ∉ A ∧ 6 ∉ A) ∧ (3106 ∉ I ∧ 34 ∉ A ∧ 35 ∉ A) ∧ (12 ∉ A ∧ 13 ∉ A ∧ 14 ∉ A ∧ 15 ∉ A ∧ 16 ∉ A) ∧ 3107 ∉ I ∧ 301 ∉ I) : Rm σ' τ' N kd go := by
  obtain ⟨h1, h2, h3, h4⟩ := h
  refine ⟨?_, h2.fr f d.1, h3.fr g d.2.1, ?_⟩
  · rcases h1 with e | ⟨e, r⟩
    · exact Or.inl e
    · exact Or.inr ⟨e, r.fr f d.2.2.1⟩
  · rw [g.1 3107 d.2.2.2.1, f.1 301 d.2.2.2.2]; exact h4
theorem RcG.fr {i1 b0 b1 b2 b3 i2 m N P : Nat} (h : RcG i1 b0 b1 b2 b3 i2 m σ τ N P) (f : Fr σ σ' I A) (g : Fr τ τ' I A) (d : i1 ∉ I ∧ b0 ∉ A ∧ b1 ∉ A ∧ b2 ∉ A ∧ b3 ∉ A ∧ i2 ∉ I ∧ m ∉ A) : RcG i1 b0 b1 b2 b3 i2 m σ' τ' N P := by
  unfold RcG
  rw [f.1 i1 d.1, g.1 i2 d.2.2.2.2.2.1, f.2 b0 d.2.1, f.2 b1 d.2.2.1, f.2 b2 d.2.2.2.1, f.2 b3 d.2.2.2.2.1, g.2 m d.2.2.2.2.2.2]; exact h
theorem Rc.fr {N P : Nat} (h : Rc σ τ N P) (f : Fr σ σ' I A) (g : Fr τ τ' I A) (d : 1700 ∉ I ∧ 18 ∉ A ∧ 19 ∉ A ∧ 20 ∉ A ∧ 21 ∉ A ∧ 3111 ∉ I ∧ 36 ∉ A) : Rc σ' τ' N P := RcG.fr h f g d
theorem RhG.fr {i1 b0 b1 i2 m k : Nat} (h : RhG i1 b0 b1 i2 m σ τ k) (f : Fr σ σ' I A) (g : Fr τ τ' I A) (d : i1 ∉ I ∧ b0 ∉ A ∧ b1 ∉ A ∧ i2 ∉ I ∧ m ∉ A) : RhG i1 b0 b1 i2 m σ' τ' k := by
  unfold RhG
  rw [f.1 i1 d.1, g.1 i2 d.2.2.2.1, f.2 b0 d.2.1, f.2 b1 d.2.2.1, g.2 m d.2.2.2.2]; exact h
theorem Rh.fr {k : Nat} (h : Rh σ τ k) (f : Fr σ σ' I A) (g : Fr τ τ' I A) (d : 1705 ∉ I ∧ 22 ∉ A ∧ 23 ∉ A ∧ 3116 ∉ I ∧ 40 ∉ A) : Rh σ' τ' k := RhG.fr (i1 := 1705) (b0 := 22) (b1 := 23) (i2 := 3116) (m := 40) h f g d
theorem Rk.fr {N j : Nat} (h : Rk σ τ N j) (f : Fr σ σ' I A) (g : Fr τ τ' I A) (d : (6 ∉ I ∧ 3108 ∉ I ∧ 5 ∉ I ∧ 3119 ∉ I) ∧ (2400 ∉ I ∧ 25 ∉ A ∧ 26 ∉ A ∧ 27 ∉ A ∧ 28 ∉ A ∧ 3120 ∉ I ∧ 41 ∉ A) ∧ (2405 ∉ I ∧ 29 ∉ A ∧ 30 ∉ A ∧ 3121 ∉ I ∧ 42 ∉ A)) : Rk σ' τ' N j := by
  obtain ⟨m, h1, h2, h3, h4⟩ := h
  refine ⟨m, h1, ?_, ?_, ?_⟩
  · rw [f.1 6 d.1.1]; exact h2
  · rw [g.1 3108 d.1.2.1]; exact h3
  · rw [f.1 5 d.1.2.2.1, g.1 3119 d.1.2.2.2]
    rcases h4 with h4 | ⟨a1, a2, P, k, a3, a4⟩
    · exact Or.inl h4
    · exact Or.inr ⟨a1, a2, P, k, a3.fr f g d.2.1, a4.fr f g d.2.2⟩
theorem Rk.mono {N j j' : Nat} (h : Rk σ τ N j) (hj : j ≤ j') : Rk σ τ N j' := by
  obtain ⟨m, h1, h2⟩ := h
  exact ⟨m, by omega, h2⟩
theorem Inv.mono {j j' : Nat} (h : Inv σ j) (hj : j ≤ j') : Inv σ j' := by
  obtain ⟨pn, cd, N, kd, go, P, k, h1, h2, h3, h4, h5⟩ := h
  exact ⟨pn, cd, N, kd, go, P, k, h1, h2, h3, h4, h5.mono hj⟩
theorem Rall.fr {j pn : Nat} {cd : Nat → Nat} {N : Nat} {kd : Nat → Nat} {go : Nat → Nat → Nat} {P k : Nat} (h : Rall σ j pn cd N kd go P k) (f : Fr σ σ' [3103, 3104, 3105, 3118] [33, 37, 38, 39]) : Rall σ' j pn cd N kd go P k := by
  obtain ⟨h1, h2, h3, h4, h5⟩ := h
  exact ⟨h1.fr f f (by decide), h2.fr f f (by decide), h3.fr f f (by decide), h4.fr f f (by decide), h5.fr f f (by decide)⟩
theorem Inv.fr {j : Nat} (h : Inv σ j) (f : Fr σ σ' [3103, 3104, 3105, 3118] [33, 37, 38, 39]) : Inv σ' j := by
  obtain ⟨pn, cd, N, kd, go, P, k, h1⟩ := h
  exact ⟨pn, cd, N, kd, go, P, k, h1.fr f⟩
theorem Inv.sm {j : Nat} (h : Inv σ j) (hs : Sm σ σ') : Inv σ' j := h.fr hs.fr
end KEEP
/-- numbers -/
theorem rng {p : Int32} {a b : Nat} (ha : a < 2 ^ 31) (h1 : ¬ p < nI a) (h2 : p ≤ nI b) (hb : b < 2 ^ 31) : ∃ c, a ≤ c ∧ c ≤ b ∧ p = nI c := by
  have h0 : ¬ p < 0 := by
    intro q
    apply h1
    rw [fa_lt] at q ⊢
    rw [nI_toInt ha]
    have e3 : (0 : Int32).toInt = 0 := by decide
    rw [e3] at q
    omega
  obtain ⟨c, hc, e⟩ := nI_of h0
  subst e
  refine ⟨c, ?_, ?_, rfl⟩
  · rcases Nat.lt_or_ge c a with q | q
    · exact absurd (nI_lt q ha) h1
    · exact q
  · rcases Nat.lt_or_ge b c with q | q
    · exact absurd h2 (nI_ge q hc)
    · exact q
theorem in_dec (m : Nat) (hm : m < 2 ^ 30) (p : Int32) : (∃ k, k ≤ m ∧ p = nI k ∧ f_M_in p.toInt64 (0 : Int64) (nI m).toInt64 = 1) ∨ ((∀ k, k ≤ m → p ≠ nI k) ∧ (p < 0 ∨ nI (m + 1) ≤ p) ∧ f_M_in p.toInt64 (0 : Int64) (nI m).toInt64 = 0) := by
  rw [L_0, in_eq]
  rcases three (N := m + 1) p (by omega) with h | ⟨c, hc, e⟩
  · refine Or.inr ⟨fun k hk e => ?_, h, ?_⟩
    · subst e
      rcases h with h | h
      · exact nI_pos (by omega) h
      · exact nI_ge (by omega) (by omega) h
    · by_cases q : p < 0
      · rw [if_pos q]
      · rw [if_neg q]
        have h := h.resolve_left q
        obtain ⟨c, hc, e⟩ := nI_of q
        subst e
        have : m + 1 ≤ c := by
          rcases Nat.lt_or_ge c (m + 1) with z | z
          · exact absurd h (nI_ge z (by omega))
          · exact z
        rw [if_pos (nI_lt (by omega) hc)]
  · subst e
    exact Or.inl ⟨c, by omega, rfl, by rw [if_neg (nI_pos (by omega)), if_neg (nI_nlt (by omega) (by omega))]⟩
section CASES
variable {σ τ : ST} {N P : Nat} {kd : Nat → Nat} {go : Nat → Nat → Nat}
theorem cross_cases (hC : Mc σ N kd go) (hM : Mm τ N kd go) (p : Int32) : (f_Mine_has p σ = 0 ∧ f_M_isCrossing p τ = 0) ∨ ∃ c, c < N ∧ p = nI c ∧ f_Mine_has p σ = 1 ∧ f_M_isCrossing p τ = 1 := by
  have hN := hC.1
  unfold f_Mine_has f_M_isCrossing
  rw [hC.2.1, hM.2.1, in_N p (by omega)]
  rcases three (N := N) p (by omega) with h | ⟨c, hc, e⟩
  · rw [ite_out h]; exact Or.inl ⟨rfl, rfl⟩
  · subst e
    rw [ite_in hc (by omega)]; exact Or.inr ⟨c, hc, rfl, rfl, rfl⟩
theorem party_cases (hc : Rc σ τ N P) (p : Int32) : (f_Camp_has_17 p σ = 0 ∧ f_M_isParty p τ = 0) ∨ ∃ c, c < P ∧ p = nI c ∧ f_Camp_has_17 p σ = 1 ∧ f_M_isParty p τ = 1 := by
  have hP := hc.1
  unfold f_Camp_has_17 f_M_isParty
  rw [hc.2.1, hc.2.2.1, in_N p (by omega)]
  rcases three (N := P) p (by omega) with h | ⟨c, hc, e⟩
  · rw [ite_out h]; exact Or.inl ⟨rfl, rfl⟩
  · subst e
    rw [ite_in hc (by omega)]; exact Or.inr ⟨c, hc, rfl, rfl, rfl⟩
end CASES
theorem n10 : ¬ (1 : Int32) = 0 := by decide
