/-! MINE -/
section MREAD
variable {σ τ : ST} {pn M : Nat} {cd : Nat → Nat}
def Rd34 (cd : Nat → Nat) (σ : ST) (k : Nat) : Prop := ∀ c, c < k → gA σ 34 c = nI (kdP cd c) ∧ gA σ 35 (2 * c) = nI (goP cd c 0) ∧ gA σ 35 (2 * c + 1) = nI (goP cd c 1)
theorem mread_loop (h6 : M ≤ 6) (hcd : ∀ c, c < M → cd (4 * c) < 127) : ∀ (n k : Nat) (τ : ST), Dd τ cd (4 * M) → M - k < n → k ≤ M → gI τ 3106 = nI M → Rd34 cd τ k → ∃ τ', f_M_mine_L32 n (nI k) τ = some τ' ∧ Fr τ τ' [] [34, 35] ∧ Rd34 cd τ' M := by
  intro n
  induction n with
  | zero => intro k τ d hn; omega
  | succ n ih =>
    intro k τ d hn hk h3 r
    rw [f_M_mine_L32, h3]
    by_cases q : k < M
    · obtain ⟨a0, a1, a2⟩ := d k
      obtain ⟨x0, y0⟩ := a0 (by omega)
      obtain ⟨x1, y1, z1⟩ := a1 (by omega)
      obtain ⟨x2, y2, z2⟩ := a2 (by omega)
      have ek : f_M_kindBy (nI (cd (4 * k))) = nI (kdP cd k) ∧ kdP cd k ≤ 4 := by
        rcases kb_cases (cd (4 * k)) (hcd k q) with w | ⟨w1, w2, -, -⟩
        · exact absurd w y0
        · exact ⟨w1, w2⟩
      rw [dig48 y1] at x1
      rw [dig48 y2] at x2
      rw [ek.1] at x0
      have i30 : (3 : Int32) * nI k = nI (3 * k) := by rw [l_3, mul_nI]
      have i31 : (3 : Int32) * nI k + 1 = nI (3 * k + 1) := by rw [l_3, mul_nI, l_1, add_nI]
      have i32 : (3 : Int32) * nI k + 2 = nI (3 * k + 2) := by rw [l_3, mul_nI, l_2, add_nI]
      have j0 : (2 : Int32) * nI k + 0 = nI (2 * k) := by rw [l_2, mul_nI, l_0, add_nI]; rfl
      have j1 : (2 : Int32) * nI k + 1 = nI (2 * k + 1) := by rw [l_2, mul_nI, l_1, add_nI]
      have j10 : nI (2 * k + 1) - 0 = nI (2 * k + 1) := by rw [l_0, sub_nI (by omega)]; rfl
      have j11 : nI (2 * k + 1) - 1 = nI (2 * k) := nI_pred _
      have b30 : inB (nI (3 * k)) 18 = true := inB_t (by omega) (by decide)
      have b31 : inB (nI (3 * k + 1)) 18 = true := inB_t (by omega) (by decide)
      have b32 : inB (nI (3 * k + 2)) 18 = true := inB_t (by omega) (by decide)
      have b1 : inB (nI k) 6 = true := inB_t (by omega) (by decide)
      have b20 : inB (nI (2 * k)) 12 = true := inB_t (by omega) (by decide)
      have b21 : inB (nI (2 * k + 1)) 12 = true := inB_t (by omega) (by decide)
      have c30 : (nI (3 * k)).toNatClampNeg = 3 * k := nI_clamp (by omega)
      have c31 : (nI (3 * k + 1)).toNatClampNeg = 3 * k + 1 := nI_clamp (by omega)
      have c32 : (nI (3 * k + 2)).toNatClampNeg = 3 * k + 2 := nI_clamp (by omega)
      have c1 : (nI k).toNatClampNeg = k := nI_clamp (by omega)
      have c20 : (nI (2 * k)).toNatClampNeg = 2 * k := nI_clamp (by omega)
      have c21 : (nI (2 * k + 1)).toNatClampNeg = 2 * k + 1 := nI_clamp (by omega)
      rw [if_neg (nI_ge q (by omega)), i31, i32, i30, j0, j1, j10, j11, if_pos b30, c30, c31, c32, c1, c20, c21, x0, nI_1]
      have g1 : ∀ a : Nat, gA (sA τ 34 k (nI (kdP cd k))) 33 a = gA τ 33 a := fun a => by rw [gA_sA', if_neg (by omega)]
      rw [g1, x1]
      have g2 : ∀ (b : Nat) (v : Int32) (a : Nat), gA (sA (sA τ 34 k (nI (kdP cd k))) 35 b v) 33 a = gA τ 33 a := fun b v a => by rw [gA_sA', if_neg (by omega), gA_sA', if_neg (by omega)]
      rw [g2, g2, x2]
      have fin : ∀ s3 : ST, Fr τ s3 [] [34, 35] → (∀ c, c ≠ k → gA s3 34 c = gA τ 34 c ∧ gA s3 35 (2 * c) = gA τ 35 (2 * c) ∧ gA s3 35 (2 * c + 1) = gA τ 35 (2 * c + 1)) → gA s3 34 k = nI (kdP cd k) → gA s3 35 (2 * k) = nI (goP cd k 0) → gA s3 35 (2 * k + 1) = nI (goP cd k 1) → ∃ τ', f_M_mine_L32 n (nI (k + 1)) s3 = some τ' ∧ Fr τ τ' [] [34, 35] ∧ Rd34 cd τ' M := by
        intro s3 f3 o1 o4 o5 o6
        obtain ⟨σ', b1, b2, b3⟩ := ih (k + 1) s3 (by
          intro q'
          rw [f3.2 33 (by decide)]; exact d q') (by omega) (by omega) (by rw [f3.1 3106 (by decide)]; exact h3) (fun c hc => by
          by_cases z : c = k
          · rw [z]; exact ⟨o4, o5, o6⟩
          · obtain ⟨p4, p5, p6⟩ := o1 c z
            rw [p4, p5, p6]; exact r c (by omega))
        exact ⟨σ', b1, f3.tr b2, b3⟩
      by_cases z : kdP cd k = 2
      · rw [if_pos (show nI (kdP cd k) = 2 by rw [z]; rfl), if_pos b30, if_pos b1, if_pos b31, if_pos b21, if_pos b32, if_pos b20]
        refine fin _ (Fr.sA (Fr.sA (Fr.sA Fr.rf (by decide)) (by decide)) (by decide)) (fun c hc => ⟨?_, ?_, ?_⟩) ?_ ?_ ?_
        · rw [gA_sA', if_neg (by omega), gA_sA', if_neg (by omega), gA_sA', if_neg (by omega)]
        · rw [gA_sA', if_neg (by omega), gA_sA', if_neg (by omega), gA_sA', if_neg (by omega)]
        · rw [gA_sA', if_neg (by omega), gA_sA', if_neg (by omega), gA_sA', if_neg (by omega)]
        · rw [gA_sA', if_neg (by omega), gA_sA', if_neg (by omega), gA_sA', if_pos ⟨rfl, rfl⟩]
        · rw [gA_sA', if_pos ⟨rfl, rfl⟩]; unfold goP; rw [if_pos z, if_pos rfl]
        · rw [gA_sA', if_neg (by omega), gA_sA', if_pos ⟨rfl, rfl⟩]; unfold goP; rw [if_pos z, if_neg (by decide)]
      · have nz : ¬ nI (kdP cd k) = (2 : Int32) := fun w => z (nI_inj (b := 2) (by omega) (by decide) w)
        rw [if_neg nz, if_pos b30, if_pos b1, if_pos b31, if_pos b20, if_pos b32, if_pos b21]
        refine fin _ (Fr.sA (Fr.sA (Fr.sA Fr.rf (by decide)) (by decide)) (by decide)) (fun c hc => ⟨?_, ?_, ?_⟩) ?_ ?_ ?_
        · rw [gA_sA', if_neg (by omega), gA_sA', if_neg (by omega), gA_sA', if_neg (by omega)]
        · rw [gA_sA', if_neg (by omega), gA_sA', if_neg (by omega), gA_sA', if_neg (by omega)]
        · rw [gA_sA', if_neg (by omega), gA_sA', if_neg (by omega), gA_sA', if_neg (by omega)]
        · rw [gA_sA', if_neg (by omega), gA_sA', if_neg (by omega), gA_sA', if_pos ⟨rfl, rfl⟩]
        · rw [gA_sA', if_neg (by omega), gA_sA', if_pos ⟨rfl, rfl⟩]; unfold goP; rw [if_neg z, if_pos rfl]
        · rw [gA_sA', if_pos ⟨rfl, rfl⟩]; unfold goP; rw [if_neg z, if_neg (by decide)]
    · have : k = M := by omega
      subst this
      rw [if_pos (nI_le (Nat.le_refl _) (by omega))]
      exact ⟨τ, rfl, Fr.rf, r⟩
theorem goP_lt (d : Dd τ cd (4 * M)) (nb : ∀ k, k < 4 * M → ¬ Bad cd M k) {c : Nat} (hc : c < M) : kdP cd c ≤ 4 ∧ goP cd c 0 < M ∧ goP cd c 1 < M ∧ True := by
  have h1 : cd (4 * c + 1) - 48 < M := by
    rcases Nat.lt_or_ge (cd (4 * c + 1) - 48) M with z | z
    · exact z
    · exact absurd ⟨by omega, z⟩ (nb (4 * c + 1) (by omega))
  have h2 : cd (4 * c + 2) - 48 < M := by
    rcases Nat.lt_or_ge (cd (4 * c + 2) - 48) M with z | z
    · exact z
    · exact absurd ⟨by omega, z⟩ (nb (4 * c + 2) (by omega))
  refine ⟨?_, ?_, ?_, trivial⟩
  · unfold kdP f_M_kindBy
    by_cases q1 : nI (cd (4 * c)) = 46
    · rw [if_pos q1]; decide
    rw [if_neg q1]
    by_cases q2 : nI (cd (4 * c)) = 100
    · rw [if_pos q2]; decide
    rw [if_neg q2]
    by_cases q3 : nI (cd (4 * c)) = 115
    · rw [if_pos q3]; decide
    rw [if_neg q3]
    by_cases q4 : nI (cd (4 * c)) = 98
    · rw [if_pos q4]; decide
    rw [if_neg q4]
    by_cases q5 : nI (cd (4 * c)) = 119
    · rw [if_pos q5]; decide
    rw [if_neg q5]; decide
  · unfold goP
    by_cases z : kdP cd c = 2
    · rw [if_pos z, if_pos rfl]; exact h2
    · rw [if_neg z, if_pos rfl]; exact h1
  · unfold goP
    by_cases z : kdP cd c = 2
    · rw [if_pos z, if_neg (by decide)]; exact h1
    · rw [if_neg z, if_neg (by decide)]; exact h2
end MREAD
section MINE
variable {σ : ST} {j : Nat}
theorem op_mine (h : Inv σ j) : ∃ v σ1, f_LT_mine σ = some (v, σ1) ∧ Op v (f_M_mine σ1) (j + 1) := by
  have h0 := h
  obtain ⟨pn, cd, N, kd, go, P, k, g1, g2, g3, g4, g5⟩ := h
  obtain ⟨r, τ', a1, a2, a3, a4⟩ := fault_ok g1
  have h28 := g1.1
  have et : gI τ' 3101 = nI pn := by rw [a3.1 3101 (by decide)]; exact g1.2.2.1
  have no : f_Page_isMine σ = some 0 → f_M_mine σ = some (-103, τ') → ∃ v σ1, f_LT_mine σ = some (v, σ1) ∧ Op v (f_M_mine σ1) (j + 1) := by
    intro e1 e2
    refine ⟨-103, σ, ?_, τ', e2, (h0.fr a3).mono (by omega)⟩
    unfold f_LT_mine
    rw [e1, Option.bind_some, if_pos rfl]
  rcases a4 with a4 | ⟨er, ⟨s, s1, s2, s3⟩ | ⟨M, W⟩⟩
  · refine no ?_ ?_
    · unfold f_Page_isMine
      rw [a1, Option.bind_some, g1.2.1, if_neg (fun z => absurd (nI_inj (by omega) (by omega) z) (by omega))]
      by_cases z : f_Page_isClosed σ = 0
      · rw [if_pos z]
      · rw [if_neg z]
    · unfold f_M_mine
      rw [a2, Option.bind_some, et, if_pos (nI_lt a4 (by omega))]
  · refine no ?_ ?_
    · unfold f_Page_isMine
      rw [s3, if_pos rfl]
    · have ns : ¬ nI s = (5 : Int32) := fun z => absurd (nI_inj (a := s) (b := 5) (by omega) (by decide) z) (by omega)
      unfold f_M_mine
      rw [a2, Option.bind_some, et, er, if_neg (nI_nlt (Nat.le_refl _) (by omega)), s2, if_neg ns]
  obtain ⟨m2, m6, mp, -, -, mc, md, -, nb⟩ := W
  have hcd : ∀ c, c < M → cd (4 * c) < 127 := fun c hc => by have := (g1.2.2.2 (4 * c) (by omega)).2.1; omega
  -- the class reads the mine
  have ep : nI pn / 4 = nI M := by rw [l_4, d_nI (by omega) (by decide) (by decide), mp, show (4 * M + 1) / 4 = M by omega]
  have eo : nI pn - 1 = nI (4 * M) := by rw [mp]; exact nI_pred _
  have f1 : Fr σ (sI (sI σ 300 (nI M)) 301 (nI (cd (4 * M)) - 48)) [300, 301] [4, 5, 6] := Fr.sI (Fr.sI Fr.rf (by decide)) (by decide)
  have f0 : Fr σ (sI σ 300 (nI M)) [300, 301] [4, 5, 6] := Fr.sI Fr.rf (by decide)
  obtain ⟨σa, b1, b2, b3⟩ := read_loop mp m6 md 400 0 (sI (sI σ 300 (nI M)) 301 (nI (cd (4 * M)) - 48)) (g1.fr f1 f1 (by decide)) (by omega) (by omega) rfl (fun c hc => absurd hc (by omega))
  have b1' : f_Mine_readFrom_1_L26 400 0 (sI (sI σ 300 (nI M)) 301 (nI (cd (4 * M)) - 48)) = some σa := b1
  have eread : f_Mine_readFrom_1 σ = some σa := by
    unfold f_Mine_readFrom_1
    have e1 : gI (sI σ 300 (nI M)) 101 = nI pn := g1.2.1
    rw [g1.2.1, ep, e1, eo, (g1.fr f0 f0 (by decide)).dig (by omega), b1']; rfl
  have fa : Fr σ σa [300, 301] [4, 5, 6] := f1.tr (b2.mono (by decide) (by decide))
  have a300 : gI σa 300 = nI M := by rw [b2.1 300 (by decide)]; rfl
  have a301 : gI σa 301 = nI (cd (4 * M)) - 48 := by rw [b2.1 301 (by decide)]; rfl
  have hMc : Mc σa M (kdP cd) (goP cd) := ⟨m6, a300, fun c hc => ⟨(goP_lt md nb hc).1, (b3 c hc).1⟩, fun c hc => ⟨(goP_lt md nb hc).2.1, (goP_lt md nb hc).2.2.1, (b3 c hc).2.1, (b3 c hc).2.2⟩⟩
  obtain ⟨σb, T, w1, w2, w3, w4, w5, w6⟩ := workOut_ok hMc
  have fb : Fr σ σb [300, 301] [4, 5, 6, 12, 13, 14, 15, 16] := Fr.tr (fa.mono (by decide) (by decide)) ⟨fun i _ => w6.1 i, fun a ha => w6.2.2 a (by unfold isW; simp at ha; omega)⟩
  obtain ⟨m, q1, q2, q3, q4⟩ := g5
  have e6 : gI σb 6 = nI m := by rw [fb.1 6 (by decide)]; exact q2
  have eLT : f_LT_mine σ = some (nI M, sI (sI (sI (sI (sI σb 1700 0) 1705 0) 5 0) 6 (nI (m + 1))) 101 0) := by
    unfold f_LT_mine f_Page_isMine
    rw [mc, if_neg n10, a1, Option.bind_some, g1.2.1, er, if_pos rfl, Option.bind_some, if_neg n10, eread, Option.bind_some, w1, Option.bind_some]
    show some (gI σb 300, sI (sI (sI (sI (sI σb 1700 0) 1705 0) 5 0) 6 (gI σb 6 + 1)) 101 0) = _
    rw [e6, nI_1, w2.2.1]
  refine ⟨_, _, eLT, ?_⟩
  generalize hc : sI (sI (sI (sI (sI σb 1700 0) 1705 0) 5 0) 6 (nI (m + 1))) 101 0 = σc
  have fbc : Fr σb σc [1700, 1705, 5, 6, 101] [] := by
    rw [← hc]; exact Fr.sI (Fr.sI (Fr.sI (Fr.sI (Fr.sI Fr.rf (by decide)) (by decide)) (by decide)) (by decide)) (by decide)
  have fc : Fr σ σc [300, 301, 1700, 1705, 5, 6, 101] [4, 5, 6, 12, 13, 14, 15, 16] := (fb.mono (by decide) (by decide)).tr (fbc.mono (by decide) (by decide))
  have hp : Rp σ σc pn cd := ⟨g1.1, g1.2.1, by rw [fc.1 3101 (by decide)]; exact g1.2.2.1, fun k hk => by rw [fc.2 32 (by decide)]; exact g1.2.2.2 k hk⟩
  obtain ⟨r', υ, c1, c2, c3, c4⟩ := fault_ok hp
  have hr : r' = pn := by
    rw [a1] at c1
    have e := Option.some.inj c1
    rcases c4 with c4 | ⟨c4, -⟩
    · have := nI_inj (by omega) (by omega) e
      omega
    · exact c4
  rcases c4 with c4 | ⟨-, ⟨s, s1, s2, s3⟩ | ⟨M', W'⟩⟩
  · omega
  · rw [mc] at s3; exact absurd s3 (by decide)
  obtain ⟨-, -, mp', u5, u3, -, ud, u4, -⟩ := W'
  have hM' : M' = M := by omega
  subst hM'
  have eu : gI υ 3101 = nI pn := by rw [c3.1 3101 (by decide)]; exact hp.2.2.1
  have fd : Fr υ (sI υ 3106 (nI M')) [3106] [] := Fr.sI Fr.rf (by decide)
  obtain ⟨φ, d1, d2, d3⟩ := mread_loop m6 hcd 400 0 (sI υ 3106 (nI M')) (fun q => ud q) (by omega) (by omega) rfl (fun c hc => absurd hc (by omega))
  have d1' : f_M_mine_L32 400 0 (sI υ 3106 (nI M')) = some φ := d1
  have fφ : Fr σc φ [3103, 3104, 3105, 3118, 3106] [33, 37, 38, 39, 34, 35] := (Fr.tr (Fr.mono c3 (by decide) (by decide)) (fd.mono (by decide) (by decide))).tr (d2.mono (by decide) (by decide))
  have e08 : gI φ 3108 = nI m := by rw [fφ.1 3108 (by decide), fc.1 3108 (by decide)]; exact q3
  have e04 : gI φ 3104 = nI (cd (4 * M')) - 48 := by rw [d2.1 3104 (by decide)]; exact u4
  have e06 : gI φ 3106 = nI M' := by rw [d2.1 3106 (by decide)]; rfl
  unfold f_M_mine
  rw [c2, Option.bind_some, eu, hr, if_neg (nI_nlt (Nat.le_refl _) (by omega)), u5, if_pos (show nI 5 = 5 from rfl), u3, d1', Option.bind_some]
  show Op (nI M') (some (gI φ 3106, sI (sI (sI (sI (sI φ 3107 (gI φ 3104)) 3111 0) 3116 0) 3108 (gI φ 3108 + 1)) 3101 0)) (j + 1)
  rw [e06, e08, nI_1, e04]
  refine ⟨_, rfl, ?_⟩
  generalize hψ : sI (sI (sI (sI (sI φ 3107 (nI (cd (4 * M')) - 48)) 3111 0) 3116 0) 3108 (nI (m + 1))) 3101 0 = ψ
  have fψ : Fr φ ψ [3107, 3111, 3116, 3108, 3101] [] := by
    rw [← hψ]; exact Fr.sI (Fr.sI (Fr.sI (Fr.sI (Fr.sI Fr.rf (by decide)) (by decide)) (by decide)) (by decide)) (by decide)
  have fcψ : Fr σc ψ [3103, 3104, 3105, 3118, 3106, 3107, 3111, 3116, 3108, 3101] [33, 37, 38, 39, 34, 35] := (fφ.mono (by decide) (by decide)).tr (fψ.mono (by decide) (by decide))
  have fbψ : Fr σb ψ [1700, 1705, 5, 6, 101, 3103, 3104, 3105, 3118, 3106, 3107, 3111, 3116, 3108, 3101] [33, 37, 38, 39, 34, 35] := (fbc.mono (by decide) (by decide)).tr (fcψ.mono (by decide) (by decide))
  refine ⟨0, cd, M', kdP cd, goP cd, 0, 0, ⟨by decide, ?_, by rw [← hψ]; rfl, fun k hk => absurd hk (by omega)⟩, ⟨Or.inr ⟨m2, Rt.fr ⟨T, w3, w4, w5⟩ fbψ (by decide)⟩, w2.fr fbψ (by decide), ?_, ?_⟩, ⟨by decide, ?_, by rw [← hψ]; rfl, fun k hk => absurd hk (by omega)⟩, ⟨by decide, ?_, by rw [← hψ]; rfl, fun k hk => absurd hk (by omega)⟩, ⟨m + 1, by omega, ?_, by rw [← hψ]; rfl, Or.inl ⟨?_, ?_⟩⟩⟩
  · rw [fcψ.1 101 (by decide), ← hc]; rfl
  · refine ⟨m6, by rw [fψ.1 3106 (by decide)]; exact e06, fun c hc => ⟨(goP_lt md nb hc).1, ?_⟩, fun c hc => ⟨(goP_lt md nb hc).2.1, (goP_lt md nb hc).2.2.1, ?_, ?_⟩⟩
    · rw [fψ.2 34 (by decide)]; exact (d3 c hc).1
    · rw [fψ.2 35 (by decide)]; exact (d3 c hc).2.1
    · rw [fψ.2 35 (by decide)]; exact (d3 c hc).2.2
  · have l : gI ψ 3107 = nI (cd (4 * M')) - 48 := by rw [← hψ]; rfl
    rw [l, fbψ.1 301 (by decide), w6.1 301, a301]
  · rw [fcψ.1 1700 (by decide), ← hc]; rfl
  · rw [fcψ.1 1705 (by decide), ← hc]; rfl
  · rw [fcψ.1 6 (by decide), ← hc]; rfl
  · rw [fcψ.1 5 (by decide), ← hc]; rfl
  · rw [fcψ.1 3119 (by decide), fc.1 3119 (by decide)]
    rcases q4 with ⟨-, q4 | ⟨k, hk, q4⟩⟩ | ⟨-, q4, -⟩
    · exact Or.inl q4
    · exact Or.inr ⟨k, by omega, q4⟩
    · exact Or.inr ⟨m, by omega, q4⟩
end MINE
