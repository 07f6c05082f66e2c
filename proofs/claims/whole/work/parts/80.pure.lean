/-! THE LAW, PURE -/
theorem lg_rf (x : Int64) : lg_cmp x x = 0 := by
  unfold lg_cmp
  have : ¬ x > x := by
    intro z
    have := (fa_lt64 x x).mp z
    omega
  rw [if_neg this, if_pos rfl]
theorem inv0 : Inv st0 0 := ⟨0, fun _ => 0, 0, fun _ => 0, fun _ _ => 0, 0, 0, ⟨by decide, rfl, rfl, fun k hk => absurd hk (by omega)⟩, ⟨Or.inl rfl, ⟨by decide, rfl, fun k hk => absurd hk (by omega), fun k hk => absurd hk (by omega)⟩, ⟨by decide, rfl, fun k hk => absurd hk (by omega), fun k hk => absurd hk (by omega)⟩, rfl⟩, ⟨by decide, rfl, rfl, fun k hk => absurd hk (by omega)⟩, ⟨by decide, rfl, rfl, fun k hk => absurd hk (by omega)⟩, ⟨0, by decide, rfl, rfl, Or.inl ⟨rfl, Or.inl rfl⟩⟩⟩
theorem law_go (L : Nat) (hL : L ≤ 320) (zs : Nat → Int32) : ∀ (n i : Nat) (σ : ST), L - i < 5 * n → i ≤ L → Inv σ i → ∃ e, f_Law_law_L18 L zs n (nI i) σ = some e := by
  intro n
  induction n with
  | zero => intro i σ h; omega
  | succ n ih =>
    intro i σ hn hi h
    rw [f_Law_law_L18]
    have cmp : ((Int32.ofNat L) - (5 : Int32) < nI i) ↔ L < i + 5 := by
      show nI L - nI 5 < nI i ↔ _
      rw [fa_lt, pk_sub_toInt (by omega) (by decide), nI_toInt (by omega)]
      omega
    by_cases q : L < i + 5
    · rw [if_pos (cmp.mpr q)]; exact ⟨σ, rfl⟩
    rw [if_neg (fun z => q (cmp.mp z))]
    have next : ∀ τ, Inv τ i → ∃ e, f_Law_law_L18 L zs n (nI (i + 5)) τ = some e := fun τ hτ => ih (i + 5) τ (by omega) (by omega) (hτ.mono (by omega))
    have b0 : inB (nI i) L = true := inB_t (by omega) (by omega)
    have b1 : inB (nI i + 1) L = true := by rw [l_1, add_nI]; exact inB_t (by omega) (by omega)
    have b2 : inB (nI i + 2) L = true := by rw [l_2, add_nI]; exact inB_t (by omega) (by omega)
    have b3 : inB (nI i + 3) L = true := by rw [l_3, add_nI]; exact inB_t (by omega) (by omega)
    have b4 : inB (nI i + 4) L = true := by rw [l_4, add_nI]; exact inB_t (by omega) (by omega)
    have a5 : nI i + 5 = nI (i + 5) := by rw [l_5, add_nI]
    rw [if_pos b0, a5]
    generalize zs (nI i + 1).toNatClampNeg = z1
    generalize zs (nI i + 2).toNatClampNeg = z2
    generalize zs (nI i + 3).toNatClampNeg = z3
    generalize zs (nI i + 4).toNatClampNeg = z4
    generalize zs (nI i).toNatClampNeg &&& 31 = o
    simp only [if_pos b1, if_pos b2, if_pos b3, if_pos b4]
    obtain ⟨pn, cd, N, kd, go, P, k, H⟩ := id h
    obtain ⟨g1, g2, g3, g4, g5⟩ := id H
    by_cases o0 : o = 0
    · rw [if_pos o0]
      obtain ⟨τ, t1, t2⟩ := op_letter h z1
      rw [t1, Option.bind_some, if_pos rfl]; exact next τ t2
    rw [if_neg o0]
    by_cases o1 : o = 1
    · rw [if_pos o1]
      obtain ⟨t1, t2⟩ := op_blank h
      rw [if_pos t1]; exact next _ t2
    rw [if_neg o1]
    by_cases o2 : o = 2
    · rw [if_pos o2]
      obtain ⟨v, τ, t1, t2, t3⟩ := eq_fault g1
      rw [t1, Option.bind_some, t2, Option.bind_some, if_pos rfl]; exact next τ (h.fr t3)
    rw [if_neg o2]
    by_cases o3 : o = 3
    · rw [if_pos o3]
      obtain ⟨v, σ1, t1, τ, t2, t3⟩ := op_mine h
      rw [t1, Option.bind_some, t2, Option.bind_some, if_pos rfl]
      exact ih (i + 5) τ (by omega) (by omega) (t3.mono (by omega))
    rw [if_neg o3]
    by_cases o4 : o = 4
    · rw [if_pos o4]
      obtain ⟨v, t1, t2⟩ := eq_crossing g2.2.1 g2.2.2.1 g3 z1 z2
      rw [t1, Option.bind_some, t2, Option.bind_some, if_pos rfl]; exact next σ h
    rw [if_neg o4]
    by_cases o5 : o = 5
    · rw [if_pos o5]
      rw [eq_as g2.2.1 g2.2.2.1 z1 z2, Option.bind_some, if_pos rfl]; exact next σ h
    rw [if_neg o5]
    by_cases o6 : o = 6
    · rw [if_pos o6]
      obtain ⟨τ, t1, t2⟩ := op_party h z1
      rw [t1, Option.bind_some, if_pos rfl]; exact next τ t2
    rw [if_neg o6]
    by_cases o7 : o = 7
    · rw [if_pos o7]
      rw [eq_about g3 z1 z2, Option.bind_some, if_pos rfl]; exact next σ h
    rw [if_neg o7]
    by_cases o8 : o = 8
    · rw [if_pos o8]
      obtain ⟨τ, t1, t2⟩ := op_step h z1 z2
      rw [t1, Option.bind_some, if_pos rfl]; exact next τ t2
    rw [if_neg o8]
    by_cases o9 : o = 9
    · rw [if_pos o9]
      obtain ⟨τ, t1, t2⟩ := op_speak h z1
      rw [t1, Option.bind_some, if_pos rfl]; exact next τ t2
    rw [if_neg o9]
    by_cases o10 : o = 10
    · rw [if_pos o10]
      rw [eq_look g2.2.1 g2.2.2.1 g3 z1, Option.bind_some, if_pos rfl]; exact next σ h
    rw [if_neg o10]
    by_cases o11 : o = 11
    · rw [if_pos o11]
      obtain ⟨τ, t1, t2⟩ := op_fill h z1
      rw [t1, Option.bind_some, if_pos rfl]; exact next τ t2
    rw [if_neg o11]
    by_cases o12 : o = 12
    · rw [if_pos o12]
      obtain ⟨τ, t1, t2⟩ := eq_way g2 z1 z2 z3
      rw [t1, Option.bind_some, if_pos rfl]; exact next τ (h.sm t2)
    rw [if_neg o12]
    by_cases o13 : o = 13
    · rw [if_pos o13]
      obtain ⟨τ, t1, t2⟩ := eq_round g2 z1 z2
      rw [t1, Option.bind_some, if_pos rfl]; exact next τ (h.sm t2)
    rw [if_neg o13]
    by_cases o14 : o = 14
    · rw [if_pos o14]
      obtain ⟨τ, t1, t2⟩ := eq_meet g2 g3 z1 z2
      rw [t1, Option.bind_some, if_pos rfl]; exact next τ (h.sm t2)
    rw [if_neg o14]
    by_cases o15 : o = 15
    · rw [if_pos o15]
      obtain ⟨τ, t1, t2⟩ := eq_apart g2 z1 z2 z3
      rw [t1, Option.bind_some, if_pos rfl]; exact next τ (h.sm t2)
    rw [if_neg o15]
    by_cases o16 : o = 16
    · rw [if_pos o16]
      obtain ⟨τ, t1, t2⟩ := op_hear h z1 z2
      rw [t1, Option.bind_some, if_pos rfl]; exact next τ t2
    rw [if_neg o16]
    by_cases o17 : o = 17
    · rw [if_pos o17]
      obtain ⟨t1, t2⟩ := op_forget h
      rw [if_pos t1]; exact next _ t2
    rw [if_neg o17]
    by_cases o18 : o = 18
    · rw [if_pos o18]
      obtain ⟨v, t1, t2⟩ := eq_where g2 g4
      rw [t1, Option.bind_some, t2, Option.bind_some, if_pos rfl]; exact next σ h
    rw [if_neg o18]
    by_cases o19 : o = 19
    · rw [if_pos o19]
      obtain ⟨v, t1, t2⟩ := eq_next g2 g4
      rw [t1, Option.bind_some, t2, Option.bind_some, if_pos rfl]; exact next σ h
    rw [if_neg o19]
    by_cases o20 : o = 20
    · rw [if_pos o20]
      obtain ⟨v, τ, t1, t2, t3⟩ := eq_walks g2.2.1 g2.2.2.1 z1 z2 z3 z4
      rw [t1, Option.bind_some, t2, Option.bind_some, if_pos rfl]; exact next τ (h.sm t3)
    rw [if_neg o20]
    by_cases o21 : o = 21
    · rw [if_pos o21]
      obtain ⟨v, σ1, t1, τ, t2, t3⟩ := op_image h
      rw [t1, Option.bind_some, t2, Option.bind_some, if_pos rfl]; exact next τ t3
    rw [if_neg o21]
    by_cases o22 : o = 22
    · rw [if_pos o22]
      obtain ⟨v, σ1, t1, τ, t2, t3⟩ := op_restore (by omega) h
      rw [t1, Option.bind_some, t2, Option.bind_some, if_pos rfl]; exact next τ t3
    rw [if_neg o22]
    by_cases o23 : o = 23
    · rw [if_pos o23]
      obtain ⟨v, t1, t2⟩ := eq_count g1 g2 g3 g4 g5 z1
      have t3 : f_M_count z1 σ = some v := by unfold f_M_count; rw [t2]; rfl
      rw [t1, Option.bind_some, t3, Option.bind_some, if_pos rfl]; exact next σ h
    rw [if_neg o23]
    by_cases o24 : o = 24
    · rw [if_pos o24]
      obtain ⟨v, τ, t1, t2, t3⟩ := eq_digest H
      rw [t1, Option.bind_some, t2, Option.bind_some, if_pos (lg_rf v)]; exact next τ (h.fr t3)
    rw [if_neg o24]
    exact next σ h
theorem law_pure (L : Nat) (hL : L ≤ 320) (zs : Nat → Int32) : ∃ e, f_Law_law_L18 L zs 400 0 st0 = some e := law_go L hL zs 400 0 st0 (by omega) (by omega) inv0
