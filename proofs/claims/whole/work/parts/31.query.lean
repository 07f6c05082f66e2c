/-! WAY, ROUND, MEET, APART: class and reference answer alike -/
theorem first_eq {P Pl Pr : Nat → Prop} {d dl dr ml : Nat} (h : Lst P 1000 d) (hl : Lst Pl 1000 dl) (hr : Lst Pr 1000 dr) (hm : Lst Pl 9999 ml) (hd0 : d ≠ 0) (hd : d < 1000) (hs : ∀ j, P (j + 1) ↔ Pl j ∨ Pr j) : dr < dl ↔ ml ≠ d - 1 := by
  rcases h with ⟨p1, -, p3⟩ | ⟨p1, -⟩
  · have hx : Pl (d - 1) ∨ Pr (d - 1) := (hs (d - 1)).mp (by rwa [show d - 1 + 1 = d by omega])
    have gl : d - 1 ≤ dl := by
      rcases hl with ⟨l1, -, -⟩ | ⟨l1, -⟩
      · have := p3 _ ((hs dl).mpr (Or.inl l1)); omega
      · omega
    have gr : d - 1 ≤ dr := by
      rcases hr with ⟨l1, -, -⟩ | ⟨l1, -⟩
      · have := p3 _ ((hs dr).mpr (Or.inr l1)); omega
      · omega
    have em := hl.one hm
    rcases hx with hx | hx
    · have e1 : dl = d - 1 := by
        rcases hl with ⟨-, -, l3⟩ | ⟨-, l2⟩
        · have := l3 _ hx; omega
        · exact absurd hx (l2 _)
      rcases em with ⟨m1, -⟩ | ⟨m1, -⟩
      · constructor
        · intro q; omega
        · intro q; omega
      · omega
    · have e1 : dr = d - 1 := by
        rcases hr with ⟨-, -, l3⟩ | ⟨-, l2⟩
        · have := l3 _ hx; omega
        · exact absurd hx (l2 _)
      rcases em with ⟨m1, -⟩ | ⟨m1, m2, -⟩
      · constructor
        · intro q; omega
        · intro q; omega
      · constructor
        · intro q; omega
        · intro q; omega
  · omega
theorem orNone_eq {d m : Nat} {P : Nat → Prop} (h : Lst P 1000 d) (hm : Lst P 9999 m) : f_LT_orNone (nI d) = if nI m = 9999 then -1 else nI m := by
  unfold f_LT_orNone
  rw [l_1000, l_9999]
  rcases h.one hm with ⟨e, h1, h2, -⟩ | ⟨e1, e2, -⟩
  · subst e
    rw [if_pos (nI_lt h1 (by decide)), if_neg (fun z => by have := nI_inj (by omega) (by omega) z; omega)]
  · subst e1 e2
    rw [if_neg (nI_nlt (Nat.le_refl _) (by decide)), if_pos rfl]
theorem firstBy_eq {d dl dr : Nat} (hd : d ≤ 1000) (hl : dl ≤ 1000) (hr : dr ≤ 1000) : f_Ways_firstBy (nI d) (nI dl) (nI dr) = if d = 0 then -1 else if d < 1000 then (if dr < dl then 1 else 0) else -1 := by
  unfold f_Ways_firstBy
  by_cases h0 : d = 0
  · subst h0; rw [if_pos rfl, if_pos (show nI 0 = 0 from rfl)]
  · rw [if_neg h0, if_neg (nI_ne0 (by omega) (by omega)), l_1000]
    by_cases h1 : d < 1000
    · rw [if_pos h1, if_pos (nI_lt h1 (by decide))]
      by_cases h2 : dr < dl
      · rw [if_pos h2, if_pos (nI_lt h2 (by omega))]
      · rw [if_neg h2, if_neg (nI_nlt (by omega) (by omega))]
    · rw [if_neg h1, if_neg (nI_nlt (by omega) (by omega))]
theorem Lst.le {P : Nat → Prop} {i v : Nat} (h : Lst P i v) : v ≤ i := by
  rcases h with ⟨-, h, -⟩ | ⟨h, -⟩ <;> omega
/-- the class's tables are those of the mine -/
def Rt (σ : ST) (N : Nat) (kd : Nat → Nat) (go : Nat → Nat → Nat) : Prop := ∃ T, Tab σ N T ∧ Texact kd go N T ∧ RT σ go N 0
section Q
variable {σ τ : ST} {N : Nat} {kd : Nat → Nat} {go : Nat → Nat → Nat}
theorem sm37 {a : Nat} (h : isF a) : scA a := by unfold isF at h; unfold scA; omega
theorem stepsTo_ok (hM : Mm τ N kd go) {a b : Nat} (ha : a < N) (hb : b < N) : ∃ τ' v, f_M_stepsTo (nI a) (nI b) τ = some (nI v, τ') ∧ Lst (oc (Ee kd go 0) (Gg kd 0) a b) 9999 v ∧ Sm τ τ' := by
  have hN := hM.1
  obtain ⟨τ', F, e1, hF, hL, k1⟩ := layFar_ok (i := 0) (by decide) ha hM
  refine ⟨τ', F b, ?_, hL b hb, k1.sm (fun a h => sm37 h)⟩
  unfold f_M_stepsTo
  have e1' : f_M_layFar (nI a) 0 τ = some τ' := e1
  rw [e1']
  show (if inB (nI b) 6 = true then some (gA τ' 37 (nI b).toNatClampNeg, τ') else none) = _
  rw [if_pos (inB_t (by omega) (by decide)), nI_clamp (by omega), (hF b (by omega)).1]
theorem oc0_succ {a b j : Nat} : oc (Ee kd go 0) (Gg kd 0) a b (j + 1) ↔ oc (Ee kd go 0) (Gg kd 0) (go a 0) b j ∨ oc (Ee kd go 0) (Gg kd 0) (go a 1) b j := by
  constructor
  · intro ⟨k, hk⟩
    cases k with
    | zero => have := hk.2; omega
    | succ k =>
      obtain ⟨x, hx, h1, h2⟩ := ow0_succ.mp hk
      rw [Nat.add_sub_cancel] at h2
      rcases (show x = 0 ∨ x = 1 by omega) with q | q
      · subst q; exact Or.inl ⟨k, h2⟩
      · subst q; exact Or.inr ⟨k, h2⟩
  · intro h
    rcases h with ⟨k, hk⟩ | ⟨k, hk⟩
    · exact ⟨k + 1, ow0_succ.mpr ⟨0, by decide, by omega, by rwa [Nat.add_sub_cancel]⟩⟩
    · exact ⟨k + 1, ow0_succ.mpr ⟨1, by decide, by omega, by rwa [Nat.add_sub_cancel]⟩⟩
theorem oc3_succ {a b j : Nat} : oc (Ee kd go 3) (Gg kd 3) a b (j + 1) ↔ oc (Ee kd go 3) (Gg kd 3) (go a 0) (go b 0) j ∨ oc (Ee kd go 3) (Gg kd 3) (go a 1) (go b 1) j := by
  constructor
  · intro ⟨k, hk⟩
    cases k with
    | zero => have := hk.2; omega
    | succ k =>
      obtain ⟨e, he, h1, h2⟩ := hk
      unfold Ee Ew at he
      simp at he
      rcases he with rfl | rfl
      · exact Or.inl ⟨k, h2⟩
      · exact Or.inr ⟨k, h2⟩
  · intro h
    rcases h with ⟨k, hk⟩ | ⟨k, hk⟩
    · refine ⟨k + 1, (1, go a 0, go b 0), by unfold Ee Ew; simp, by show 1 ≤ j + 1; omega, hk⟩
    · refine ⟨k + 1, (1, go a 1, go b 1), by unfold Ee Ew; simp, by show 1 ≤ j + 1; omega, hk⟩
/-- what the class answers of a way, in range -/
def wayV (σ : ST) (a b x : Nat) : Int32 := if x = 0 then f_LT_orNone (f_Table_get_8 (nI a) (nI b) σ) else if x = 1 then f_Ways_firstOfWay (nI a) (nI b) σ else f_LT_orNone (f_Table_get_9 (nI a) (nI b) σ)
theorem wayOf_ok (hC : Mc σ N kd go) (hM : Mm τ N kd go) (hR : Rt σ N kd go) {a b x : Nat} (ha : a < N) (hb : b < N) (hx : x < 3) : ∃ τ', f_M_wayOf (nI a) (nI b) (nI x) τ = some (wayV σ a b x, τ') ∧ Sm τ τ' := by
  have hN := hM.1
  obtain ⟨T, hT, hE, -⟩ := hR
  obtain ⟨τ1, v, e1, hL, k1⟩ := stepsTo_ok hM ha hb
  have hM1 := hM.keep k1
  have t0 := hE 0 a b (by decide) ha hb
  have g0 : f_Table_get_8 (nI a) (nI b) σ = nI (T 0 a b) := tget_8 hT hN ha hb
  have g1 : f_Table_get_9 (nI a) (nI b) σ = nI (T 1 a b) := tget_9 hT hN ha hb
  have ga0 : go a 0 < N := go_lt hC ha (by decide)
  have ga1 : go a 1 < N := go_lt hC ha (by decide)
  have hone := t0.one hL
  have hv := hL.le
  have ht := t0.le
  have w0 : wayV σ a b 0 = f_LT_orNone (f_Table_get_8 (nI a) (nI b) σ) := rfl
  have w2 : wayV σ a b 2 = f_LT_orNone (f_Table_get_9 (nI a) (nI b) σ) := rfl
  have tl := hE 0 (go a 0) b (by decide) ga0 hb
  have tr := hE 0 (go a 1) b (by decide) ga1 hb
  have w1 : wayV σ a b 1 = if T 0 a b = 0 then -1 else if T 0 a b < 1000 then (if T 0 (go a 1) b < T 0 (go a 0) b then 1 else 0) else -1 := by
    show f_Ways_firstOfWay (nI a) (nI b) σ = _
    unfold f_Ways_firstOfWay
    rw [g0, l_0, l_1, m_leads hC ha (by decide), m_leads hC ha (by decide), tget_8 hT hN ga0 hb, tget_8 hT hN ga1 hb]
    exact firstBy_eq ht tl.le tr.le
  unfold f_M_wayOf
  rw [e1]
  show ∃ τ', (if nI v = 9999 then some ((-1 : Int32), τ1) else if nI x = 0 then some (nI v, τ1) else if nI x = 1 then (if nI v = 0 then some ((-1 : Int32), τ1) else (if inB ((2 : Int32) * nI a) 12 = true then ((f_M_stepsTo (gA τ1 35 ((2 : Int32) * nI a).toNatClampNeg) (nI b) τ1).bind (fun q9 => (if q9.1 = (nI v - (1 : Int32)) then some ((0 : Int32), q9.2) else some ((1 : Int32), q9.2)))) else none)) else ((f_M_layFar (nI a) (1 : Int32) τ1).bind (fun q5 => (if inB (nI b) 6 = true then some ((gA q5 37 (nI b).toNatClampNeg), q5) else none)))) = _ ∧ _
  rcases hone with ⟨ev, h1, h2, hp⟩ | ⟨ev1, ev2, hnone⟩
  · rw [if_neg (show ¬ nI v = 9999 from fun z => by rw [l_9999] at z; have := nI_inj (by omega) (by omega) z; omega)]
    rcases (show x = 0 ∨ x = 1 ∨ x = 2 by omega) with q | q | q
    · subst q
      rw [if_pos (show nI 0 = 0 from rfl), w0, g0, orNone_eq t0 hL, if_neg (show ¬ nI v = 9999 from fun z => by rw [l_9999] at z; have := nI_inj (by omega) (by omega) z; omega)]
      exact ⟨τ1, rfl, k1⟩
    · subst q
      rw [if_neg (show ¬ nI 1 = 0 by decide), if_pos (show nI 1 = 1 from rfl), w1]
      by_cases hz : v = 0
      · rw [if_pos (show nI v = 0 by rw [hz]; rfl), if_pos (show T 0 a b = 0 by omega)]
        exact ⟨τ1, rfl, k1⟩
      · rw [if_neg (show ¬ nI v = 0 from fun z => hz (nI_inj (by omega) (by decide) z)), if_neg (show ¬ T 0 a b = 0 by omega), if_pos h1, l_2, mul_nI, if_pos (inB_t (by omega) (by decide)), nI_clamp (by omega), (hM1.2.2.2 a ha).2.2.1]
        obtain ⟨τ2, m, e2, hL2, k2⟩ := stepsTo_ok hM1 ga0 hb
        rw [e2]
        show ∃ τ', (if nI m = nI v - nI 1 then some ((0 : Int32), τ2) else some ((1 : Int32), τ2)) = _ ∧ _
        have hm := hL2.le
        rw [sub_nI (by omega)]
        have hfe := first_eq t0 tl tr hL2 (by omega) h1 (fun j => oc0_succ)
        by_cases q : m = v - 1
        · rw [if_pos (by rw [q]), if_neg (fun z => (hfe.mp z) (by omega))]
          exact ⟨τ2, rfl, k1.tr k2⟩
        · rw [if_neg (fun z => q (nI_inj (by omega) (by omega) z)), if_pos (hfe.mpr (by omega))]
          exact ⟨τ2, rfl, k1.tr k2⟩
    · subst q
      rw [if_neg (show ¬ nI 2 = 0 by decide), if_neg (show ¬ nI 2 = 1 by decide), w2]
      obtain ⟨τ2, F, e2, hF, hL2, k2⟩ := layFar_ok (i := 1) (by decide) ha hM1
      have e2' : f_M_layFar (nI a) 1 τ1 = some τ2 := e2
      rw [e2']
      show ∃ τ', (if inB (nI b) 6 = true then some (gA τ2 37 (nI b).toNatClampNeg, τ2) else none) = _ ∧ _
      have t1 := hE 1 a b (by decide) ha hb
      have hfin : F b < 9999 := by
        rcases t0 with ⟨⟨k, hk⟩, -, -⟩ | ⟨q, -⟩
        · -- a walk of steps is a walk with some oil
          have conv : ∀ (k w a : Nat), ow (Ee kd go 0) (Gg kd 0) k w a b → ∃ w', ow (Ee kd go 1) (Gg kd 1) k w' a b := by
            intro k
            induction k with
            | zero => intro w a h; exact ⟨0, (owi_zero (by decide)).mpr ⟨((owi_zero (by decide)).mp h).1, rfl⟩⟩
            | succ k ih =>
              intro w a h
              obtain ⟨y, hy, -, h2⟩ := ow0_succ.mp h
              obtain ⟨w', hw'⟩ := ih _ _ h2
              exact ⟨w' + wt kd 1 (go a y), (owi_succ (by decide)).mpr ⟨y, hy, by omega, by rwa [Nat.add_sub_cancel]⟩⟩
          obtain ⟨w', hw'⟩ := conv k _ a hk
          rcases hL2 b hb with ⟨-, q, -⟩ | ⟨-, q⟩
          · exact q
          · exact absurd ⟨k, hw'⟩ (q w')
        · omega
      rw [if_pos (inB_t (by omega) (by decide)), nI_clamp (by omega), (hF b (by omega)).1, g1, orNone_eq t1 (hL2 b hb), if_neg (show ¬ nI (F b) = 9999 from fun z => by rw [l_9999] at z; have := nI_inj (by omega) (by omega) z; omega)]
      exact ⟨τ2, rfl, k1.tr (k2.sm (fun a h => sm37 h))⟩
  · rw [if_pos (show nI v = 9999 by rw [ev2]; rfl)]
    refine ⟨τ1, ?_, k1⟩
    rcases (show x = 0 ∨ x = 1 ∨ x = 2 by omega) with q | q | q
    · subst q
      rw [w0, g0, orNone_eq t0 hL, if_pos (show nI v = 9999 by rw [ev2]; rfl)]
    · subst q
      rw [w1, if_neg (show ¬ T 0 a b = 0 by omega), if_neg (show ¬ T 0 a b < 1000 by omega)]
    · subst q
      rw [w2, g1]
      have t1 := hE 1 a b (by decide) ha hb
      have : T 1 a b = 1000 := by
        rcases t1 with ⟨⟨k, hk⟩, -, -⟩ | ⟨q, -⟩
        · have conv : ∀ (k w a : Nat), ow (Ee kd go 1) (Gg kd 1) k w a b → ow (Ee kd go 0) (Gg kd 0) k k a b := by
            intro k
            induction k with
            | zero => intro w a h; exact (owi_zero (by decide)).mpr ⟨((owi_zero (by decide)).mp h).1, rfl⟩
            | succ k ih =>
              intro w a h
              obtain ⟨y, hy, -, h2⟩ := (owi_succ (by decide)).mp h
              exact ow0_succ.mpr ⟨y, hy, by omega, by rw [Nat.add_sub_cancel]; exact ih _ _ h2⟩
          exact absurd ⟨k, conv k _ a hk⟩ (hnone k)
        · exact q
      rw [this]
      rfl
/-- what the class answers of two crossings apart, in range -/
def apartV (σ : ST) (a b x : Nat) : Int32 := if x = 0 then f_LT_orNone (f_Table_get_11 (nI a) (nI b) σ) else f_Ways_firstOfApart (nI a) (nI b) σ
theorem apartOf_ok (hC : Mc σ N kd go) (hM : Mm τ N kd go) (hR : Rt σ N kd go) {a b x : Nat} (ha : a < N) (hb : b < N) (hx : x < 2) : ∃ τ', f_M_apartOf (nI a) (nI b) (nI x) τ = some (apartV σ a b x, τ') ∧ Sm τ τ' := by
  have hN := hM.1
  obtain ⟨T, hT, hE, -⟩ := hR
  obtain ⟨τ1, v, e1, hL, hv, k1⟩ := apart_ok hM ha hb
  have hM1 := hM.keep k1
  have t0 := hE 3 a b (by decide) ha hb
  have g0 : f_Table_get_11 (nI a) (nI b) σ = nI (T 3 a b) := tget_11 hT hN ha hb
  have ga0 : go a 0 < N := go_lt hC ha (by decide)
  have ga1 : go a 1 < N := go_lt hC ha (by decide)
  have gb0 : go b 0 < N := go_lt hC hb (by decide)
  have gb1 : go b 1 < N := go_lt hC hb (by decide)
  have hone := t0.one hL
  have ht := t0.le
  have w0 : apartV σ a b 0 = f_LT_orNone (f_Table_get_11 (nI a) (nI b) σ) := rfl
  have w1 : apartV σ a b 1 = f_Ways_firstOfApart (nI a) (nI b) σ := rfl
  unfold f_M_apartOf
  rw [e1]
  show ∃ τ', (if nI v = 9999 then some ((-1 : Int32), τ1) else if nI x = 0 then some (nI v, τ1) else (if nI v = 0 then some ((-1 : Int32), τ1) else (if inB ((2 : Int32) * nI a) 12 = true then (if inB ((2 : Int32) * nI b) 12 = true then ((f_M_apartFrom (gA τ1 35 ((2 : Int32) * nI a).toNatClampNeg) (gA τ1 35 ((2 : Int32) * nI b).toNatClampNeg) τ1).bind (fun q7 => (if q7.1 = (nI v - (1 : Int32)) then some ((0 : Int32), q7.2) else some ((1 : Int32), q7.2)))) else none) else none))) = _ ∧ _
  have fst : f_Ways_firstOfApart (nI a) (nI b) σ = f_Ways_firstBy (nI (T 3 a b)) (nI (T 3 (go a 0) (go b 0))) (nI (T 3 (go a 1) (go b 1))) := by
    unfold f_Ways_firstOfApart f_Ways_apartAfter
    rw [g0, l_0, l_1, m_leads hC ha (by decide), m_leads hC ha (by decide), m_leads hC hb (by decide), m_leads hC hb (by decide), tget_11 hT hN ga0 gb0, tget_11 hT hN ga1 gb1]
  have tl := hE 3 (go a 0) (go b 0) (by decide) ga0 gb0
  have tr := hE 3 (go a 1) (go b 1) (by decide) ga1 gb1
  rcases hone with ⟨ev, h1, h2, hp⟩ | ⟨ev1, ev2, hnone⟩
  · rw [if_neg (show ¬ nI v = 9999 from fun z => by rw [l_9999] at z; have := nI_inj (by omega) (by omega) z; omega)]
    rcases (show x = 0 ∨ x = 1 by omega) with q | q
    · subst q
      rw [if_pos (show nI 0 = 0 from rfl), w0, g0, orNone_eq t0 hL, if_neg (show ¬ nI v = 9999 from fun z => by rw [l_9999] at z; have := nI_inj (by omega) (by omega) z; omega)]
      exact ⟨τ1, rfl, k1⟩
    · subst q
      rw [if_neg (show ¬ nI 1 = 0 by decide), w1, fst, firstBy_eq ht tl.le tr.le]
      by_cases hz : v = 0
      · rw [if_pos (show nI v = 0 by rw [hz]; rfl), if_pos (show T 3 a b = 0 by omega)]
        exact ⟨τ1, rfl, k1⟩
      · rw [if_neg (show ¬ nI v = 0 from fun z => hz (nI_inj (by omega) (by decide) z)), if_neg (show ¬ T 3 a b = 0 by omega), if_pos h1, l_2, mul_nI, mul_nI, if_pos (inB_t (by omega) (by decide)), if_pos (inB_t (by omega) (by decide)), nI_clamp (by omega), nI_clamp (by omega), (hM1.2.2.2 a ha).2.2.1, (hM1.2.2.2 b hb).2.2.1]
        obtain ⟨τ2, m, e2, hL2, hm, k2⟩ := apart_ok hM1 ga0 gb0
        rw [e2]
        show ∃ τ', (if nI m = nI v - nI 1 then some ((0 : Int32), τ2) else some ((1 : Int32), τ2)) = _ ∧ _
        rw [sub_nI (by omega)]
        have hfe := first_eq t0 tl tr hL2 (by omega) h1 (fun j => oc3_succ)
        by_cases q : m = v - 1
        · rw [if_pos (by rw [q]), if_neg (fun z => (hfe.mp z) (by omega))]
          exact ⟨τ2, rfl, k1.tr k2⟩
        · rw [if_neg (fun z => q (nI_inj (by omega) (by omega) z)), if_pos (hfe.mpr (by omega))]
          exact ⟨τ2, rfl, k1.tr k2⟩
  · rw [if_pos (show nI v = 9999 by rw [ev2]; rfl)]
    refine ⟨τ1, ?_, k1⟩
    rcases (show x = 0 ∨ x = 1 by omega) with q | q
    · subst q
      rw [w0, g0, orNone_eq t0 hL, if_pos (show nI v = 9999 by rw [ev2]; rfl)]
    · subst q
      rw [w1, fst, firstBy_eq ht tl.le tr.le, if_neg (show ¬ T 3 a b = 0 by omega), if_neg (show ¬ T 3 a b < 1000 by omega)]
/-- MEET of two crossings -/
def meetV (σ : ST) (a b : Nat) : Int32 := f_LT_orNone (f_Table_get_10 (nI a) (nI b) σ)
theorem meetOf_ok (hM : Mm τ N kd go) (hR : Rt σ N kd go) {a b : Nat} (ha : a < N) (hb : b < N) : ∃ τ', f_M_meetOf (nI a) (nI b) τ = some (meetV σ a b, τ') ∧ Sm τ τ' := by
  have hN := hM.1
  obtain ⟨T, hT, hE, -⟩ := hR
  obtain ⟨τ1, v, e1, hL, hv, k1⟩ := meet_ok hM ha hb
  refine ⟨τ1, ?_, k1⟩
  unfold meetV
  rw [e1, tget_10 hT hN ha hb, orNone_eq (hE 2 a b (by decide) ha hb) hL]
  by_cases q : v = 9999
  · rw [if_pos q, if_pos (by rw [q]; rfl)]
  · rw [if_neg q, if_neg (show ¬ nI v = 9999 from fun z => q (nI_inj (by omega) (by decide) z))]
theorem RI_Lst {a v r : Nat} (hN : N ≤ 6) (h : RI go N v a r) : Lst (fun k => cv go N k v a) 1000 r := by
  rcases h with ⟨h1, h2, h3⟩ | ⟨h1, h2⟩
  · have := un_le v N
    exact Or.inl ⟨h1, by omega, h2⟩
  · exact Or.inr ⟨h1, h2⟩
/-- ROUND -/
def roundV (σ : ST) (a x : Nat) : Int32 := if x = 0 then f_LT_orNone (f_Ways_stepsOfRound ((1 : Int32) <<< (nI a &&& 31)) (nI a) σ) else f_Ways_firstOfRound (nI a) σ
theorem roundOf_ok (h2N : 2 ≤ N) (hC : Mc σ N kd go) (hM : Mm τ N kd go) (hR : Rt σ N kd go) {a x : Nat} (ha : a < N) (hx : x < 2) : ∃ τ', f_M_roundOf (nI a) (nI x) τ = some (roundV σ a x, τ') ∧ Sm τ τ' := by
  have hN := hM.1
  have h64 := pow_le64 hN
  obtain ⟨T, hT, hE, hRT⟩ := hR
  have p0 : 0 < 2 ^ N := Nat.pow_pos (by decide)
  have pa : 2 ^ a < 2 ^ N := Nat.pow_lt_pow_right (by decide) ha
  have pa0 : 0 < 2 ^ a := Nat.pow_pos (by decide)
  obtain ⟨τ1, v, e1, hL, hv, k1⟩ := round_ok (v := 0) hM ha p0
  rw [Nat.zero_or] at hL
  have hM1 := hM.keep k1
  have tba : (2 ^ a).testBit a = true := by rw [Nat.testBit_two_pow]; simp
  obtain ⟨r, r1, r2⟩ := hRT (2 ^ a) a pa0 pa ha tba
  have t0 := RI_Lst hN r2
  have hone := t0.one hL
  have ht := t0.le
  have gw : ∀ w, w < 2 → go a w < N := fun w hw => go_lt hC ha hw
  have s0 : f_Ways_stepsOfRound ((1 : Int32) <<< (nI a &&& 31)) (nI a) σ = nI r := by rw [bit1 a (by omega), sor_ok (by omega) (by omega), r1]
  have aft : ∀ w, w < 2 → ∃ rw', f_Ways_roundAfter (nI a) (nI w) σ = nI rw' ∧ RI go N (2 ^ a ||| 2 ^ (go a w)) (go a w) rw' := by
    intro w hw
    have hg := gw w hw
    have hlt := or_lt pa hg
    obtain ⟨q, q1, q2⟩ := hRT (2 ^ a ||| 2 ^ (go a w)) (go a w) (Nat.lt_of_lt_of_le pa0 Nat.left_le_or) hlt hg (by rw [tb_or]; simp)
    refine ⟨q, ?_, q2⟩
    unfold f_Ways_roundAfter
    rw [m_leads hC ha hw, bit1 a (by omega), bit1 _ (by omega), fa_or, sor_ok (by omega) (by omega), q1]
  obtain ⟨dl, al1, al2⟩ := aft 0 (by decide)
  obtain ⟨dr, ar1, ar2⟩ := aft 1 (by decide)
  have tl := RI_Lst hN al2
  have tr := RI_Lst hN ar2
  have hv0 : ¬ cv go N 0 (2 ^ a) a := by
    intro z
    have hne : ∃ c, c < N ∧ c ≠ a := by
      by_cases q : a = 0
      · exact ⟨1, by omega, by omega⟩
      · exact ⟨0, by omega, by omega⟩
    obtain ⟨c, c1, c2⟩ := hne
    have := z c c1
    rw [Nat.testBit_two_pow] at this
    simp at this
    omega
  have fst : f_Ways_firstOfRound (nI a) σ = f_Ways_firstBy (nI r) (nI dl) (nI dr) := by
    unfold f_Ways_firstOfRound
    have al1' : f_Ways_roundAfter (nI a) 0 σ = nI dl := al1
    have ar1' : f_Ways_roundAfter (nI a) 1 σ = nI dr := ar1
    rw [s0, al1', ar1']
  have w0 : roundV σ a 0 = f_LT_orNone (f_Ways_stepsOfRound ((1 : Int32) <<< (nI a &&& 31)) (nI a) σ) := rfl
  have w1 : roundV σ a 1 = f_Ways_firstOfRound (nI a) σ := rfl
  unfold f_M_roundOf
  have e1' : f_M_roundFrom (nI a) 0 τ = some (nI v, τ1) := e1
  rw [e1']
  show ∃ τ', (if nI v = 9999 then some ((-1 : Int32), τ1) else if nI x = 0 then some (nI v, τ1) else (if inB ((2 : Int32) * nI a) 12 = true then ((f_M_roundFrom (gA τ1 35 ((2 : Int32) * nI a).toNatClampNeg) ((1 : Int32) <<< (nI a &&& 31)) τ1).bind (fun q5 => (if q5.1 = (nI v - (1 : Int32)) then some ((0 : Int32), q5.2) else some ((1 : Int32), q5.2)))) else none)) = _ ∧ _
  rcases hone with ⟨ev, h1, h2, hp⟩ | ⟨ev1, ev2, hnone⟩
  · rw [if_neg (show ¬ nI v = 9999 from fun z => by rw [l_9999] at z; have := nI_inj (by omega) (by omega) z; omega)]
    have hr0 : r ≠ 0 := fun z => hv0 (by rw [z] at hp; exact hp)
    rcases (show x = 0 ∨ x = 1 by omega) with q | q
    · subst q
      rw [if_pos (show nI 0 = 0 from rfl), w0, s0, orNone_eq t0 hL, if_neg (show ¬ nI v = 9999 from fun z => by rw [l_9999] at z; have := nI_inj (by omega) (by omega) z; omega)]
      exact ⟨τ1, rfl, k1⟩
    · subst q
      rw [if_neg (show ¬ nI 1 = 0 by decide), w1, fst, firstBy_eq ht tl.le tr.le, if_neg hr0, if_pos h1, l_2, mul_nI, if_pos (inB_t (by omega) (by decide)), nI_clamp (by omega), (hM1.2.2.2 a ha).2.2.1, bit1 a (by omega)]
      obtain ⟨τ2, m, e2, hL2, hm, k2⟩ := round_ok (v := 2 ^ a) hM1 (gw 0 (by decide)) pa
      rw [e2]
      show ∃ τ', (if nI m = nI v - nI 1 then some ((0 : Int32), τ2) else some ((1 : Int32), τ2)) = _ ∧ _
      rw [sub_nI (by omega)]
      have hfe := first_eq t0 tl tr hL2 hr0 h1 (fun j => by
        constructor
        · intro ⟨w, hw, h⟩
          rcases (show w = 0 ∨ w = 1 by omega) with q | q
          · subst q; exact Or.inl h
          · subst q; exact Or.inr h
        · intro h
          rcases h with h | h
          · exact ⟨0, by decide, h⟩
          · exact ⟨1, by decide, h⟩)
      by_cases q : m = v - 1
      · rw [if_pos (by rw [q]), if_neg (fun z => (hfe.mp z) (by omega))]
        exact ⟨τ2, rfl, k1.tr k2⟩
      · rw [if_neg (fun z => q (nI_inj (by omega) (by omega) z)), if_pos (hfe.mpr (by omega))]
        exact ⟨τ2, rfl, k1.tr k2⟩
  · rw [if_pos (show nI v = 9999 by rw [ev2]; rfl)]
    refine ⟨τ1, ?_, k1⟩
    rcases (show x = 0 ∨ x = 1 by omega) with q | q
    · subst q
      rw [w0, s0, orNone_eq t0 hL, if_pos (show nI v = 9999 by rw [ev2]; rfl)]
    · subst q
      rw [w1, fst, firstBy_eq ht tl.le tr.le]
      by_cases q0 : r = 0
      · rw [if_pos q0]
      · rw [if_neg q0, if_neg (by omega)]
end Q
