set_option maxRecDepth 100000 in
theorem lp_Ways_sweepPairs_17 {X : CX} (hX : Ok X RX4 cX4_sweepPairs 5 4) : ∀ (n : Nat) (x1 : Int32) (x2 : Int32) (x3 : Int32) (σ : ST) (e : (Int32 × ST)), f_Ways_sweepPairs_L17 n x1 x2 x3 σ = some e → JJ X 60 [(0, .ref (xad X 7)), (1, .int e.1), (2, .int x2)] [] e.2 → JJ X 17 [(0, .ref (xad X 7)), (1, .int x1), (2, .int x2), (3, .int x3)] [] σ := by
  intro n
  induction n with
  | zero =>
    intro x1 x2 x3 σ e h
    rw [f_Ways_sweepPairs_L17] at h
    cases h
  | succ n ih =>
    intro x1 x2 x3 σ e h K
    rw [f_Ways_sweepPairs_L17] at h
    refine JJ.iload_n hX 3 dX4_sweepPairs_17 rfl ?_
    refine JJ.aload_n hX 0 dX4_sweepPairs_18 rfl ?_
    refine fg_X4_31_7 hX dX4_sweepPairs_19 ?_
    refine fg_X4_71_3 hX dX4_sweepPairs_22 ?_
    refine JJ.icmp_ge (tgt := 60) hX dX4_sweepPairs_25 (by decide) (fun c2 => ?_) (fun c2 => ?_)
    · replace h := ipos c2 h
      obtain rfl := Option.some.inj h
      exact JJ.sub [0, 1, 2] rfl K
    · replace h := ineg c2 h
      refine JJ.aload_n hX 0 dX4_sweepPairs_28 rfl ?_
      refine JJ.iload_n hX 2 dX4_sweepPairs_29 rfl ?_
      refine JJ.iload_n hX 3 dX4_sweepPairs_30 rfl ?_
      refine JJ.iconst (v := 0) hX dX4_sweepPairs_31 (by decide) ?_
      refine JJ.callVi hX (ct_Ways_lowerBy _ _ _ _ _ rfl) cal_yX4_lowerBy cav_yX4_lowerBy lm_RX4_83 rfl rfl rfl (Rcv.obj hX (ci := 4) rfl rfl) (Nat.le_of_ble_eq_true rfl) ⟨by decide, by decide⟩ dX4_sweepPairs_32 ?_
      refine JJ.istore (ls' := [(0, .ref (xad X 7)), (1, .int x1), (2, .int x2), (3, .int x3), (4, .int ((f_Ways_lowerBy x2 x3 (0 : Int32) σ).1))]) hX dX4_sweepPairs_35 (by decide) rfl rfl ?_
      refine JJ.iload hX 4 dX4_sweepPairs_37 rfl ?_
      refine JJ.aload_n hX 0 dX4_sweepPairs_39 rfl ?_
      refine JJ.iload_n hX 2 dX4_sweepPairs_40 rfl ?_
      refine JJ.iload_n hX 3 dX4_sweepPairs_41 rfl ?_
      refine JJ.iconst (v := 1) hX dX4_sweepPairs_42 (by decide) ?_
      refine JJ.callVi hX (ct_Ways_lowerBy _ _ _ _ _ rfl) cal_yX4_lowerBy cav_yX4_lowerBy lm_RX4_83 rfl rfl rfl (Rcv.obj hX (ci := 4) rfl rfl) (Nat.le_of_ble_eq_true rfl) ⟨by decide, by decide⟩ dX4_sweepPairs_43 ?_
      refine JJ.ior hX dX4_sweepPairs_46 ?_
      refine JJ.istore (ls' := [(0, .ref (xad X 7)), (1, .int x1), (2, .int x2), (3, .int x3), (4, .int ((f_Ways_lowerBy x2 x3 (0 : Int32) σ).1 ||| (f_Ways_lowerBy x2 x3 (1 : Int32) ((f_Ways_lowerBy x2 x3 (0 : Int32) σ).2)).1))]) hX dX4_sweepPairs_47 (by decide) rfl rfl ?_
      refine JJ.iload_n hX 1 dX4_sweepPairs_49 rfl ?_
      refine JJ.iload hX 4 dX4_sweepPairs_50 rfl ?_
      refine JJ.ior hX dX4_sweepPairs_52 ?_
      refine JJ.istore_n (ls' := [(0, .ref (xad X 7)), (1, .int (x1 ||| ((f_Ways_lowerBy x2 x3 (0 : Int32) σ).1 ||| (f_Ways_lowerBy x2 x3 (1 : Int32) ((f_Ways_lowerBy x2 x3 (0 : Int32) σ).2)).1))), (2, .int x2), (3, .int x3), (4, .int ((f_Ways_lowerBy x2 x3 (0 : Int32) σ).1 ||| (f_Ways_lowerBy x2 x3 (1 : Int32) ((f_Ways_lowerBy x2 x3 (0 : Int32) σ).2)).1))]) hX dX4_sweepPairs_53 (by decide) rfl rfl ?_
      refine JJ.iinc (v := 1) (ls' := [(0, .ref (xad X 7)), (1, .int (x1 ||| ((f_Ways_lowerBy x2 x3 (0 : Int32) σ).1 ||| (f_Ways_lowerBy x2 x3 (1 : Int32) ((f_Ways_lowerBy x2 x3 (0 : Int32) σ).2)).1))), (2, .int x2), (3, .int (x3 + (1 : Int32))), (4, .int ((f_Ways_lowerBy x2 x3 (0 : Int32) σ).1 ||| (f_Ways_lowerBy x2 x3 (1 : Int32) ((f_Ways_lowerBy x2 x3 (0 : Int32) σ).2)).1))]) hX 3 dX4_sweepPairs_54 rfl (by decide) (by decide) rfl rfl ?_
      refine JJ.goto (tgt := 17) hX dX4_sweepPairs_57 (by decide) ?_
      refine JJ.sub (ls' := [(0, .ref (xad X 7)), (1, .int (x1 ||| ((f_Ways_lowerBy x2 x3 (0 : Int32) σ).1 ||| (f_Ways_lowerBy x2 x3 (1 : Int32) ((f_Ways_lowerBy x2 x3 (0 : Int32) σ).2)).1))), (2, .int x2), (3, .int (x3 + (1 : Int32)))]) [0, 1, 2, 3] rfl ?_
      exact ih _ _ _ _ _ h K
set_option maxRecDepth 100000 in
theorem lp_Ways_sweepPairs_4 {X : CX} (hX : Ok X RX4 cX4_sweepPairs 5 4) : ∀ (n : Nat) (x1 : Int32) (x2 : Int32) (σ : ST) (e : (Int32 × ST)), f_Ways_sweepPairs_L4 n x1 x2 σ = some e → JJ X 66 [(1, .int e.1)] [] e.2 → JJ X 4 [(0, .ref (xad X 7)), (1, .int x1), (2, .int x2)] [] σ := by
  intro n
  induction n with
  | zero =>
    intro x1 x2 σ e h
    rw [f_Ways_sweepPairs_L4] at h
    cases h
  | succ n ih =>
    intro x1 x2 σ e h K
    rw [f_Ways_sweepPairs_L4] at h
    refine JJ.iload_n hX 2 dX4_sweepPairs_4 rfl ?_
    refine JJ.aload_n hX 0 dX4_sweepPairs_5 rfl ?_
    refine fg_X4_31_7 hX dX4_sweepPairs_6 ?_
    refine fg_X4_71_3 hX dX4_sweepPairs_9 ?_
    refine JJ.icmp_ge (tgt := 66) hX dX4_sweepPairs_12 (by decide) (fun c1 => ?_) (fun c1 => ?_)
    · replace h := ipos c1 h
      obtain rfl := Option.some.inj h
      exact JJ.sub [1] rfl K
    · replace h := ineg c1 h
      refine JJ.iconst (v := 0) hX dX4_sweepPairs_15 (by decide) ?_
      refine JJ.istore_n (ls' := [(0, .ref (xad X 7)), (1, .int x1), (2, .int x2), (3, .int (0 : Int32))]) hX dX4_sweepPairs_16 (by decide) rfl rfl ?_
      obtain ⟨e3, h3, h⟩ := bnd h
      refine lp_Ways_sweepPairs_17 hX 400 _ _ _ _ _ h3 ?_
      refine JJ.iinc (v := 1) (ls' := [(0, .ref (xad X 7)), (1, .int e3.1), (2, .int (x2 + (1 : Int32)))]) hX 2 dX4_sweepPairs_60 rfl (by decide) (by decide) rfl rfl ?_
      refine JJ.goto (tgt := 4) hX dX4_sweepPairs_63 (by decide) ?_
      exact ih _ _ _ _ h K
set_option maxRecDepth 100000 in
theorem ct_Ways_sweepPairs (σ : ST) (res : Int32 × ST) (h : f_Ways_sweepPairs σ = some res) : Ct 4 yX4_sweepPairs cX4_sweepPairs 5 (some .boolean) (fun ad => [.ref (ad 7)]) σ (some (.int res.1)) res.2 := by
  refine Ct.of (ls := fun ad => [(0, .ref (ad 7))]) (by decide +kernel) (fun ad => Nat.le_of_ble_eq_true rfl) (fun ad => rfl) (fun X hX hM => ?_)
  replace hX : Ok X RX4 cX4_sweepPairs 5 4 := hX
  unfold f_Ways_sweepPairs at h
  refine JJ.iconst (v := 0) hX dX4_sweepPairs_0 (by decide) ?_
  refine JJ.istore_n (ls' := [(0, .ref (xad X 7)), (1, .int (0 : Int32))]) hX dX4_sweepPairs_1 (by decide) rfl rfl ?_
  refine JJ.iconst (v := 0) hX dX4_sweepPairs_2 (by decide) ?_
  refine JJ.istore_n (ls' := [(0, .ref (xad X 7)), (1, .int (0 : Int32)), (2, .int (0 : Int32))]) hX dX4_sweepPairs_3 (by decide) rfl rfl ?_
  obtain ⟨e4, h4, h⟩ := bnd h
  refine lp_Ways_sweepPairs_4 hX 400 _ _ _ _ h4 ?_
  refine JJ.iload_n hX 0 dX4_sweepPairs_66 rfl ?_
  obtain rfl := Option.some.inj h
  exact JJ.bret hX hM dX4_sweepPairs_67
set_option maxRecDepth 100000 in
theorem ct_Mine_isIn (p0 : Int32) (p1 : Int32) (σ : ST) (res : Int32) (h : f_Mine_isIn p0 p1 = res) : Ct 0 yX1_isIn cX1_isIn 2 (some .boolean) (fun ad => [.int p1, .int p0]) σ (some (.int res)) σ := by
  refine Ct.of (ls := fun ad => [(0, .int p0), (1, .int p1)]) (by decide +kernel) (fun ad => Nat.le_of_ble_eq_true rfl) (fun ad => rfl) (fun X hX hM => ?_)
  replace hX : Ok X RX1 cX1_isIn 2 0 := hX
  unfold f_Mine_isIn at h
  refine JJ.iload_n hX 0 dX1_isIn_0 rfl ?_
  refine JJ.iload_n hX 1 dX1_isIn_1 rfl ?_
  refine JJ.ishr hX dX1_isIn_2 ?_
  refine JJ.iconst (v := 1) hX dX1_isIn_3 (by decide) ?_
  refine JJ.iand hX dX1_isIn_4 ?_
  refine JJ.iconst (v := 1) hX dX1_isIn_5 (by decide) ?_
  refine JJ.icmp_ne (tgt := 13) hX dX1_isIn_6 (by decide) (fun c1 => ?_) (fun c1 => ?_)
  · replace h := ineg c1 h
    refine JJ.iconst (v := 0) hX dX1_isIn_13 (by decide) ?_
    subst h
    exact JJ.zret hX hM (by decide) dX1_isIn_14
  · replace h := ipos c1 h
    refine JJ.iconst (v := 1) hX dX1_isIn_9 (by decide) ?_
    refine JJ.goto (tgt := 14) hX dX1_isIn_10 (by decide) ?_
    subst h
    exact JJ.zret hX hM (by decide) dX1_isIn_14
set_option maxRecDepth 100000 in
theorem ct_Ways_stepsOfRound (p1 : Int32) (p2 : Int32) (σ : ST) (res : Int32) (h : f_Ways_stepsOfRound p1 p2 σ = res) : Ct 1 yX4_stepsOfRound cX4_stepsOfRound 3 (some .int) (fun ad => [.int p2, .int p1, .ref (ad 7)]) σ (some (.int res)) σ := by
  refine Ct.of (ls := fun ad => [(0, .ref (ad 7)), (1, .int p1), (2, .int p2)]) (by decide +kernel) (fun ad => Nat.le_of_ble_eq_true rfl) (fun ad => rfl) (fun X hX hM => ?_)
  replace hX : Ok X RX4 cX4_stepsOfRound 3 1 := hX
  unfold f_Ways_stepsOfRound at h
  refine JJ.aload_n hX 0 dX4_stepsOfRound_0 rfl ?_
  refine fg_X4_27_7 hX dX4_stepsOfRound_1 ?_
  refine JJ.iload_n hX 1 dX4_stepsOfRound_4 rfl ?_
  refine JJ.bipush (v := 6) hX dX4_stepsOfRound_5 (by decide) ?_
  refine JJ.imul hX dX4_stepsOfRound_7 ?_
  refine JJ.iload_n hX 2 dX4_stepsOfRound_8 rfl ?_
  refine JJ.iadd hX dX4_stepsOfRound_9 ?_
  refine JJ.callSNi hX (ct_cell 16 384 (by decide) (fun _ _ _ => rfl) _ _ _ rfl) cal_yX5_cell cas_yX5_cell lm_RX4_67 rfl rfl (Nat.le_of_ble_eq_true rfl) ⟨by decide, by decide⟩ dX4_stepsOfRound_10 ?_
  subst h
  exact JJ.iret hX hM dX4_stepsOfRound_13
set_option maxRecDepth 100000 in
theorem lp_Ways_leastOfRound_7 {X : CX} {σ : ST} (hX : Ok X RX4 cX4_leastOfRound 5 2) : ∀ (n : Nat) (x1 : Int32) (x2 : Int32) (x3 : Int32) (x4 : Int32) (e : (Int32)), f_Ways_leastOfRound_L7 n x1 x2 x3 x4 σ = some e → JJ X 62 [(3, .int e)] [] σ → JJ X 7 [(0, .ref (xad X 7)), (1, .int x1), (2, .int x2), (3, .int x3), (4, .int x4)] [] σ := by
  intro n
  induction n with
  | zero =>
    intro x1 x2 x3 x4 e h
    rw [f_Ways_leastOfRound_L7] at h
    cases h
  | succ n ih =>
    intro x1 x2 x3 x4 e h K
    rw [f_Ways_leastOfRound_L7] at h
    refine JJ.iload hX 4 dX4_leastOfRound_7 rfl ?_
    refine JJ.aload_n hX 0 dX4_leastOfRound_9 rfl ?_
    refine fg_X4_31_7 hX dX4_leastOfRound_10 ?_
    refine fg_X4_71_3 hX dX4_leastOfRound_13 ?_
    refine JJ.icmp_ge (tgt := 62) hX dX4_leastOfRound_16 (by decide) (fun c1 => ?_) (fun c1 => ?_)
    · replace h := ipos c1 h
      obtain rfl := Option.some.inj h
      exact JJ.sub [3] rfl K
    · replace h := ineg c1 h
      refine JJ.iload_n hX 1 dX4_leastOfRound_19 rfl ?_
      refine JJ.iload hX 4 dX4_leastOfRound_20 rfl ?_
      refine JJ.callSi hX (ct_Mine_isIn _ _ _ _ rfl) cal_yX1_isIn cas_yX1_isIn lm_RX4_100 rfl rfl (Nat.le_of_ble_eq_true rfl) ⟨by decide, by decide⟩ dX4_leastOfRound_22 ?_
      refine JJ.if_ne (tgt := 56) hX dX4_leastOfRound_25 (by decide) (fun c2 => ?_) (fun c2 => ?_)
      · replace h := ineg c2 h
        refine JJ.iinc (v := 1) (ls' := [(0, .ref (xad X 7)), (1, .int x1), (2, .int x2), (3, .int x3), (4, .int (x4 + (1 : Int32)))]) hX 4 dX4_leastOfRound_56 rfl (by decide) (by decide) rfl rfl ?_
        refine JJ.goto (tgt := 7) hX dX4_leastOfRound_59 (by decide) ?_
        exact ih _ _ _ _ _ h K
      · replace h := ipos c2 h
        refine JJ.iload_n hX 3 dX4_leastOfRound_28 rfl ?_
        refine JJ.aload_n hX 0 dX4_leastOfRound_29 rfl ?_
        refine fg_X4_12_7 hX dX4_leastOfRound_30 ?_
        refine JJ.iload_n hX 2 dX4_leastOfRound_33 rfl ?_
        refine JJ.iload hX 4 dX4_leastOfRound_34 rfl ?_
        refine JJ.callVi hX (ct_Table_get_8 _ _ _ _ rfl) cal_yX3_get cav_yX3_get lm_RX4_45 rfl rfl rfl (Rcv.obj hX (ci := 3) rfl rfl) (Nat.le_of_ble_eq_true rfl) ⟨by decide, by decide⟩ dX4_leastOfRound_36 ?_
        refine JJ.aload_n hX 0 dX4_leastOfRound_39 rfl ?_
        refine JJ.iload_n hX 1 dX4_leastOfRound_40 rfl ?_
        refine JJ.iconst (v := 1) hX dX4_leastOfRound_41 (by decide) ?_
        refine JJ.iload hX 4 dX4_leastOfRound_42 rfl ?_
        refine JJ.ishl hX dX4_leastOfRound_44 ?_
        refine JJ.ior hX dX4_leastOfRound_45 ?_
        refine JJ.iload hX 4 dX4_leastOfRound_46 rfl ?_
        refine JJ.callVi hX (ct_Ways_stepsOfRound _ _ _ _ rfl) cal_yX4_stepsOfRound cav_yX4_stepsOfRound lm_RX4_61 rfl rfl rfl (Rcv.obj hX (ci := 4) rfl rfl) (Nat.le_of_ble_eq_true rfl) ⟨by decide, by decide⟩ dX4_leastOfRound_48 ?_
        refine JJ.iadd hX dX4_leastOfRound_51 ?_
        refine JJ.mmin hX lm_RX4_104 cas_math_min ini_math cod_math_min (Nat.le_of_ble_eq_true rfl) (by decide) dX4_leastOfRound_52 ?_
        refine JJ.istore_n (ls' := [(0, .ref (xad X 7)), (1, .int x1), (2, .int x2), (3, .int (if ((f_Table_get_8 x2 x4 σ) + (f_Ways_stepsOfRound (x1 ||| ((1 : Int32) <<< (x4 &&& 31))) x4 σ)) < x3 then ((f_Table_get_8 x2 x4 σ) + (f_Ways_stepsOfRound (x1 ||| ((1 : Int32) <<< (x4 &&& 31))) x4 σ)) else x3)), (4, .int x4)]) hX dX4_leastOfRound_55 (by decide) rfl rfl ?_
        refine JJ.iinc (v := 1) (ls' := [(0, .ref (xad X 7)), (1, .int x1), (2, .int x2), (3, .int (if ((f_Table_get_8 x2 x4 σ) + (f_Ways_stepsOfRound (x1 ||| ((1 : Int32) <<< (x4 &&& 31))) x4 σ)) < x3 then ((f_Table_get_8 x2 x4 σ) + (f_Ways_stepsOfRound (x1 ||| ((1 : Int32) <<< (x4 &&& 31))) x4 σ)) else x3)), (4, .int (x4 + (1 : Int32)))]) hX 4 dX4_leastOfRound_56 rfl (by decide) (by decide) rfl rfl ?_
        refine JJ.goto (tgt := 7) hX dX4_leastOfRound_59 (by decide) ?_
        exact ih _ _ _ _ _ h K
set_option maxRecDepth 100000 in
theorem ct_Ways_leastOfRound (p1 : Int32) (p2 : Int32) (σ : ST) (res : Int32) (h : f_Ways_leastOfRound p1 p2 σ = some res) : Ct 2 yX4_leastOfRound cX4_leastOfRound 5 (some .int) (fun ad => [.int p2, .int p1, .ref (ad 7)]) σ (some (.int res)) σ := by
  refine Ct.of (ls := fun ad => [(0, .ref (ad 7)), (1, .int p1), (2, .int p2)]) (by decide +kernel) (fun ad => Nat.le_of_ble_eq_true rfl) (fun ad => rfl) (fun X hX hM => ?_)
  replace hX : Ok X RX4 cX4_leastOfRound 5 2 := hX
  unfold f_Ways_leastOfRound at h
  refine JJ.sipush (v := 1000) hX dX4_leastOfRound_0 (by decide) ?_
  refine JJ.istore_n (ls' := [(0, .ref (xad X 7)), (1, .int p1), (2, .int p2), (3, .int (1000 : Int32))]) hX dX4_leastOfRound_3 (by decide) rfl rfl ?_
  refine JJ.iconst (v := 0) hX dX4_leastOfRound_4 (by decide) ?_
  refine JJ.istore (ls' := [(0, .ref (xad X 7)), (1, .int p1), (2, .int p2), (3, .int (1000 : Int32)), (4, .int (0 : Int32))]) hX dX4_leastOfRound_5 (by decide) rfl rfl ?_
  obtain ⟨e3, h3, h⟩ := bnd h
  refine lp_Ways_leastOfRound_7 hX 400 _ _ _ _ _ h3 ?_
  refine JJ.iload_n hX 0 dX4_leastOfRound_62 rfl ?_
  obtain rfl := Option.some.inj h
  exact JJ.iret hX hM dX4_leastOfRound_63
set_option maxRecDepth 100000 in
theorem lp_Ways_workOutRounds_20 {X : CX} (hX : Ok X RX4 cX4_workOutRounds 5 3) : ∀ (n : Nat) (x1 : Int32) (x2 : Int32) (x3 : Int32) (σ : ST) (e : (ST)), f_Ways_workOutRounds_L20 n x1 x2 x3 σ = some e → JJ X 69 [(0, .ref (xad X 7)), (1, .int x1), (2, .int x2)] [] e → JJ X 20 [(0, .ref (xad X 7)), (1, .int x1), (2, .int x2), (3, .int x3)] [] σ := by
  intro n
  induction n with
  | zero =>
    intro x1 x2 x3 σ e h
    rw [f_Ways_workOutRounds_L20] at h
    cases h
  | succ n ih =>
    intro x1 x2 x3 σ e h K
    rw [f_Ways_workOutRounds_L20] at h
    refine JJ.iload_n hX 3 dX4_workOutRounds_20 rfl ?_
    refine JJ.aload_n hX 0 dX4_workOutRounds_21 rfl ?_
    refine fg_X4_31_7 hX dX4_workOutRounds_22 ?_
    refine fg_X4_71_3 hX dX4_workOutRounds_25 ?_
    refine JJ.icmp_ge (tgt := 69) hX dX4_workOutRounds_28 (by decide) (fun c2 => ?_) (fun c2 => ?_)
    · replace h := ipos c2 h
      obtain rfl := Option.some.inj h
      exact JJ.sub [0, 1, 2] rfl K
    · replace h := ineg c2 h
      refine JJ.iload_n hX 2 dX4_workOutRounds_31 rfl ?_
      refine JJ.iload_n hX 1 dX4_workOutRounds_32 rfl ?_
      refine JJ.icmp_ne (tgt := 40) hX dX4_workOutRounds_33 (by decide) (fun c3 => ?_) (fun c3 => ?_)
      · replace h := ineg c3 h
        refine JJ.aload_n hX 0 dX4_workOutRounds_40 rfl ?_
        refine JJ.iload_n hX 2 dX4_workOutRounds_41 rfl ?_
        refine JJ.iload_n hX 3 dX4_workOutRounds_42 rfl ?_
        obtain ⟨q4, h4, h⟩ := bnd h
        refine JJ.callVi hX (ct_Ways_leastOfRound _ _ _ _ h4) cal_yX4_leastOfRound cav_yX4_leastOfRound lm_RX4_93 rfl rfl rfl (Rcv.obj hX (ci := 4) rfl rfl) (Nat.le_of_ble_eq_true rfl) ⟨by decide, by decide⟩ dX4_workOutRounds_43 ?_
        refine JJ.istore (ls' := [(0, .ref (xad X 7)), (1, .int x1), (2, .int x2), (3, .int x3), (4, .int q4)]) hX dX4_workOutRounds_46 (by decide) rfl rfl ?_
        refine JJ.aload_n hX 0 dX4_workOutRounds_48 rfl ?_
        refine fg_X4_27_7 hX dX4_workOutRounds_49 ?_
        refine JJ.iload_n hX 2 dX4_workOutRounds_52 rfl ?_
        refine JJ.bipush (v := 6) hX dX4_workOutRounds_53 (by decide) ?_
        refine JJ.imul hX dX4_workOutRounds_55 ?_
        refine JJ.iload_n hX 3 dX4_workOutRounds_56 rfl ?_
        refine JJ.iadd hX dX4_workOutRounds_57 ?_
        refine JJ.iload hX 4 dX4_workOutRounds_58 rfl ?_
        refine JJ.callSNv hX (ct_put 16 384 (by decide) (fun _ _ _ => rfl) (fun _ _ _ _ _ => rfl) _ _ _ _ rfl) cal_yX5_put cas_yX5_put lm_RX4_96 rfl rfl (Nat.le_of_ble_eq_true rfl) ⟨by decide, by decide⟩ dX4_workOutRounds_60 ?_
        refine JJ.iinc (v := 1) (ls' := [(0, .ref (xad X 7)), (1, .int x1), (2, .int x2), (3, .int (x3 + (1 : Int32))), (4, .int q4)]) hX 3 dX4_workOutRounds_63 rfl (by decide) (by decide) rfl rfl ?_
        refine JJ.goto (tgt := 20) hX dX4_workOutRounds_66 (by decide) ?_
        refine JJ.sub (ls' := [(0, .ref (xad X 7)), (1, .int x1), (2, .int x2), (3, .int (x3 + (1 : Int32)))]) [0, 1, 2, 3] rfl ?_
        exact ih _ _ _ _ _ h K
      · replace h := ipos c3 h
        refine JJ.iconst (v := 0) hX dX4_workOutRounds_36 (by decide) ?_
        refine JJ.goto (tgt := 46) hX dX4_workOutRounds_37 (by decide) ?_
        refine JJ.istore (ls' := [(0, .ref (xad X 7)), (1, .int x1), (2, .int x2), (3, .int x3), (4, .int (0 : Int32))]) hX dX4_workOutRounds_46 (by decide) rfl rfl ?_
        refine JJ.aload_n hX 0 dX4_workOutRounds_48 rfl ?_
        refine fg_X4_27_7 hX dX4_workOutRounds_49 ?_
        refine JJ.iload_n hX 2 dX4_workOutRounds_52 rfl ?_
        refine JJ.bipush (v := 6) hX dX4_workOutRounds_53 (by decide) ?_
        refine JJ.imul hX dX4_workOutRounds_55 ?_
        refine JJ.iload_n hX 3 dX4_workOutRounds_56 rfl ?_
        refine JJ.iadd hX dX4_workOutRounds_57 ?_
        refine JJ.iload hX 4 dX4_workOutRounds_58 rfl ?_
        refine JJ.callSNv hX (ct_put 16 384 (by decide) (fun _ _ _ => rfl) (fun _ _ _ _ _ => rfl) _ _ _ _ rfl) cal_yX5_put cas_yX5_put lm_RX4_96 rfl rfl (Nat.le_of_ble_eq_true rfl) ⟨by decide, by decide⟩ dX4_workOutRounds_60 ?_
        refine JJ.iinc (v := 1) (ls' := [(0, .ref (xad X 7)), (1, .int x1), (2, .int x2), (3, .int (x3 + (1 : Int32))), (4, .int (0 : Int32))]) hX 3 dX4_workOutRounds_63 rfl (by decide) (by decide) rfl rfl ?_
        refine JJ.goto (tgt := 20) hX dX4_workOutRounds_66 (by decide) ?_
        refine JJ.sub (ls' := [(0, .ref (xad X 7)), (1, .int x1), (2, .int x2), (3, .int (x3 + (1 : Int32)))]) [0, 1, 2, 3] rfl ?_
        exact ih _ _ _ _ _ h K
set_option maxRecDepth 100000 in
theorem lp_Ways_workOutRounds_14 {X : CX} (hX : Ok X RX4 cX4_workOutRounds 5 3) : ∀ (n : Nat) (x1 : Int32) (x2 : Int32) (σ : ST) (e : (ST)), f_Ways_workOutRounds_L14 n x1 x2 σ = some e → JJ X 75 [] [] e → JJ X 14 [(0, .ref (xad X 7)), (1, .int x1), (2, .int x2)] [] σ := by
  intro n
  induction n with
  | zero =>
    intro x1 x2 σ e h
    rw [f_Ways_workOutRounds_L14] at h
    cases h
  | succ n ih =>
    intro x1 x2 σ e h K
    rw [f_Ways_workOutRounds_L14] at h
    refine JJ.iload_n hX 2 dX4_workOutRounds_14 rfl ?_
    refine JJ.if_le (tgt := 75) hX dX4_workOutRounds_15 (by decide) (fun c1 => ?_) (fun c1 => ?_)
    · replace h := ipos c1 h
      obtain rfl := Option.some.inj h
      exact JJ.sub [] rfl K
    · replace h := ineg c1 h
      refine JJ.iconst (v := 0) hX dX4_workOutRounds_18 (by decide) ?_
      refine JJ.istore_n (ls' := [(0, .ref (xad X 7)), (1, .int x1), (2, .int x2), (3, .int (0 : Int32))]) hX dX4_workOutRounds_19 (by decide) rfl rfl ?_
      obtain ⟨e5, h5, h⟩ := bnd h
      refine lp_Ways_workOutRounds_20 hX 400 _ _ _ _ _ h5 ?_
      refine JJ.iinc (v := -1) (ls' := [(0, .ref (xad X 7)), (1, .int x1), (2, .int (x2 + (-1 : Int32)))]) hX 2 dX4_workOutRounds_69 rfl (by decide) (by decide) rfl rfl ?_
      refine JJ.goto (tgt := 14) hX dX4_workOutRounds_72 (by decide) ?_
      exact ih _ _ _ _ h K
set_option maxRecDepth 100000 in
theorem ct_Ways_workOutRounds (σ : ST) (res : ST) (h : f_Ways_workOutRounds σ = some res) : Ct 3 yX4_workOutRounds cX4_workOutRounds 5 none (fun ad => [.ref (ad 7)]) σ none res := by
  refine Ct.of (ls := fun ad => [(0, .ref (ad 7))]) (by decide +kernel) (fun ad => Nat.le_of_ble_eq_true rfl) (fun ad => rfl) (fun X hX hM => ?_)
  replace hX : Ok X RX4 cX4_workOutRounds 5 3 := hX
  unfold f_Ways_workOutRounds at h
  refine JJ.iconst (v := 1) hX dX4_workOutRounds_0 (by decide) ?_
  refine JJ.aload_n hX 0 dX4_workOutRounds_1 rfl ?_
  refine fg_X4_31_7 hX dX4_workOutRounds_2 ?_
  refine fg_X4_71_3 hX dX4_workOutRounds_5 ?_
  refine JJ.ishl hX dX4_workOutRounds_8 ?_
  refine JJ.iconst (v := 1) hX dX4_workOutRounds_9 (by decide) ?_
  refine JJ.isub hX dX4_workOutRounds_10 ?_
  refine JJ.istore_n (ls' := [(0, .ref (xad X 7)), (1, .int (((1 : Int32) <<< ((gI σ 300) &&& 31)) - (1 : Int32)))]) hX dX4_workOutRounds_11 (by decide) rfl rfl ?_
  refine JJ.iload_n hX 1 dX4_workOutRounds_12 rfl ?_
  refine JJ.istore_n (ls' := [(0, .ref (xad X 7)), (1, .int (((1 : Int32) <<< ((gI σ 300) &&& 31)) - (1 : Int32))), (2, .int (((1 : Int32) <<< ((gI σ 300) &&& 31)) - (1 : Int32)))]) hX dX4_workOutRounds_13 (by decide) rfl rfl ?_
  obtain ⟨e6, h6, h⟩ := bnd h
  refine lp_Ways_workOutRounds_14 hX 400 _ _ _ _ h6 ?_
  obtain rfl := Option.some.inj h
  exact JJ.vret hX hM dX4_workOutRounds_75
set_option maxRecDepth 100000 in
theorem lp_Ways_workOut_8 {X : CX} (hX : Ok X RX4 cX4_workOut 3 5) : ∀ (n : Nat) (x1 : Int32) (x2 : Int32) (σ : ST) (e : (ST)), f_Ways_workOut_L8 n x1 x2 σ = some e → JJ X 29 [(0, .ref (xad X 7))] [] e → JJ X 8 [(0, .ref (xad X 7)), (1, .int x1), (2, .int x2)] [] σ := by
  intro n
  induction n with
  | zero =>
    intro x1 x2 σ e h
    rw [f_Ways_workOut_L8] at h
    cases h
  | succ n ih =>
    intro x1 x2 σ e h K
    rw [f_Ways_workOut_L8] at h
    refine JJ.iload_n hX 2 dX4_workOut_8 rfl ?_
    refine JJ.bipush (v := 36) hX dX4_workOut_9 (by decide) ?_
    refine JJ.icmp_ge (tgt := 29) hX dX4_workOut_11 (by decide) (fun c2 => ?_) (fun c2 => ?_)
    · replace h := ipos c2 h
      obtain rfl := Option.some.inj h
      exact JJ.sub [0] rfl K
    · replace h := ineg c2 h
      refine JJ.iload_n hX 1 dX4_workOut_14 rfl ?_
      refine JJ.if_eq (tgt := 29) hX dX4_workOut_15 (by decide) (fun c3 => ?_) (fun c3 => ?_)
      · replace h := ipos c3 h
        obtain rfl := Option.some.inj h
        exact JJ.sub [0] rfl K
      · replace h := ineg c3 h
        refine JJ.aload_n hX 0 dX4_workOut_18 rfl ?_
        obtain ⟨q4, h4, h⟩ := bnd h
        refine JJ.callVi hX (ct_Ways_sweepPairs  _ _ h4) cal_yX4_sweepPairs cav_yX4_sweepPairs lm_RX4_38 rfl rfl rfl (Rcv.obj hX (ci := 4) rfl rfl) (Nat.le_of_ble_eq_true rfl) ⟨by decide, by decide⟩ dX4_workOut_19 ?_
        refine JJ.istore_n (ls' := [(0, .ref (xad X 7)), (1, .int q4.1), (2, .int x2)]) hX dX4_workOut_22 (by decide) rfl rfl ?_
        refine JJ.iinc (v := 1) (ls' := [(0, .ref (xad X 7)), (1, .int q4.1), (2, .int (x2 + (1 : Int32)))]) hX 2 dX4_workOut_23 rfl (by decide) (by decide) rfl rfl ?_
        refine JJ.goto (tgt := 8) hX dX4_workOut_26 (by decide) ?_
        exact ih _ _ _ _ h K
set_option maxRecDepth 100000 in
theorem ct_Ways_workOut (σ : ST) (res : ST) (h : f_Ways_workOut σ = some res) : Ct 5 yX4_workOut cX4_workOut 3 none (fun ad => [.ref (ad 7)]) σ none res := by
  refine Ct.of (ls := fun ad => [(0, .ref (ad 7))]) (by decide +kernel) (fun ad => Nat.le_of_ble_eq_true rfl) (fun ad => rfl) (fun X hX hM => ?_)
  replace hX : Ok X RX4 cX4_workOut 3 5 := hX
  unfold f_Ways_workOut at h
  refine JJ.aload_n hX 0 dX4_workOut_0 rfl ?_
  obtain ⟨q1, h1, h⟩ := bnd h
  refine JJ.callVv hX (ct_Ways_start  _ _ h1) cal_yX4_start cav_yX4_start lm_RX4_35 rfl rfl rfl (Rcv.obj hX (ci := 4) rfl rfl) (Nat.le_of_ble_eq_true rfl) ⟨by decide, by decide⟩ dX4_workOut_1 ?_
  refine JJ.iconst (v := 1) hX dX4_workOut_4 (by decide) ?_
  refine JJ.istore_n (ls' := [(0, .ref (xad X 7)), (1, .int (1 : Int32))]) hX dX4_workOut_5 (by decide) rfl rfl ?_
  refine JJ.iconst (v := 0) hX dX4_workOut_6 (by decide) ?_
  refine JJ.istore_n (ls' := [(0, .ref (xad X 7)), (1, .int (1 : Int32)), (2, .int (0 : Int32))]) hX dX4_workOut_7 (by decide) rfl rfl ?_
  obtain ⟨e5, h5, h⟩ := bnd h
  refine lp_Ways_workOut_8 hX 400 _ _ _ _ h5 ?_
  refine JJ.aload_n hX 0 dX4_workOut_29 rfl ?_
  obtain ⟨q6, h6, h⟩ := bnd h
  refine JJ.callVv hX (ct_Ways_workOutRounds  _ _ h6) cal_yX4_workOutRounds cav_yX4_workOutRounds lm_RX4_42 rfl rfl rfl (Rcv.obj hX (ci := 4) rfl rfl) (Nat.le_of_ble_eq_true rfl) ⟨by decide, by decide⟩ dX4_workOut_30 ?_
  obtain rfl := Option.some.inj h
  exact JJ.vret hX hM dX4_workOut_33
set_option maxRecDepth 100000 in
theorem ct_Camp_clear_17 (σ : ST) (res : ST) (h : f_Camp_clear_17 σ = res) : Ct 0 yX0_clear cX0_clear 1 none (fun ad => [.ref (ad 17)]) σ none res := by
  refine Ct.of (ls := fun ad => [(0, .ref (ad 17))]) (by decide +kernel) (fun ad => Nat.le_of_ble_eq_true rfl) (fun ad => rfl) (fun X hX hM => ?_)
  replace hX : Ok X RX0 cX0_clear 1 0 := hX
  unfold f_Camp_clear_17 at h
  refine JJ.aload_n hX 0 dX0_clear_0 rfl ?_
  refine JJ.iconst (v := 0) hX dX0_clear_1 (by decide) ?_
  refine fp_X0_30_17 hX dX0_clear_2 ?_
  refine JJ.aload_n hX 0 dX0_clear_5 rfl ?_
  refine JJ.iconst (v := 0) hX dX0_clear_6 (by decide) ?_
  refine fp_X0_34_17 hX dX0_clear_7 ?_
  subst h
  exact JJ.vret hX hM dX0_clear_10
set_option maxRecDepth 100000 in
theorem ct_LT_mine (σ : ST) (res : Int32 × ST) (h : f_LT_mine σ = some res) : Ct 9 yX5_mine cX5_mine 1 (some .int) (fun ad => [.ref (ad 0)]) σ (some (.int res.1)) res.2 := by
  refine Ct.of (ls := fun ad => [(0, .ref (ad 0))]) (by decide +kernel) (fun ad => Nat.le_of_ble_eq_true rfl) (fun ad => rfl) (fun X hX hM => ?_)
  replace hX : Ok X RX5 cX5_mine 1 9 := hX
  unfold f_LT_mine at h
  refine JJ.aload_n hX 0 dX5_mine_0 rfl ?_
  refine fg_X5_12_0 hX dX5_mine_1 ?_
  obtain ⟨q1, h1, h⟩ := bnd h
  refine JJ.callVi hX (ct_Page_isMine  _ _ h1) cal_yX2_isMine cav_yX2_isMine lm_RX5_54 rfl rfl rfl (Rcv.obj hX (ci := 2) rfl rfl) (Nat.le_of_ble_eq_true rfl) ⟨by decide, by decide⟩ dX5_mine_4 ?_
  refine JJ.if_ne (tgt := 13) hX dX5_mine_7 (by decide) (fun c2 => ?_) (fun c2 => ?_)
  · replace h := ineg c2 h
    refine JJ.aload_n hX 0 dX5_mine_13 rfl ?_
    refine fg_X5_19_0 hX dX5_mine_14 ?_
    refine JJ.aload_n hX 0 dX5_mine_17 rfl ?_
    refine fg_X5_12_0 hX dX5_mine_18 ?_
    obtain ⟨q3, h3, h⟩ := bnd h
    refine JJ.callVv hX (ct_Mine_readFrom_1  _ _ h3) cal_yX1_readFrom cav_yX1_readFrom lm_RX5_58 rfl rfl rfl (Rcv.obj hX (ci := 1) rfl rfl) (Nat.le_of_ble_eq_true rfl) ⟨by decide, by decide⟩ dX5_mine_21 ?_
    refine JJ.aload_n hX 0 dX5_mine_24 rfl ?_
    refine fg_X5_28_0 hX dX5_mine_25 ?_
    obtain ⟨q4, h4, h⟩ := bnd h
    refine JJ.callVv hX (ct_Ways_workOut  _ _ h4) cal_yX4_workOut cav_yX4_workOut lm_RX5_62 rfl rfl rfl (Rcv.obj hX (ci := 4) rfl rfl) (Nat.le_of_ble_eq_true rfl) ⟨by decide, by decide⟩ dX5_mine_28 ?_
    refine JJ.aload_n hX 0 dX5_mine_31 rfl ?_
    refine fg_X5_35_0 hX dX5_mine_32 ?_
    refine JJ.callVv hX (ct_Camp_clear_17  _ _ rfl) cal_yX0_clear cav_yX0_clear lm_RX5_65 rfl rfl rfl (Rcv.obj hX (ci := 0) rfl rfl) (Nat.le_of_ble_eq_true rfl) ⟨by decide, by decide⟩ dX5_mine_35 ?_
    refine JJ.aload_n hX 0 dX5_mine_38 rfl ?_
    refine JJ.iconst (v := 0) hX dX5_mine_39 (by decide) ?_
    refine fp_X5_68_0 hX (by decide) (by decide) dX5_mine_40 ?_
    refine JJ.aload_n hX 0 dX5_mine_43 rfl ?_
    refine JJ.dup hX dX5_mine_44 rfl ?_
    refine fg_X5_72_0 hX dX5_mine_45 ?_
    refine JJ.iconst (v := 1) hX dX5_mine_48 (by decide) ?_
    refine JJ.iadd hX dX5_mine_49 ?_
    refine fp_X5_72_0 hX dX5_mine_50 ?_
    refine JJ.aload_n hX 0 dX5_mine_53 rfl ?_
    refine fg_X5_12_0 hX dX5_mine_54 ?_
    refine JJ.iconst (v := 0) hX dX5_mine_57 (by decide) ?_
    refine fp_X5_42_1 hX dX5_mine_58 ?_
    refine JJ.aload_n hX 0 dX5_mine_61 rfl ?_
    refine fg_X5_19_0 hX dX5_mine_62 ?_
    refine fg_X5_75_3 hX dX5_mine_65 ?_
    obtain rfl := Option.some.inj h
    exact JJ.iret hX hM dX5_mine_68
  · replace h := ipos c2 h
    refine JJ.bipush (v := -103) hX dX5_mine_10 (by decide) ?_
    obtain rfl := Option.some.inj h
    exact JJ.iret hX hM dX5_mine_12
set_option maxRecDepth 100000 in
theorem lp_M_mine_32 {X : CX} (hX : Ok X RX6 cX6_mine 3 3) : ∀ (n : Nat) (x1 : Int32) (σ : ST) (e : (ST)), f_M_mine_L32 n x1 σ = some e → JJ X 120 [(0, .ref (xad X 31))] [] e → JJ X 32 [(0, .ref (xad X 31)), (1, .int x1)] [] σ := by
  intro n
  induction n with
  | zero =>
    intro x1 σ e h
    rw [f_M_mine_L32] at h
    cases h
  | succ n ih =>
    intro x1 σ e h K
    rw [f_M_mine_L32] at h
    refine JJ.iload_n hX 1 dX6_mine_32 rfl ?_
    refine JJ.aload_n hX 0 dX6_mine_33 rfl ?_
    refine fg_X6_84_31 hX dX6_mine_34 ?_
    refine JJ.icmp_ge (tgt := 120) hX dX6_mine_37 (by decide) (fun c4 => ?_) (fun c4 => ?_)
    · replace h := ipos c4 h
      obtain rfl := Option.some.inj h
      exact JJ.sub [0] rfl K
    · replace h := ineg c4 h
      refine JJ.aload_n hX 0 dX6_mine_40 rfl ?_
      refine fg_X6_13_31 hX dX6_mine_41 ?_
      refine JJ.iconst (v := 3) hX dX6_mine_44 (by decide) ?_
      refine JJ.iload_n hX 1 dX6_mine_45 rfl ?_
      refine JJ.imul hX dX6_mine_46 ?_
      obtain ⟨c5, h⟩ := gte h
      refine ald_33 hX c5 dX6_mine_47 ?_
      refine JJ.iconst (v := 2) hX dX6_mine_48 (by decide) ?_
      refine JJ.icmp_ne (tgt := 56) hX dX6_mine_49 (by decide) (fun c6 => ?_) (fun c6 => ?_)
      · replace h := ineg c6 h
        refine JJ.iconst (v := 0) hX dX6_mine_56 (by decide) ?_
        refine JJ.istore_n (ls' := [(0, .ref (xad X 31)), (1, .int x1), (2, .int (0 : Int32))]) hX dX6_mine_57 (by decide) rfl rfl ?_
        refine JJ.aload_n hX 0 dX6_mine_58 rfl ?_
        refine fg_X6_16_31 hX dX6_mine_59 ?_
        refine JJ.iload_n hX 1 dX6_mine_62 rfl ?_
        refine JJ.aload_n hX 0 dX6_mine_63 rfl ?_
        refine fg_X6_13_31 hX dX6_mine_64 ?_
        refine JJ.iconst (v := 3) hX dX6_mine_67 (by decide) ?_
        refine JJ.iload_n hX 1 dX6_mine_68 rfl ?_
        refine JJ.imul hX dX6_mine_69 ?_
        obtain ⟨c7, h⟩ := gte h
        refine ald_33 hX c7 dX6_mine_70 ?_
        obtain ⟨c8, h⟩ := gte h
        refine ast_34 hX c8 dX6_mine_71 ?_
        refine JJ.aload_n hX 0 dX6_mine_72 rfl ?_
        refine fg_X6_19_31 hX dX6_mine_73 ?_
        refine JJ.iconst (v := 2) hX dX6_mine_76 (by decide) ?_
        refine JJ.iload_n hX 1 dX6_mine_77 rfl ?_
        refine JJ.imul hX dX6_mine_78 ?_
        refine JJ.iload_n hX 2 dX6_mine_79 rfl ?_
        refine JJ.iadd hX dX6_mine_80 ?_
        refine JJ.aload_n hX 0 dX6_mine_81 rfl ?_
        refine fg_X6_13_31 hX dX6_mine_82 ?_
        refine JJ.iconst (v := 3) hX dX6_mine_85 (by decide) ?_
        refine JJ.iload_n hX 1 dX6_mine_86 rfl ?_
        refine JJ.imul hX dX6_mine_87 ?_
        refine JJ.iconst (v := 1) hX dX6_mine_88 (by decide) ?_
        refine JJ.iadd hX dX6_mine_89 ?_
        obtain ⟨c9, h⟩ := gte h
        refine ald_33 hX c9 dX6_mine_90 ?_
        obtain ⟨c10, h⟩ := gte h
        refine ast_35 hX c10 dX6_mine_91 ?_
        refine JJ.aload_n hX 0 dX6_mine_92 rfl ?_
        refine fg_X6_19_31 hX dX6_mine_93 ?_
        refine JJ.iconst (v := 2) hX dX6_mine_96 (by decide) ?_
        refine JJ.iload_n hX 1 dX6_mine_97 rfl ?_
        refine JJ.imul hX dX6_mine_98 ?_
        refine JJ.iconst (v := 1) hX dX6_mine_99 (by decide) ?_
        refine JJ.iadd hX dX6_mine_100 ?_
        refine JJ.iload_n hX 2 dX6_mine_101 rfl ?_
        refine JJ.isub hX dX6_mine_102 ?_
        refine JJ.aload_n hX 0 dX6_mine_103 rfl ?_
        refine fg_X6_13_31 hX dX6_mine_104 ?_
        refine JJ.iconst (v := 3) hX dX6_mine_107 (by decide) ?_
        refine JJ.iload_n hX 1 dX6_mine_108 rfl ?_
        refine JJ.imul hX dX6_mine_109 ?_
        refine JJ.iconst (v := 2) hX dX6_mine_110 (by decide) ?_
        refine JJ.iadd hX dX6_mine_111 ?_
        obtain ⟨c11, h⟩ := gte h
        refine ald_33 hX c11 dX6_mine_112 ?_
        obtain ⟨c12, h⟩ := gte h
        refine ast_35 hX c12 dX6_mine_113 ?_
        refine JJ.iinc (v := 1) (ls' := [(0, .ref (xad X 31)), (1, .int (x1 + (1 : Int32))), (2, .int (0 : Int32))]) hX 1 dX6_mine_114 rfl (by decide) (by decide) rfl rfl ?_
        refine JJ.goto (tgt := 32) hX dX6_mine_117 (by decide) ?_
        refine JJ.sub (ls' := [(0, .ref (xad X 31)), (1, .int (x1 + (1 : Int32)))]) [0, 1] rfl ?_
        exact ih _ _ _ h K
      · replace h := ipos c6 h
        refine JJ.iconst (v := 1) hX dX6_mine_52 (by decide) ?_
        refine JJ.goto (tgt := 57) hX dX6_mine_53 (by decide) ?_
        refine JJ.istore_n (ls' := [(0, .ref (xad X 31)), (1, .int x1), (2, .int (1 : Int32))]) hX dX6_mine_57 (by decide) rfl rfl ?_
        refine JJ.aload_n hX 0 dX6_mine_58 rfl ?_
        refine fg_X6_16_31 hX dX6_mine_59 ?_
        refine JJ.iload_n hX 1 dX6_mine_62 rfl ?_
        refine JJ.aload_n hX 0 dX6_mine_63 rfl ?_
        refine fg_X6_13_31 hX dX6_mine_64 ?_
        refine JJ.iconst (v := 3) hX dX6_mine_67 (by decide) ?_
        refine JJ.iload_n hX 1 dX6_mine_68 rfl ?_
        refine JJ.imul hX dX6_mine_69 ?_
        obtain ⟨c13, h⟩ := gte h
        refine ald_33 hX c13 dX6_mine_70 ?_
        obtain ⟨c14, h⟩ := gte h
        refine ast_34 hX c14 dX6_mine_71 ?_
        refine JJ.aload_n hX 0 dX6_mine_72 rfl ?_
        refine fg_X6_19_31 hX dX6_mine_73 ?_
        refine JJ.iconst (v := 2) hX dX6_mine_76 (by decide) ?_
        refine JJ.iload_n hX 1 dX6_mine_77 rfl ?_
        refine JJ.imul hX dX6_mine_78 ?_
        refine JJ.iload_n hX 2 dX6_mine_79 rfl ?_
        refine JJ.iadd hX dX6_mine_80 ?_
        refine JJ.aload_n hX 0 dX6_mine_81 rfl ?_
        refine fg_X6_13_31 hX dX6_mine_82 ?_
        refine JJ.iconst (v := 3) hX dX6_mine_85 (by decide) ?_
        refine JJ.iload_n hX 1 dX6_mine_86 rfl ?_
        refine JJ.imul hX dX6_mine_87 ?_
        refine JJ.iconst (v := 1) hX dX6_mine_88 (by decide) ?_
        refine JJ.iadd hX dX6_mine_89 ?_
        obtain ⟨c15, h⟩ := gte h
        refine ald_33 hX c15 dX6_mine_90 ?_
        obtain ⟨c16, h⟩ := gte h
        refine ast_35 hX c16 dX6_mine_91 ?_
        refine JJ.aload_n hX 0 dX6_mine_92 rfl ?_
        refine fg_X6_19_31 hX dX6_mine_93 ?_
        refine JJ.iconst (v := 2) hX dX6_mine_96 (by decide) ?_
        refine JJ.iload_n hX 1 dX6_mine_97 rfl ?_
        refine JJ.imul hX dX6_mine_98 ?_
        refine JJ.iconst (v := 1) hX dX6_mine_99 (by decide) ?_
        refine JJ.iadd hX dX6_mine_100 ?_
        refine JJ.iload_n hX 2 dX6_mine_101 rfl ?_
        refine JJ.isub hX dX6_mine_102 ?_
        refine JJ.aload_n hX 0 dX6_mine_103 rfl ?_
        refine fg_X6_13_31 hX dX6_mine_104 ?_
        refine JJ.iconst (v := 3) hX dX6_mine_107 (by decide) ?_
        refine JJ.iload_n hX 1 dX6_mine_108 rfl ?_
        refine JJ.imul hX dX6_mine_109 ?_
        refine JJ.iconst (v := 2) hX dX6_mine_110 (by decide) ?_
        refine JJ.iadd hX dX6_mine_111 ?_
        obtain ⟨c17, h⟩ := gte h
        refine ald_33 hX c17 dX6_mine_112 ?_
        obtain ⟨c18, h⟩ := gte h
        refine ast_35 hX c18 dX6_mine_113 ?_
        refine JJ.iinc (v := 1) (ls' := [(0, .ref (xad X 31)), (1, .int (x1 + (1 : Int32))), (2, .int (1 : Int32))]) hX 1 dX6_mine_114 rfl (by decide) (by decide) rfl rfl ?_
        refine JJ.goto (tgt := 32) hX dX6_mine_117 (by decide) ?_
        refine JJ.sub (ls' := [(0, .ref (xad X 31)), (1, .int (x1 + (1 : Int32)))]) [0, 1] rfl ?_
        exact ih _ _ _ h K
set_option maxRecDepth 100000 in
theorem ct_M_mine (σ : ST) (res : Int32 × ST) (h : f_M_mine σ = some res) : Ct 3 yX6_mine cX6_mine 3 (some .int) (fun ad => [.ref (ad 31)]) σ (some (.int res.1)) res.2 := by
  refine Ct.of (ls := fun ad => [(0, .ref (ad 31))]) (by decide +kernel) (fun ad => Nat.le_of_ble_eq_true rfl) (fun ad => rfl) (fun X hX hM => ?_)
  replace hX : Ok X RX6 cX6_mine 3 3 := hX
  unfold f_M_mine at h
  refine JJ.aload_n hX 0 dX6_mine_0 rfl ?_
  obtain ⟨q1, h1, h⟩ := bnd h
  refine JJ.callVi hX (ct_M_faultOf  _ _ h1) cal_yX6_faultOf cav_yX6_faultOf lm_RX6_81 rfl rfl rfl (Rcv.obj hX (ci := 6) rfl rfl) (Nat.le_of_ble_eq_true rfl) ⟨by decide, by decide⟩ dX6_mine_1 ?_
  refine JJ.aload_n hX 0 dX6_mine_4 rfl ?_
  refine fg_X6_53_31 hX dX6_mine_5 ?_
  refine JJ.icmp_lt (tgt := 19) hX dX6_mine_8 (by decide) (fun c2 => ?_) (fun c2 => ?_)
  · replace h := ipos c2 h
    refine JJ.bipush (v := -103) hX dX6_mine_19 (by decide) ?_
    obtain rfl := Option.some.inj h
    exact JJ.iret hX hM dX6_mine_21
  · replace h := ineg c2 h
    refine JJ.aload_n hX 0 dX6_mine_11 rfl ?_
    refine fg_X6_56_31 hX dX6_mine_12 ?_
    refine JJ.iconst (v := 5) hX dX6_mine_15 (by decide) ?_
    refine JJ.icmp_eq (tgt := 22) hX dX6_mine_16 (by decide) (fun c3 => ?_) (fun c3 => ?_)
    · replace h := ipos c3 h
      refine JJ.aload_n hX 0 dX6_mine_22 rfl ?_
      refine JJ.aload_n hX 0 dX6_mine_23 rfl ?_
      refine fg_X6_59_31 hX dX6_mine_24 ?_
      refine fp_X6_84_31 hX dX6_mine_27 ?_
      refine JJ.iconst (v := 0) hX dX6_mine_30 (by decide) ?_
      refine JJ.istore_n (ls' := [(0, .ref (xad X 31)), (1, .int (0 : Int32))]) hX dX6_mine_31 (by decide) rfl rfl ?_
      obtain ⟨e19, h19, h⟩ := bnd h
      refine lp_M_mine_32 hX 400 _ _ _ h19 ?_
      refine JJ.aload_n hX 0 dX6_mine_120 rfl ?_
      refine JJ.aload_n hX 0 dX6_mine_121 rfl ?_
      refine fg_X6_68_31 hX dX6_mine_122 ?_
      refine fp_X6_87_31 hX dX6_mine_125 ?_
      refine JJ.aload_n hX 0 dX6_mine_128 rfl ?_
      refine JJ.iconst (v := 0) hX dX6_mine_129 (by decide) ?_
      refine fp_X6_90_31 hX dX6_mine_130 ?_
      refine JJ.aload_n hX 0 dX6_mine_133 rfl ?_
      refine JJ.iconst (v := 0) hX dX6_mine_134 (by decide) ?_
      refine fp_X6_93_31 hX dX6_mine_135 ?_
      refine JJ.aload_n hX 0 dX6_mine_138 rfl ?_
      refine JJ.dup hX dX6_mine_139 rfl ?_
      refine fg_X6_96_31 hX dX6_mine_140 ?_
      refine JJ.iconst (v := 1) hX dX6_mine_143 (by decide) ?_
      refine JJ.iadd hX dX6_mine_144 ?_
      refine fp_X6_96_31 hX dX6_mine_145 ?_
      refine JJ.aload_n hX 0 dX6_mine_148 rfl ?_
      refine JJ.iconst (v := 0) hX dX6_mine_149 (by decide) ?_
      refine fp_X6_53_31 hX dX6_mine_150 ?_
      refine JJ.aload_n hX 0 dX6_mine_153 rfl ?_
      refine fg_X6_84_31 hX dX6_mine_154 ?_
      obtain rfl := Option.some.inj h
      exact JJ.iret hX hM dX6_mine_157
    · replace h := ineg c3 h
      refine JJ.bipush (v := -103) hX dX6_mine_19 (by decide) ?_
      obtain rfl := Option.some.inj h
      exact JJ.iret hX hM dX6_mine_21
set_option maxRecDepth 100000 in
theorem ct_Mine_has (p1 : Int32) (σ : ST) (res : Int32) (h : f_Mine_has p1 σ = res) : Ct 0 yX1_has cX1_has 2 (some .boolean) (fun ad => [.int p1, .ref (ad 3)]) σ (some (.int res)) σ := by
  refine Ct.of (ls := fun ad => [(0, .ref (ad 3)), (1, .int p1)]) (by decide +kernel) (fun ad => Nat.le_of_ble_eq_true rfl) (fun ad => rfl) (fun X hX hM => ?_)
  replace hX : Ok X RX1 cX1_has 2 0 := hX
  unfold f_Mine_has at h
  refine JJ.iload_n hX 1 dX1_has_0 rfl ?_
  refine JJ.if_lt (tgt := 16) hX dX1_has_1 (by decide) (fun c1 => ?_) (fun c1 => ?_)
  · replace h := ipos c1 h
    refine JJ.iconst (v := 0) hX dX1_has_16 (by decide) ?_
    subst h
    exact JJ.zret hX hM (by decide) dX1_has_17
  · replace h := ineg c1 h
    refine JJ.iload_n hX 1 dX1_has_4 rfl ?_
    refine JJ.aload_n hX 0 dX1_has_5 rfl ?_
    refine fg_X1_27_3 hX dX1_has_6 ?_
    refine JJ.icmp_ge (tgt := 16) hX dX1_has_9 (by decide) (fun c2 => ?_) (fun c2 => ?_)
    · replace h := ipos c2 h
      refine JJ.iconst (v := 0) hX dX1_has_16 (by decide) ?_
      subst h
      exact JJ.zret hX hM (by decide) dX1_has_17
    · replace h := ineg c2 h
      refine JJ.iconst (v := 1) hX dX1_has_12 (by decide) ?_
      refine JJ.goto (tgt := 17) hX dX1_has_13 (by decide) ?_
      subst h
      exact JJ.zret hX hM (by decide) dX1_has_17
set_option maxRecDepth 100000 in
theorem lp_Camp_partiesAt_17_4 {X : CX} {σ : ST} (hX : Ok X RX0 cX0_partiesAt 4 1) : ∀ (n : Nat) (x1 : Int32) (x2 : Int32) (x3 : Int32) (e : (Int32)), f_Camp_partiesAt_17_L4 n x1 x2 x3 σ = some e → JJ X 36 [(2, .int e)] [] σ → JJ X 4 [(0, .ref (xad X 17)), (1, .int x1), (2, .int x2), (3, .int x3)] [] σ := by
  intro n
  induction n with
  | zero =>
    intro x1 x2 x3 e h
    rw [f_Camp_partiesAt_17_L4] at h
    cases h
  | succ n ih =>
    intro x1 x2 x3 e h K
    rw [f_Camp_partiesAt_17_L4] at h
    refine JJ.iload_n hX 3 dX0_partiesAt_4 rfl ?_
    refine JJ.aload_n hX 0 dX0_partiesAt_5 rfl ?_
    refine fg_X0_30_17 hX dX0_partiesAt_6 ?_
    refine JJ.icmp_ge (tgt := 36) hX dX0_partiesAt_9 (by decide) (fun c1 => ?_) (fun c1 => ?_)
    · replace h := ipos c1 h
      obtain rfl := Option.some.inj h
      exact JJ.sub [2] rfl K
    · replace h := ineg c1 h
      refine JJ.aload_n hX 0 dX0_partiesAt_12 rfl ?_
      refine fg_X0_9_17 hX dX0_partiesAt_13 ?_
      refine JJ.iload_n hX 3 dX0_partiesAt_16 rfl ?_
      refine JJ.callSNi hX (ct_cell 18 3 (by decide) (fun _ _ _ => rfl) _ _ _ rfl) cal_yX5_cell cas_yX5_cell lm_RX0_41 rfl rfl (Nat.le_of_ble_eq_true rfl) ⟨by decide, by decide⟩ dX0_partiesAt_17 ?_
      refine JJ.iload_n hX 1 dX0_partiesAt_20 rfl ?_
      refine JJ.icmp_ne (tgt := 30) hX dX0_partiesAt_21 (by decide) (fun c2 => ?_) (fun c2 => ?_)
      · replace h := ineg c2 h
        refine JJ.iinc (v := 1) (ls' := [(0, .ref (xad X 17)), (1, .int x1), (2, .int x2), (3, .int (x3 + (1 : Int32)))]) hX 3 dX0_partiesAt_30 rfl (by decide) (by decide) rfl rfl ?_
        refine JJ.goto (tgt := 4) hX dX0_partiesAt_33 (by decide) ?_
        exact ih _ _ _ _ h K
      · replace h := ipos c2 h
        refine JJ.iload_n hX 2 dX0_partiesAt_24 rfl ?_
        refine JJ.iconst (v := 1) hX dX0_partiesAt_25 (by decide) ?_
        refine JJ.iload_n hX 3 dX0_partiesAt_26 rfl ?_
        refine JJ.ishl hX dX0_partiesAt_27 ?_
        refine JJ.ior hX dX0_partiesAt_28 ?_
        refine JJ.istore_n (ls' := [(0, .ref (xad X 17)), (1, .int x1), (2, .int (x2 ||| ((1 : Int32) <<< (x3 &&& 31)))), (3, .int x3)]) hX dX0_partiesAt_29 (by decide) rfl rfl ?_
        refine JJ.iinc (v := 1) (ls' := [(0, .ref (xad X 17)), (1, .int x1), (2, .int (x2 ||| ((1 : Int32) <<< (x3 &&& 31)))), (3, .int (x3 + (1 : Int32)))]) hX 3 dX0_partiesAt_30 rfl (by decide) (by decide) rfl rfl ?_
        refine JJ.goto (tgt := 4) hX dX0_partiesAt_33 (by decide) ?_
        exact ih _ _ _ _ h K
set_option maxRecDepth 100000 in
theorem ct_Camp_partiesAt_17 (p1 : Int32) (σ : ST) (res : Int32) (h : f_Camp_partiesAt_17 p1 σ = some res) : Ct 1 yX0_partiesAt cX0_partiesAt 4 (some .int) (fun ad => [.int p1, .ref (ad 17)]) σ (some (.int res)) σ := by
  refine Ct.of (ls := fun ad => [(0, .ref (ad 17)), (1, .int p1)]) (by decide +kernel) (fun ad => Nat.le_of_ble_eq_true rfl) (fun ad => rfl) (fun X hX hM => ?_)
  replace hX : Ok X RX0 cX0_partiesAt 4 1 := hX
  unfold f_Camp_partiesAt_17 at h
  refine JJ.iconst (v := 0) hX dX0_partiesAt_0 (by decide) ?_
  refine JJ.istore_n (ls' := [(0, .ref (xad X 17)), (1, .int p1), (2, .int (0 : Int32))]) hX dX0_partiesAt_1 (by decide) rfl rfl ?_
  refine JJ.iconst (v := 0) hX dX0_partiesAt_2 (by decide) ?_
  refine JJ.istore_n (ls' := [(0, .ref (xad X 17)), (1, .int p1), (2, .int (0 : Int32)), (3, .int (0 : Int32))]) hX dX0_partiesAt_3 (by decide) rfl rfl ?_
  obtain ⟨e3, h3, h⟩ := bnd h
  refine lp_Camp_partiesAt_17_4 hX 400 _ _ _ _ h3 ?_
  refine JJ.iload_n hX 0 dX0_partiesAt_36 rfl ?_
  obtain rfl := Option.some.inj h
  exact JJ.iret hX hM dX0_partiesAt_37
set_option maxRecDepth 100000 in
theorem ct_LT_crossing (p1 : Int32) (p2 : Int32) (σ : ST) (res : Int32) (h : f_LT_crossing p1 p2 σ = some res) : Ct 3 yX5_crossing cX5_crossing 3 (some .int) (fun ad => [.int p2, .int p1, .ref (ad 0)]) σ (some (.int res)) σ := by
  refine Ct.of (ls := fun ad => [(0, .ref (ad 0)), (1, .int p1), (2, .int p2)]) (by decide +kernel) (fun ad => Nat.le_of_ble_eq_true rfl) (fun ad => rfl) (fun X hX hM => ?_)
  replace hX : Ok X RX5 cX5_crossing 3 3 := hX
  unfold f_LT_crossing at h
  refine JJ.aload_n hX 0 dX5_crossing_0 rfl ?_
  refine fg_X5_19_0 hX dX5_crossing_1 ?_
  refine JJ.iload_n hX 1 dX5_crossing_4 rfl ?_
  refine JJ.callVi hX (ct_Mine_has _ _ _ rfl) cal_yX1_has cav_yX1_has lm_RX5_76 rfl rfl rfl (Rcv.obj hX (ci := 1) rfl rfl) (Nat.le_of_ble_eq_true rfl) ⟨by decide, by decide⟩ dX5_crossing_5 ?_
  refine JJ.if_ne (tgt := 14) hX dX5_crossing_8 (by decide) (fun c1 => ?_) (fun c1 => ?_)
  · replace h := ineg c1 h
    refine JJ.iload_n hX 2 dX5_crossing_14 rfl ?_
    by_cases c2 : p2 = (0 : Int32)
    · replace h := ipos c2 h
      refine JJ.tableIn (v := 0) (tgt := 52) hX c2 dX5_crossing_15 (by decide) (by decide) rfl (by decide) ?_
      refine JJ.aload_n hX 0 dX5_crossing_52 rfl ?_
      refine fg_X5_19_0 hX dX5_crossing_53 ?_
      refine JJ.iload_n hX 1 dX5_crossing_56 rfl ?_
      refine JJ.callVi hX (ct_Mine_kindOf _ _ _ rfl) cal_yX1_kindOf cav_yX1_kindOf lm_RX5_80 rfl rfl rfl (Rcv.obj hX (ci := 1) rfl rfl) (Nat.le_of_ble_eq_true rfl) ⟨by decide, by decide⟩ dX5_crossing_57 ?_
      obtain rfl := Option.some.inj h
      exact JJ.iret hX hM dX5_crossing_60
    · replace h := ineg c2 h
      by_cases c3 : p2 = (1 : Int32)
      · replace h := ipos c3 h
        refine JJ.tableIn (v := 1) (tgt := 61) hX c3 dX5_crossing_15 (by decide) (by decide) rfl (by decide) ?_
        refine JJ.aload_n hX 0 dX5_crossing_61 rfl ?_
        refine fg_X5_19_0 hX dX5_crossing_62 ?_
        refine JJ.iload_n hX 1 dX5_crossing_65 rfl ?_
        refine JJ.iconst (v := 0) hX dX5_crossing_66 (by decide) ?_
        refine JJ.callVi hX (ct_Mine_leadsTo _ _ _ _ rfl) cal_yX1_leadsTo cav_yX1_leadsTo lm_RX5_84 rfl rfl rfl (Rcv.obj hX (ci := 1) rfl rfl) (Nat.le_of_ble_eq_true rfl) ⟨by decide, by decide⟩ dX5_crossing_67 ?_
        obtain rfl := Option.some.inj h
        exact JJ.iret hX hM dX5_crossing_70
      · replace h := ineg c3 h
        by_cases c4 : p2 = (2 : Int32)
        · replace h := ipos c4 h
          refine JJ.tableIn (v := 2) (tgt := 71) hX c4 dX5_crossing_15 (by decide) (by decide) rfl (by decide) ?_
          refine JJ.aload_n hX 0 dX5_crossing_71 rfl ?_
          refine fg_X5_19_0 hX dX5_crossing_72 ?_
          refine JJ.iload_n hX 1 dX5_crossing_75 rfl ?_
          refine JJ.iconst (v := 1) hX dX5_crossing_76 (by decide) ?_
          refine JJ.callVi hX (ct_Mine_leadsTo _ _ _ _ rfl) cal_yX1_leadsTo cav_yX1_leadsTo lm_RX5_84 rfl rfl rfl (Rcv.obj hX (ci := 1) rfl rfl) (Nat.le_of_ble_eq_true rfl) ⟨by decide, by decide⟩ dX5_crossing_77 ?_
          obtain rfl := Option.some.inj h
          exact JJ.iret hX hM dX5_crossing_80
        · replace h := ineg c4 h
          by_cases c5 : p2 = (3 : Int32)
          · replace h := ipos c5 h
            refine JJ.tableIn (v := 3) (tgt := 81) hX c5 dX5_crossing_15 (by decide) (by decide) rfl (by decide) ?_
            refine JJ.aload_n hX 0 dX5_crossing_81 rfl ?_
            refine fg_X5_19_0 hX dX5_crossing_82 ?_
            refine JJ.iload_n hX 1 dX5_crossing_85 rfl ?_
            refine JJ.callVi hX (ct_Mine_soundOf _ _ _ rfl) cal_yX1_soundOf cav_yX1_soundOf lm_RX5_88 rfl rfl rfl (Rcv.obj hX (ci := 1) rfl rfl) (Nat.le_of_ble_eq_true rfl) ⟨by decide, by decide⟩ dX5_crossing_86 ?_
            obtain rfl := Option.some.inj h
            exact JJ.iret hX hM dX5_crossing_89
          · replace h := ineg c5 h
            by_cases c6 : p2 = (4 : Int32)
            · replace h := ipos c6 h
              refine JJ.tableIn (v := 4) (tgt := 90) hX c6 dX5_crossing_15 (by decide) (by decide) rfl (by decide) ?_
              refine JJ.aload_n hX 0 dX5_crossing_90 rfl ?_
              refine fg_X5_19_0 hX dX5_crossing_91 ?_
              refine JJ.iload_n hX 1 dX5_crossing_94 rfl ?_
              refine JJ.callVi hX (ct_Mine_oilTo _ _ _ rfl) cal_yX1_oilTo cav_yX1_oilTo lm_RX5_91 rfl rfl rfl (Rcv.obj hX (ci := 1) rfl rfl) (Nat.le_of_ble_eq_true rfl) ⟨by decide, by decide⟩ dX5_crossing_95 ?_
              obtain rfl := Option.some.inj h
              exact JJ.iret hX hM dX5_crossing_98
            · replace h := ineg c6 h
              by_cases c7 : p2 = (5 : Int32)
              · replace h := ipos c7 h
                refine JJ.tableIn (v := 5) (tgt := 99) hX c7 dX5_crossing_15 (by decide) (by decide) rfl (by decide) ?_
                refine JJ.aload_n hX 0 dX5_crossing_99 rfl ?_
                refine fg_X5_35_0 hX dX5_crossing_100 ?_
                refine JJ.iload_n hX 1 dX5_crossing_103 rfl ?_
                obtain ⟨q8, h8, h⟩ := bnd h
                refine JJ.callVi hX (ct_Camp_partiesAt_17 _ _ _ h8) cal_yX0_partiesAt cav_yX0_partiesAt lm_RX5_94 rfl rfl rfl (Rcv.obj hX (ci := 0) rfl rfl) (Nat.le_of_ble_eq_true rfl) ⟨by decide, by decide⟩ dX5_crossing_104 ?_
                obtain rfl := Option.some.inj h
                exact JJ.iret hX hM dX5_crossing_107
              · replace h := ineg c7 h
                refine JJ.tableOut (tgt := 108) hX dX5_crossing_15 (sw_out (n := 5) (fun k hk => by
                  rcases k with _|_|_|_|_|_|k
                  · exact c2
                  · exact c3
                  · exact c4
                  · exact c5
                  · exact c6
                  · exact c7
                  · exact absurd hk (by omega)) (by decide)) (by decide) ?_
                refine JJ.bipush (v := -102) hX dX5_crossing_108 (by decide) ?_
                obtain rfl := Option.some.inj h
                exact JJ.iret hX hM dX5_crossing_110
  · replace h := ipos c1 h
    refine JJ.bipush (v := -101) hX dX5_crossing_11 (by decide) ?_
    obtain rfl := Option.some.inj h
    exact JJ.iret hX hM dX5_crossing_13
set_option maxRecDepth 100000 in
theorem ct_M_isCrossing (p1 : Int32) (σ : ST) (res : Int32) (h : f_M_isCrossing p1 σ = res) : Ct 1 yX6_isCrossing cX6_isCrossing 2 (some .boolean) (fun ad => [.int p1, .ref (ad 31)]) σ (some (.int res)) σ := by
  refine Ct.of (ls := fun ad => [(0, .ref (ad 31)), (1, .int p1)]) (by decide +kernel) (fun ad => Nat.le_of_ble_eq_true rfl) (fun ad => rfl) (fun X hX hM => ?_)
  replace hX : Ok X RX6 cX6_isCrossing 2 1 := hX
  unfold f_M_isCrossing at h
  refine JJ.iload_n hX 1 dX6_isCrossing_0 rfl ?_
  refine JJ.i2l hX dX6_isCrossing_1 ?_
  refine JJ.lconst (v := 0) hX dX6_isCrossing_2 (by decide) ?_
  refine JJ.aload_n hX 0 dX6_isCrossing_3 rfl ?_
  refine fg_X6_84_31 hX dX6_isCrossing_4 ?_
  refine JJ.iconst (v := 1) hX dX6_isCrossing_7 (by decide) ?_
  refine JJ.isub hX dX6_isCrossing_8 ?_
  refine JJ.i2l hX dX6_isCrossing_9 ?_
  refine JJ.callSi hX (ct_M_in _ _ _ _ _ rfl) cal_yX6_in cas_yX6_in lm_RX6_49 rfl rfl (Nat.le_of_ble_eq_true rfl) ⟨by decide, by decide⟩ dX6_isCrossing_10 ?_
  subst h
  exact JJ.bret hX hM dX6_isCrossing_13
set_option maxRecDepth 100000 in
theorem ct_M_soundOf (p1 : Int32) (σ : ST) (res : Int32) (h : f_M_soundOf p1 σ = some res) : Ct 0 yX6_soundOf cX6_soundOf 2 (some .int) (fun ad => [.int p1, .ref (ad 31)]) σ (some (.int res)) σ := by
  refine Ct.of (ls := fun ad => [(0, .ref (ad 31)), (1, .int p1)]) (by decide +kernel) (fun ad => Nat.le_of_ble_eq_true rfl) (fun ad => rfl) (fun X hX hM => ?_)
  replace hX : Ok X RX6 cX6_soundOf 2 0 := hX
  unfold f_M_soundOf at h
  refine JJ.aload_n hX 0 dX6_soundOf_0 rfl ?_
  refine fg_X6_16_31 hX dX6_soundOf_1 ?_
  refine JJ.iload_n hX 1 dX6_soundOf_4 rfl ?_
  obtain ⟨c1, h⟩ := gte h
  refine ald_34 hX c1 dX6_soundOf_5 ?_
  refine JJ.iconst (v := 1) hX dX6_soundOf_6 (by decide) ?_
  refine JJ.icmp_ne (tgt := 14) hX dX6_soundOf_7 (by decide) (fun c2 => ?_) (fun c2 => ?_)
  · replace h := ineg c2 h
    refine JJ.aload_n hX 0 dX6_soundOf_14 rfl ?_
    refine fg_X6_16_31 hX dX6_soundOf_15 ?_
    refine JJ.iload_n hX 1 dX6_soundOf_18 rfl ?_
    obtain ⟨c3, h⟩ := gte h
    refine ald_34 hX c3 dX6_soundOf_19 ?_
    refine JJ.iconst (v := 4) hX dX6_soundOf_20 (by decide) ?_
    refine JJ.icmp_ne (tgt := 28) hX dX6_soundOf_21 (by decide) (fun c4 => ?_) (fun c4 => ?_)
    · replace h := ineg c4 h
      refine JJ.iconst (v := 0) hX dX6_soundOf_28 (by decide) ?_
      obtain rfl := Option.some.inj h
      exact JJ.iret hX hM dX6_soundOf_29
    · replace h := ipos c4 h
      refine JJ.iconst (v := 2) hX dX6_soundOf_24 (by decide) ?_
      refine JJ.goto (tgt := 29) hX dX6_soundOf_25 (by decide) ?_
      obtain rfl := Option.some.inj h
      exact JJ.iret hX hM dX6_soundOf_29
  · replace h := ipos c2 h
    refine JJ.iconst (v := 1) hX dX6_soundOf_10 (by decide) ?_
    refine JJ.goto (tgt := 29) hX dX6_soundOf_11 (by decide) ?_
    obtain rfl := Option.some.inj h
    exact JJ.iret hX hM dX6_soundOf_29
set_option maxRecDepth 100000 in
theorem ct_M_burnsAt (p1 : Int32) (σ : ST) (res : Int32) (h : f_M_burnsAt p1 σ = some res) : Ct 0 yX6_burnsAt cX6_burnsAt 2 (some .int) (fun ad => [.int p1, .ref (ad 31)]) σ (some (.int res)) σ := by
  refine Ct.of (ls := fun ad => [(0, .ref (ad 31)), (1, .int p1)]) (by decide +kernel) (fun ad => Nat.le_of_ble_eq_true rfl) (fun ad => rfl) (fun X hX hM => ?_)
  replace hX : Ok X RX6 cX6_burnsAt 2 0 := hX
  unfold f_M_burnsAt at h
  refine JJ.aload_n hX 0 dX6_burnsAt_0 rfl ?_
  refine fg_X6_16_31 hX dX6_burnsAt_1 ?_
  refine JJ.iload_n hX 1 dX6_burnsAt_4 rfl ?_
  obtain ⟨c1, h⟩ := gte h
  refine ald_34 hX c1 dX6_burnsAt_5 ?_
  refine JJ.iconst (v := 3) hX dX6_burnsAt_6 (by decide) ?_
  refine JJ.icmp_ne (tgt := 14) hX dX6_burnsAt_7 (by decide) (fun c2 => ?_) (fun c2 => ?_)
  · replace h := ineg c2 h
    refine JJ.iconst (v := 1) hX dX6_burnsAt_14 (by decide) ?_
    obtain rfl := Option.some.inj h
    exact JJ.iret hX hM dX6_burnsAt_15
  · replace h := ipos c2 h
    refine JJ.iconst (v := 3) hX dX6_burnsAt_10 (by decide) ?_
    refine JJ.goto (tgt := 15) hX dX6_burnsAt_11 (by decide) ?_
    obtain rfl := Option.some.inj h
    exact JJ.iret hX hM dX6_burnsAt_15
set_option maxRecDepth 100000 in
theorem lp_M_whoIsAt_4 {X : CX} {σ : ST} (hX : Ok X RX6 cX6_whoIsAt 4 0) : ∀ (n : Nat) (x1 : Int32) (x2 : Int32) (x3 : Int32) (e : (Int32)), f_M_whoIsAt_L4 n x1 x2 x3 σ = some e → JJ X 40 [(2, .int e)] [] σ → JJ X 4 [(0, .ref (xad X 31)), (1, .int x1), (2, .int x2), (3, .int x3)] [] σ := by
  intro n
  induction n with
  | zero =>
    intro x1 x2 x3 e h
    rw [f_M_whoIsAt_L4] at h
    cases h
  | succ n ih =>
    intro x1 x2 x3 e h K
    rw [f_M_whoIsAt_L4] at h
    refine JJ.iload_n hX 3 dX6_whoIsAt_4 rfl ?_
    refine JJ.aload_n hX 0 dX6_whoIsAt_5 rfl ?_
    refine fg_X6_90_31 hX dX6_whoIsAt_6 ?_
    refine JJ.icmp_ge (tgt := 40) hX dX6_whoIsAt_9 (by decide) (fun c1 => ?_) (fun c1 => ?_)
    · replace h := ipos c1 h
      obtain rfl := Option.some.inj h
      exact JJ.sub [2] rfl K
    · replace h := ineg c1 h
      refine JJ.iload_n hX 2 dX6_whoIsAt_12 rfl ?_
      refine JJ.aload_n hX 0 dX6_whoIsAt_13 rfl ?_
      refine fg_X6_22_31 hX dX6_whoIsAt_14 ?_
      refine JJ.iconst (v := 4) hX dX6_whoIsAt_17 (by decide) ?_
      refine JJ.iload_n hX 3 dX6_whoIsAt_18 rfl ?_
      refine JJ.imul hX dX6_whoIsAt_19 ?_
      obtain ⟨c2, h⟩ := gte h
      refine ald_36 hX c2 dX6_whoIsAt_20 ?_
      refine JJ.iload_n hX 1 dX6_whoIsAt_21 rfl ?_
      refine JJ.icmp_ne (tgt := 31) hX dX6_whoIsAt_22 (by decide) (fun c3 => ?_) (fun c3 => ?_)
      · replace h := ineg c3 h
        refine JJ.iconst (v := 0) hX dX6_whoIsAt_31 (by decide) ?_
        refine JJ.ior hX dX6_whoIsAt_32 ?_
        refine JJ.istore_n (ls' := [(0, .ref (xad X 31)), (1, .int x1), (2, .int (x2 ||| (0 : Int32))), (3, .int x3)]) hX dX6_whoIsAt_33 (by decide) rfl rfl ?_
        refine JJ.iinc (v := 1) (ls' := [(0, .ref (xad X 31)), (1, .int x1), (2, .int (x2 ||| (0 : Int32))), (3, .int (x3 + (1 : Int32)))]) hX 3 dX6_whoIsAt_34 rfl (by decide) (by decide) rfl rfl ?_
        refine JJ.goto (tgt := 4) hX dX6_whoIsAt_37 (by decide) ?_
        exact ih _ _ _ _ h K
      · replace h := ipos c3 h
        refine JJ.iconst (v := 1) hX dX6_whoIsAt_25 (by decide) ?_
        refine JJ.iload_n hX 3 dX6_whoIsAt_26 rfl ?_
        refine JJ.ishl hX dX6_whoIsAt_27 ?_
        refine JJ.goto (tgt := 32) hX dX6_whoIsAt_28 (by decide) ?_
        refine JJ.ior hX dX6_whoIsAt_32 ?_
        refine JJ.istore_n (ls' := [(0, .ref (xad X 31)), (1, .int x1), (2, .int (x2 ||| ((1 : Int32) <<< (x3 &&& 31)))), (3, .int x3)]) hX dX6_whoIsAt_33 (by decide) rfl rfl ?_
        refine JJ.iinc (v := 1) (ls' := [(0, .ref (xad X 31)), (1, .int x1), (2, .int (x2 ||| ((1 : Int32) <<< (x3 &&& 31)))), (3, .int (x3 + (1 : Int32)))]) hX 3 dX6_whoIsAt_34 rfl (by decide) (by decide) rfl rfl ?_
        refine JJ.goto (tgt := 4) hX dX6_whoIsAt_37 (by decide) ?_
        exact ih _ _ _ _ h K
set_option maxRecDepth 100000 in
theorem ct_M_whoIsAt (p1 : Int32) (σ : ST) (res : Int32) (h : f_M_whoIsAt p1 σ = some res) : Ct 0 yX6_whoIsAt cX6_whoIsAt 4 (some .int) (fun ad => [.int p1, .ref (ad 31)]) σ (some (.int res)) σ := by
  refine Ct.of (ls := fun ad => [(0, .ref (ad 31)), (1, .int p1)]) (by decide +kernel) (fun ad => Nat.le_of_ble_eq_true rfl) (fun ad => rfl) (fun X hX hM => ?_)
  replace hX : Ok X RX6 cX6_whoIsAt 4 0 := hX
  unfold f_M_whoIsAt at h
  refine JJ.iconst (v := 0) hX dX6_whoIsAt_0 (by decide) ?_
  refine JJ.istore_n (ls' := [(0, .ref (xad X 31)), (1, .int p1), (2, .int (0 : Int32))]) hX dX6_whoIsAt_1 (by decide) rfl rfl ?_
  refine JJ.iconst (v := 0) hX dX6_whoIsAt_2 (by decide) ?_
  refine JJ.istore_n (ls' := [(0, .ref (xad X 31)), (1, .int p1), (2, .int (0 : Int32)), (3, .int (0 : Int32))]) hX dX6_whoIsAt_3 (by decide) rfl rfl ?_
  obtain ⟨e4, h4, h⟩ := bnd h
  refine lp_M_whoIsAt_4 hX 400 _ _ _ _ h4 ?_
  refine JJ.iload_n hX 0 dX6_whoIsAt_40 rfl ?_
  obtain rfl := Option.some.inj h
  exact JJ.iret hX hM dX6_whoIsAt_41
set_option maxRecDepth 100000 in
theorem ct_M_tellCrossing (p1 : Int32) (p2 : Int32) (σ : ST) (res : Int32) (h : f_M_tellCrossing p1 p2 σ = some res) : Ct 1 yX6_tellCrossing cX6_tellCrossing 3 (some .int) (fun ad => [.int p2, .int p1, .ref (ad 31)]) σ (some (.int res)) σ := by
  refine Ct.of (ls := fun ad => [(0, .ref (ad 31)), (1, .int p1), (2, .int p2)]) (by decide +kernel) (fun ad => Nat.le_of_ble_eq_true rfl) (fun ad => rfl) (fun X hX hM => ?_)
  replace hX : Ok X RX6 cX6_tellCrossing 3 1 := hX
  unfold f_M_tellCrossing at h
  refine JJ.iload_n hX 2 dX6_tellCrossing_0 rfl ?_
  by_cases c1 : p2 = (0 : Int32)
  · replace h := ipos c1 h
    refine JJ.tableIn (v := 0) (tgt := 40) hX c1 dX6_tellCrossing_1 (by decide) (by decide) rfl (by decide) ?_
    refine JJ.aload_n hX 0 dX6_tellCrossing_40 rfl ?_
    refine fg_X6_16_31 hX dX6_tellCrossing_41 ?_
    refine JJ.iload_n hX 1 dX6_tellCrossing_44 rfl ?_
    obtain ⟨c2, h⟩ := gte h
    refine ald_34 hX c2 dX6_tellCrossing_45 ?_
    obtain rfl := Option.some.inj h
    exact JJ.iret hX hM dX6_tellCrossing_46
  · replace h := ineg c1 h
    by_cases c3 : p2 = (1 : Int32)
    · replace h := ipos c3 h
      refine JJ.tableIn (v := 1) (tgt := 47) hX c3 dX6_tellCrossing_1 (by decide) (by decide) rfl (by decide) ?_
      refine JJ.aload_n hX 0 dX6_tellCrossing_47 rfl ?_
      refine fg_X6_19_31 hX dX6_tellCrossing_48 ?_
      refine JJ.iconst (v := 2) hX dX6_tellCrossing_51 (by decide) ?_
      refine JJ.iload_n hX 1 dX6_tellCrossing_52 rfl ?_
      refine JJ.imul hX dX6_tellCrossing_53 ?_
      refine JJ.iload_n hX 2 dX6_tellCrossing_54 rfl ?_
      refine JJ.iadd hX dX6_tellCrossing_55 ?_
      refine JJ.iconst (v := 1) hX dX6_tellCrossing_56 (by decide) ?_
      refine JJ.isub hX dX6_tellCrossing_57 ?_
      obtain ⟨c4, h⟩ := gte h
      refine ald_35 hX c4 dX6_tellCrossing_58 ?_
      obtain rfl := Option.some.inj h
      exact JJ.iret hX hM dX6_tellCrossing_59
    · replace h := ineg c3 h
      by_cases c5 : p2 = (2 : Int32)
      · replace h := ipos c5 h
        refine JJ.tableIn (v := 2) (tgt := 47) hX c5 dX6_tellCrossing_1 (by decide) (by decide) rfl (by decide) ?_
        refine JJ.aload_n hX 0 dX6_tellCrossing_47 rfl ?_
        refine fg_X6_19_31 hX dX6_tellCrossing_48 ?_
        refine JJ.iconst (v := 2) hX dX6_tellCrossing_51 (by decide) ?_
        refine JJ.iload_n hX 1 dX6_tellCrossing_52 rfl ?_
        refine JJ.imul hX dX6_tellCrossing_53 ?_
        refine JJ.iload_n hX 2 dX6_tellCrossing_54 rfl ?_
        refine JJ.iadd hX dX6_tellCrossing_55 ?_
        refine JJ.iconst (v := 1) hX dX6_tellCrossing_56 (by decide) ?_
        refine JJ.isub hX dX6_tellCrossing_57 ?_
        obtain ⟨c6, h⟩ := gte h
        refine ald_35 hX c6 dX6_tellCrossing_58 ?_
        obtain rfl := Option.some.inj h
        exact JJ.iret hX hM dX6_tellCrossing_59
      · replace h := ineg c5 h
        by_cases c7 : p2 = (3 : Int32)
        · replace h := ipos c7 h
          refine JJ.tableIn (v := 3) (tgt := 60) hX c7 dX6_tellCrossing_1 (by decide) (by decide) rfl (by decide) ?_
          refine JJ.aload_n hX 0 dX6_tellCrossing_60 rfl ?_
          refine JJ.iload_n hX 1 dX6_tellCrossing_61 rfl ?_
          obtain ⟨q8, h8, h⟩ := bnd h
          refine JJ.callVi hX (ct_M_soundOf _ _ _ h8) cal_yX6_soundOf cav_yX6_soundOf lm_RX6_99 rfl rfl rfl (Rcv.obj hX (ci := 6) rfl rfl) (Nat.le_of_ble_eq_true rfl) ⟨by decide, by decide⟩ dX6_tellCrossing_62 ?_
          obtain rfl := Option.some.inj h
          exact JJ.iret hX hM dX6_tellCrossing_65
        · replace h := ineg c7 h
          by_cases c9 : p2 = (4 : Int32)
          · replace h := ipos c9 h
            refine JJ.tableIn (v := 4) (tgt := 66) hX c9 dX6_tellCrossing_1 (by decide) (by decide) rfl (by decide) ?_
            refine JJ.aload_n hX 0 dX6_tellCrossing_66 rfl ?_
            refine JJ.iload_n hX 1 dX6_tellCrossing_67 rfl ?_
            obtain ⟨q10, h10, h⟩ := bnd h
            refine JJ.callVi hX (ct_M_burnsAt _ _ _ h10) cal_yX6_burnsAt cav_yX6_burnsAt lm_RX6_102 rfl rfl rfl (Rcv.obj hX (ci := 6) rfl rfl) (Nat.le_of_ble_eq_true rfl) ⟨by decide, by decide⟩ dX6_tellCrossing_68 ?_
            obtain rfl := Option.some.inj h
            exact JJ.iret hX hM dX6_tellCrossing_71
          · replace h := ineg c9 h
            by_cases c11 : p2 = (5 : Int32)
            · replace h := ipos c11 h
              refine JJ.tableIn (v := 5) (tgt := 72) hX c11 dX6_tellCrossing_1 (by decide) (by decide) rfl (by decide) ?_
              refine JJ.aload_n hX 0 dX6_tellCrossing_72 rfl ?_
              refine JJ.iload_n hX 1 dX6_tellCrossing_73 rfl ?_
              obtain ⟨q12, h12, h⟩ := bnd h
              refine JJ.callVi hX (ct_M_whoIsAt _ _ _ h12) cal_yX6_whoIsAt cav_yX6_whoIsAt lm_RX6_105 rfl rfl rfl (Rcv.obj hX (ci := 6) rfl rfl) (Nat.le_of_ble_eq_true rfl) ⟨by decide, by decide⟩ dX6_tellCrossing_74 ?_
              obtain rfl := Option.some.inj h
              exact JJ.iret hX hM dX6_tellCrossing_77
            · replace h := ineg c11 h
              refine JJ.tableOut (tgt := 78) hX dX6_tellCrossing_1 (sw_out (n := 5) (fun k hk => by
                rcases k with _|_|_|_|_|_|k
                · exact c1
                · exact c3
                · exact c5
                · exact c7
                · exact c9
                · exact c11
                · exact absurd hk (by omega)) (by decide)) (by decide) ?_
              refine JJ.bipush (v := -102) hX dX6_tellCrossing_78 (by decide) ?_
              obtain rfl := Option.some.inj h
              exact JJ.iret hX hM dX6_tellCrossing_80
