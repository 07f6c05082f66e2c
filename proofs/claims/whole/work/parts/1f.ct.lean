set_option maxRecDepth 100000 in
theorem ct_M_roundOf (p1 : Int32) (p2 : Int32) (σ : ST) (res : Int32 × ST) (h : f_M_roundOf p1 p2 σ = some res) : Ct 1 yX6_roundOf cX6_roundOf 4 (some .int) (fun ad => [.int p2, .int p1, .ref (ad 31)]) σ (some (.int res.1)) res.2 := by
  refine Ct.of (ls := fun ad => [(0, .ref (ad 31)), (1, .int p1), (2, .int p2)]) (by decide +kernel) (fun ad => Nat.le_of_ble_eq_true rfl) (fun ad => rfl) (fun X hX hM => ?_)
  replace hX : Ok X RX6 cX6_roundOf 4 1 := hX
  unfold f_M_roundOf at h
  refine JJ.aload_n hX 0 dX6_roundOf_0 rfl ?_
  refine JJ.iload_n hX 1 dX6_roundOf_1 rfl ?_
  refine JJ.iconst (v := 0) hX dX6_roundOf_2 (by decide) ?_
  obtain ⟨q1, h1, h⟩ := bnd h
  refine JJ.callVi hX (ct_M_roundFrom _ _ _ _ h1) cal_yX6_roundFrom cav_yX6_roundFrom lm_RX6_142 rfl rfl rfl (Rcv.obj hX (ci := 6) rfl rfl) (Nat.le_of_ble_eq_true rfl) ⟨by decide, by decide⟩ dX6_roundOf_3 ?_
  refine JJ.istore_n (ls' := [(0, .ref (xad X 31)), (1, .int p1), (2, .int p2), (3, .int q1.1)]) hX dX6_roundOf_6 (by decide) rfl rfl ?_
  refine JJ.iload_n hX 3 dX6_roundOf_7 rfl ?_
  refine JJ.sipush (v := 9999) hX dX6_roundOf_8 (by decide) ?_
  refine JJ.icmp_ne (tgt := 16) hX dX6_roundOf_11 (by decide) (fun c2 => ?_) (fun c2 => ?_)
  · replace h := ineg c2 h
    refine JJ.iload_n hX 2 dX6_roundOf_16 rfl ?_
    refine JJ.if_ne (tgt := 24) hX dX6_roundOf_17 (by decide) (fun c3 => ?_) (fun c3 => ?_)
    · replace h := ineg c3 h
      refine JJ.aload_n hX 0 dX6_roundOf_24 rfl ?_
      refine JJ.aload_n hX 0 dX6_roundOf_25 rfl ?_
      refine fg_X6_19_31 hX dX6_roundOf_26 ?_
      refine JJ.iconst (v := 2) hX dX6_roundOf_29 (by decide) ?_
      refine JJ.iload_n hX 1 dX6_roundOf_30 rfl ?_
      refine JJ.imul hX dX6_roundOf_31 ?_
      obtain ⟨c4, h⟩ := gte h
      refine ald_35 hX c4 dX6_roundOf_32 ?_
      refine JJ.iconst (v := 1) hX dX6_roundOf_33 (by decide) ?_
      refine JJ.iload_n hX 1 dX6_roundOf_34 rfl ?_
      refine JJ.ishl hX dX6_roundOf_35 ?_
      obtain ⟨q5, h5, h⟩ := bnd h
      refine JJ.callVi hX (ct_M_roundFrom _ _ _ _ h5) cal_yX6_roundFrom cav_yX6_roundFrom lm_RX6_142 rfl rfl rfl (Rcv.obj hX (ci := 6) rfl rfl) (Nat.le_of_ble_eq_true rfl) ⟨by decide, by decide⟩ dX6_roundOf_36 ?_
      refine JJ.iload_n hX 3 dX6_roundOf_39 rfl ?_
      refine JJ.iconst (v := 1) hX dX6_roundOf_40 (by decide) ?_
      refine JJ.isub hX dX6_roundOf_41 ?_
      refine JJ.icmp_ne (tgt := 49) hX dX6_roundOf_42 (by decide) (fun c6 => ?_) (fun c6 => ?_)
      · replace h := ineg c6 h
        refine JJ.iconst (v := 1) hX dX6_roundOf_49 (by decide) ?_
        obtain rfl := Option.some.inj h
        exact JJ.iret hX hM dX6_roundOf_50
      · replace h := ipos c6 h
        refine JJ.iconst (v := 0) hX dX6_roundOf_45 (by decide) ?_
        refine JJ.goto (tgt := 50) hX dX6_roundOf_46 (by decide) ?_
        obtain rfl := Option.some.inj h
        exact JJ.iret hX hM dX6_roundOf_50
    · replace h := ipos c3 h
      refine JJ.iload_n hX 3 dX6_roundOf_20 rfl ?_
      refine JJ.goto (tgt := 50) hX dX6_roundOf_21 (by decide) ?_
      obtain rfl := Option.some.inj h
      exact JJ.iret hX hM dX6_roundOf_50
  · replace h := ipos c2 h
    refine JJ.iconst (v := -1) hX dX6_roundOf_14 (by decide) ?_
    obtain rfl := Option.some.inj h
    exact JJ.iret hX hM dX6_roundOf_15
set_option maxRecDepth 100000 in
theorem ct_M_round (p1 : Int32) (p2 : Int32) (σ : ST) (res : Int32 × ST) (h : f_M_round p1 p2 σ = some res) : Ct 2 yX6_round cX6_round 3 (some .int) (fun ad => [.int p2, .int p1, .ref (ad 31)]) σ (some (.int res.1)) res.2 := by
  refine Ct.of (ls := fun ad => [(0, .ref (ad 31)), (1, .int p1), (2, .int p2)]) (by decide +kernel) (fun ad => Nat.le_of_ble_eq_true rfl) (fun ad => rfl) (fun X hX hM => ?_)
  replace hX : Ok X RX6 cX6_round 3 2 := hX
  unfold f_M_round at h
  refine JJ.aload_n hX 0 dX6_round_0 rfl ?_
  refine JJ.iload_n hX 1 dX6_round_1 rfl ?_
  refine JJ.callVi hX (ct_M_isCrossing _ _ _ rfl) cal_yX6_isCrossing cav_yX6_isCrossing lm_RX6_108 rfl rfl rfl (Rcv.obj hX (ci := 6) rfl rfl) (Nat.le_of_ble_eq_true rfl) ⟨by decide, by decide⟩ dX6_round_2 ?_
  refine JJ.if_ne (tgt := 11) hX dX6_round_5 (by decide) (fun c1 => ?_) (fun c1 => ?_)
  · replace h := ineg c1 h
    refine JJ.iload_n hX 2 dX6_round_11 rfl ?_
    refine JJ.i2l hX dX6_round_12 ?_
    refine JJ.lconst (v := 0) hX dX6_round_13 (by decide) ?_
    refine JJ.lconst (v := 1) hX dX6_round_14 (by decide) ?_
    refine JJ.callSi hX (ct_M_in _ _ _ _ _ rfl) cal_yX6_in cas_yX6_in lm_RX6_49 rfl rfl (Nat.le_of_ble_eq_true rfl) ⟨by decide, by decide⟩ dX6_round_15 ?_
    refine JJ.if_eq (tgt := 30) hX dX6_round_18 (by decide) (fun c2 => ?_) (fun c2 => ?_)
    · replace h := ipos c2 h
      refine JJ.bipush (v := -102) hX dX6_round_30 (by decide) ?_
      obtain rfl := Option.some.inj h
      exact JJ.iret hX hM dX6_round_32
    · replace h := ineg c2 h
      refine JJ.aload_n hX 0 dX6_round_21 rfl ?_
      refine JJ.iload_n hX 1 dX6_round_22 rfl ?_
      refine JJ.iload_n hX 2 dX6_round_23 rfl ?_
      obtain ⟨q3, h3, h⟩ := bnd h
      refine JJ.callVi hX (ct_M_roundOf _ _ _ _ h3) cal_yX6_roundOf cav_yX6_roundOf lm_RX6_145 rfl rfl rfl (Rcv.obj hX (ci := 6) rfl rfl) (Nat.le_of_ble_eq_true rfl) ⟨by decide, by decide⟩ dX6_round_24 ?_
      refine JJ.goto (tgt := 32) hX dX6_round_27 (by decide) ?_
      obtain rfl := Option.some.inj h
      exact JJ.iret hX hM dX6_round_32
  · replace h := ipos c1 h
    refine JJ.bipush (v := -101) hX dX6_round_8 (by decide) ?_
    obtain rfl := Option.some.inj h
    exact JJ.iret hX hM dX6_round_10
set_option maxRecDepth 100000 in
theorem ct_LT_meet (p1 : Int32) (p2 : Int32) (σ : ST) (res : Int32) (h : f_LT_meet p1 p2 σ = res) : Ct 2 yX5_meet cX5_meet 3 (some .int) (fun ad => [.int p2, .int p1, .ref (ad 0)]) σ (some (.int res)) σ := by
  refine Ct.of (ls := fun ad => [(0, .ref (ad 0)), (1, .int p1), (2, .int p2)]) (by decide +kernel) (fun ad => Nat.le_of_ble_eq_true rfl) (fun ad => rfl) (fun X hX hM => ?_)
  replace hX : Ok X RX5 cX5_meet 3 2 := hX
  unfold f_LT_meet at h
  refine JJ.aload_n hX 0 dX5_meet_0 rfl ?_
  refine fg_X5_35_0 hX dX5_meet_1 ?_
  refine JJ.iload_n hX 1 dX5_meet_4 rfl ?_
  refine JJ.callVi hX (ct_Camp_has_17 _ _ _ rfl) cal_yX0_has cav_yX0_has lm_RX5_110 rfl rfl rfl (Rcv.obj hX (ci := 0) rfl rfl) (Nat.le_of_ble_eq_true rfl) ⟨by decide, by decide⟩ dX5_meet_5 ?_
  refine JJ.if_eq (tgt := 22) hX dX5_meet_8 (by decide) (fun c1 => ?_) (fun c1 => ?_)
  · replace h := ipos c1 h
    refine JJ.bipush (v := -101) hX dX5_meet_22 (by decide) ?_
    subst h
    exact JJ.iret hX hM dX5_meet_24
  · replace h := ineg c1 h
    refine JJ.aload_n hX 0 dX5_meet_11 rfl ?_
    refine fg_X5_35_0 hX dX5_meet_12 ?_
    refine JJ.iload_n hX 2 dX5_meet_15 rfl ?_
    refine JJ.callVi hX (ct_Camp_has_17 _ _ _ rfl) cal_yX0_has cav_yX0_has lm_RX5_110 rfl rfl rfl (Rcv.obj hX (ci := 0) rfl rfl) (Nat.le_of_ble_eq_true rfl) ⟨by decide, by decide⟩ dX5_meet_16 ?_
    refine JJ.if_ne (tgt := 25) hX dX5_meet_19 (by decide) (fun c2 => ?_) (fun c2 => ?_)
    · replace h := ineg c2 h
      refine JJ.aload_n hX 0 dX5_meet_25 rfl ?_
      refine fg_X5_28_0 hX dX5_meet_26 ?_
      refine fg_X5_167_7 hX dX5_meet_29 ?_
      refine JJ.aload_n hX 0 dX5_meet_32 rfl ?_
      refine fg_X5_35_0 hX dX5_meet_33 ?_
      refine fg_X5_111_17 hX dX5_meet_36 ?_
      refine JJ.iload_n hX 1 dX5_meet_39 rfl ?_
      refine JJ.callSi hX (ct_cell 18 3 (by decide) (fun _ _ _ => rfl) _ _ _ rfl) cal_yX5_cell cas_yX5_cell lm_RX5_115 rfl rfl (Nat.le_of_ble_eq_true rfl) ⟨by decide, by decide⟩ dX5_meet_40 ?_
      refine JJ.aload_n hX 0 dX5_meet_43 rfl ?_
      refine fg_X5_35_0 hX dX5_meet_44 ?_
      refine fg_X5_111_17 hX dX5_meet_47 ?_
      refine JJ.iload_n hX 2 dX5_meet_50 rfl ?_
      refine JJ.callSi hX (ct_cell 18 3 (by decide) (fun _ _ _ => rfl) _ _ _ rfl) cal_yX5_cell cas_yX5_cell lm_RX5_115 rfl rfl (Nat.le_of_ble_eq_true rfl) ⟨by decide, by decide⟩ dX5_meet_51 ?_
      refine JJ.callVi hX (ct_Table_get_10 _ _ _ _ rfl) cal_yX3_get cav_yX3_get lm_RX5_148 rfl rfl rfl (Rcv.obj hX (ci := 3) rfl rfl) (Nat.le_of_ble_eq_true rfl) ⟨by decide, by decide⟩ dX5_meet_54 ?_
      refine JJ.callSi hX (ct_LT_orNone _ _ _ rfl) cal_yX5_orNone cas_yX5_orNone lm_RX5_153 rfl rfl (Nat.le_of_ble_eq_true rfl) ⟨by decide, by decide⟩ dX5_meet_57 ?_
      subst h
      exact JJ.iret hX hM dX5_meet_60
    · replace h := ipos c2 h
      refine JJ.bipush (v := -101) hX dX5_meet_22 (by decide) ?_
      subst h
      exact JJ.iret hX hM dX5_meet_24
set_option maxRecDepth 100000 in
theorem lp_M_beginPair_2 {X : CX} (hX : Ok X RX6 cX6_beginPair 4 0) : ∀ (n : Nat) (x1 : Int32) (x2 : Int32) (x3 : Int32) (σ : ST) (e : (ST)), f_M_beginPair_L2 n x1 x2 x3 σ = some e → JJ X 23 [(0, .ref (xad X 31)), (1, .int x1), (2, .int x2)] [] e → JJ X 2 [(0, .ref (xad X 31)), (1, .int x1), (2, .int x2), (3, .int x3)] [] σ := by
  intro n
  induction n with
  | zero =>
    intro x1 x2 x3 σ e h
    rw [f_M_beginPair_L2] at h
    cases h
  | succ n ih =>
    intro x1 x2 x3 σ e h K
    rw [f_M_beginPair_L2] at h
    refine JJ.iload_n hX 3 dX6_beginPair_2 rfl ?_
    refine JJ.bipush (v := 36) hX dX6_beginPair_3 (by decide) ?_
    refine JJ.icmp_ge (tgt := 23) hX dX6_beginPair_5 (by decide) (fun c1 => ?_) (fun c1 => ?_)
    · replace h := ipos c1 h
      obtain rfl := Option.some.inj h
      exact JJ.sub [0, 1, 2] rfl K
    · replace h := ineg c1 h
      refine JJ.aload_n hX 0 dX6_beginPair_8 rfl ?_
      refine fg_X6_31_31 hX dX6_beginPair_9 ?_
      refine JJ.iload_n hX 3 dX6_beginPair_12 rfl ?_
      refine JJ.sipush (v := 9999) hX dX6_beginPair_13 (by decide) ?_
      obtain ⟨c2, h⟩ := gte h
      refine ast_39 hX c2 dX6_beginPair_16 ?_
      refine JJ.iinc (v := 1) (ls' := [(0, .ref (xad X 31)), (1, .int x1), (2, .int x2), (3, .int (x3 + (1 : Int32)))]) hX 3 dX6_beginPair_17 rfl (by decide) (by decide) rfl rfl ?_
      refine JJ.goto (tgt := 2) hX dX6_beginPair_20 (by decide) ?_
      exact ih _ _ _ _ _ h K
set_option maxRecDepth 100000 in
theorem ct_M_beginPair (p1 : Int32) (p2 : Int32) (σ : ST) (res : ST) (h : f_M_beginPair p1 p2 σ = some res) : Ct 0 yX6_beginPair cX6_beginPair 4 none (fun ad => [.int p2, .int p1, .ref (ad 31)]) σ none res := by
  refine Ct.of (ls := fun ad => [(0, .ref (ad 31)), (1, .int p1), (2, .int p2)]) (by decide +kernel) (fun ad => Nat.le_of_ble_eq_true rfl) (fun ad => rfl) (fun X hX hM => ?_)
  replace hX : Ok X RX6 cX6_beginPair 4 0 := hX
  unfold f_M_beginPair at h
  refine JJ.iconst (v := 0) hX dX6_beginPair_0 (by decide) ?_
  refine JJ.istore_n (ls' := [(0, .ref (xad X 31)), (1, .int p1), (2, .int p2), (3, .int (0 : Int32))]) hX dX6_beginPair_1 (by decide) rfl rfl ?_
  obtain ⟨e3, h3, h⟩ := bnd h
  refine lp_M_beginPair_2 hX 400 _ _ _ _ _ h3 ?_
  refine JJ.aload_n hX 0 dX6_beginPair_23 rfl ?_
  refine fg_X6_31_31 hX dX6_beginPair_24 ?_
  refine JJ.bipush (v := 6) hX dX6_beginPair_27 (by decide) ?_
  refine JJ.iload_n hX 1 dX6_beginPair_29 rfl ?_
  refine JJ.imul hX dX6_beginPair_30 ?_
  refine JJ.iload_n hX 2 dX6_beginPair_31 rfl ?_
  refine JJ.iadd hX dX6_beginPair_32 ?_
  refine JJ.iconst (v := 0) hX dX6_beginPair_33 (by decide) ?_
  obtain ⟨c4, h⟩ := gte h
  refine ast_39 hX c4 dX6_beginPair_34 ?_
  obtain rfl := Option.some.inj h
  exact JJ.vret hX hM dX6_beginPair_35
set_option maxRecDepth 100000 in
theorem lp_M_meetOf_53 {X : CX} (hX : Ok X RX6 cX6_meetOf 7 1) : ∀ (n : Nat) (x3 : Int32) (x4 : Int32) (x5 : Int32) (σ : ST) (e : (ST)), f_M_meetOf_L53 n x3 x4 x5 σ = some e → JJ X 149 [(0, .ref (xad X 31)), (3, .int x3), (4, .int x4)] [] e → JJ X 53 [(0, .ref (xad X 31)), (3, .int x3), (4, .int x4), (5, .int x5)] [] σ := by
  intro n
  induction n with
  | zero =>
    intro x3 x4 x5 σ e h
    rw [f_M_meetOf_L53] at h
    cases h
  | succ n ih =>
    intro x3 x4 x5 σ e h K
    rw [f_M_meetOf_L53] at h
    refine JJ.iload hX 3 dX6_meetOf_53 rfl ?_
    refine JJ.iconst (v := 4) hX dX6_meetOf_55 (by decide) ?_
    refine JJ.icmp_ge (tgt := 149) hX dX6_meetOf_56 (by decide) (fun c6 => ?_) (fun c6 => ?_)
    · replace h := ipos c6 h
      obtain rfl := Option.some.inj h
      exact JJ.sub [0, 1, 2] rfl K
    · replace h := ineg c6 h
      refine JJ.aload_n hX 0 dX6_meetOf_59 rfl ?_
      refine fg_X6_31_31 hX dX6_meetOf_60 ?_
      refine JJ.iload hX 2 dX6_meetOf_63 rfl ?_
      obtain ⟨c7, h⟩ := gte h
      refine ald_39 hX c7 dX6_meetOf_65 ?_
      refine JJ.iload_n hX 1 dX6_meetOf_66 rfl ?_
      refine JJ.icmp_ne (tgt := 149) hX dX6_meetOf_67 (by decide) (fun c8 => ?_) (fun c8 => ?_)
      · replace h := ineg c8 h
        obtain rfl := Option.some.inj h
        exact JJ.sub [0, 1, 2] rfl K
      · replace h := ipos c8 h
        refine JJ.bipush (v := 6) hX dX6_meetOf_70 (by decide) ?_
        refine JJ.aload_n hX 0 dX6_meetOf_72 rfl ?_
        refine fg_X6_19_31 hX dX6_meetOf_73 ?_
        refine JJ.iconst (v := 2) hX dX6_meetOf_76 (by decide) ?_
        refine JJ.iload hX 2 dX6_meetOf_77 rfl ?_
        refine JJ.bipush (v := 6) hX dX6_meetOf_79 (by decide) ?_
        refine JJ.idiv hX dX6_meetOf_81 (by decide) ?_
        refine JJ.imul hX dX6_meetOf_82 ?_
        refine JJ.iload hX 3 dX6_meetOf_83 rfl ?_
        refine JJ.iconst (v := 2) hX dX6_meetOf_85 (by decide) ?_
        refine JJ.idiv hX dX6_meetOf_86 (by decide) ?_
        refine JJ.iadd hX dX6_meetOf_87 ?_
        obtain ⟨c9, h⟩ := gte h
        refine ald_35 hX c9 dX6_meetOf_88 ?_
        refine JJ.imul hX dX6_meetOf_89 ?_
        refine JJ.aload_n hX 0 dX6_meetOf_90 rfl ?_
        refine fg_X6_19_31 hX dX6_meetOf_91 ?_
        refine JJ.iconst (v := 2) hX dX6_meetOf_94 (by decide) ?_
        refine JJ.iload hX 2 dX6_meetOf_95 rfl ?_
        refine JJ.bipush (v := 6) hX dX6_meetOf_97 (by decide) ?_
        refine JJ.irem hX dX6_meetOf_99 (by decide) ?_
        refine JJ.imul hX dX6_meetOf_100 ?_
        refine JJ.iload hX 3 dX6_meetOf_101 rfl ?_
        refine JJ.iconst (v := 2) hX dX6_meetOf_103 (by decide) ?_
        refine JJ.irem hX dX6_meetOf_104 (by decide) ?_
        refine JJ.iadd hX dX6_meetOf_105 ?_
        obtain ⟨c10, h⟩ := gte h
        refine ald_35 hX c10 dX6_meetOf_106 ?_
        refine JJ.iadd hX dX6_meetOf_107 ?_
        refine JJ.istore (ls' := [(0, .ref (xad X 31)), (3, .int x3), (4, .int x4), (5, .int x5), (6, .int (((6 : Int32) * (gA σ 35 (((2 : Int32) * (x4 / (6 : Int32))) + (x5 / (2 : Int32))).toNatClampNeg)) + (gA σ 35 (((2 : Int32) * (x4 - x4 / (6 : Int32) * (6 : Int32))) + (x5 - x5 / (2 : Int32) * (2 : Int32))).toNatClampNeg)))]) hX dX6_meetOf_108 (by decide) rfl rfl ?_
        refine JJ.aload_n hX 0 dX6_meetOf_110 rfl ?_
        refine fg_X6_31_31 hX dX6_meetOf_111 ?_
        refine JJ.iload hX 4 dX6_meetOf_114 rfl ?_
        refine JJ.aload_n hX 0 dX6_meetOf_116 rfl ?_
        refine fg_X6_31_31 hX dX6_meetOf_117 ?_
        refine JJ.iload hX 4 dX6_meetOf_120 rfl ?_
        obtain ⟨c11, h⟩ := gte h
        refine ald_39 hX c11 dX6_meetOf_122 ?_
        refine JJ.sipush (v := 9999) hX dX6_meetOf_123 (by decide) ?_
        refine JJ.icmp_ne (tgt := 135) hX dX6_meetOf_126 (by decide) (fun c12 => ?_) (fun c12 => ?_)
        · replace h := ineg c12 h
          refine JJ.aload_n hX 0 dX6_meetOf_135 rfl ?_
          refine fg_X6_31_31 hX dX6_meetOf_136 ?_
          refine JJ.iload hX 4 dX6_meetOf_139 rfl ?_
          obtain ⟨c13, h⟩ := gte h
          refine ald_39 hX c13 dX6_meetOf_141 ?_
          obtain ⟨c14, h⟩ := gte h
          refine ast_39 hX c14 dX6_meetOf_142 ?_
          refine JJ.iinc (v := 1) (ls' := [(0, .ref (xad X 31)), (3, .int x3), (4, .int x4), (5, .int (x5 + (1 : Int32))), (6, .int (((6 : Int32) * (gA σ 35 (((2 : Int32) * (x4 / (6 : Int32))) + (x5 / (2 : Int32))).toNatClampNeg)) + (gA σ 35 (((2 : Int32) * (x4 - x4 / (6 : Int32) * (6 : Int32))) + (x5 - x5 / (2 : Int32) * (2 : Int32))).toNatClampNeg)))]) hX 3 dX6_meetOf_143 rfl (by decide) (by decide) rfl rfl ?_
          refine JJ.goto (tgt := 53) hX dX6_meetOf_146 (by decide) ?_
          refine JJ.sub (ls' := [(0, .ref (xad X 31)), (3, .int x3), (4, .int x4), (5, .int (x5 + (1 : Int32)))]) [0, 1, 2, 3] rfl ?_
          exact ih _ _ _ _ _ h K
        · replace h := ipos c12 h
          refine JJ.iload_n hX 1 dX6_meetOf_129 rfl ?_
          refine JJ.iconst (v := 1) hX dX6_meetOf_130 (by decide) ?_
          refine JJ.iadd hX dX6_meetOf_131 ?_
          refine JJ.goto (tgt := 142) hX dX6_meetOf_132 (by decide) ?_
          obtain ⟨c15, h⟩ := gte h
          refine ast_39 hX c15 dX6_meetOf_142 ?_
          refine JJ.iinc (v := 1) (ls' := [(0, .ref (xad X 31)), (3, .int x3), (4, .int x4), (5, .int (x5 + (1 : Int32))), (6, .int (((6 : Int32) * (gA σ 35 (((2 : Int32) * (x4 / (6 : Int32))) + (x5 / (2 : Int32))).toNatClampNeg)) + (gA σ 35 (((2 : Int32) * (x4 - x4 / (6 : Int32) * (6 : Int32))) + (x5 - x5 / (2 : Int32) * (2 : Int32))).toNatClampNeg)))]) hX 3 dX6_meetOf_143 rfl (by decide) (by decide) rfl rfl ?_
          refine JJ.goto (tgt := 53) hX dX6_meetOf_146 (by decide) ?_
          refine JJ.sub (ls' := [(0, .ref (xad X 31)), (3, .int x3), (4, .int x4), (5, .int (x5 + (1 : Int32)))]) [0, 1, 2, 3] rfl ?_
          exact ih _ _ _ _ _ h K
set_option maxRecDepth 100000 in
theorem lp_M_meetOf_17 {X : CX} (hX : Ok X RX6 cX6_meetOf 7 1) (res : Int32 × ST) (hM : OkM X (some .int) (some (.int res.1)) res.2) : ∀ (n : Nat) (x3 : Int32) (x4 : Int32) (σ : ST) (e : ((ST) ⊕ (Int32 × ST))), f_M_meetOf_L17 n x3 x4 σ = some e → (∀ v, e = .inl v → JJ X 155 [(0, .ref (xad X 31)), (3, .int x3)] [] v) → (∀ r, e = .inr r → r = res) → JJ X 17 [(0, .ref (xad X 31)), (3, .int x3), (4, .int x4)] [] σ := by
  intro n
  induction n with
  | zero =>
    intro x3 x4 σ e h
    rw [f_M_meetOf_L17] at h
    cases h
  | succ n ih =>
    intro x3 x4 σ e h K Kr
    rw [f_M_meetOf_L17] at h
    refine JJ.iload hX 2 dX6_meetOf_17 rfl ?_
    refine JJ.bipush (v := 36) hX dX6_meetOf_19 (by decide) ?_
    refine JJ.icmp_ge (tgt := 155) hX dX6_meetOf_21 (by decide) (fun c3 => ?_) (fun c3 => ?_)
    · replace h := ipos c3 h
      obtain rfl := Option.some.inj h
      exact JJ.sub [0, 1] rfl (K _ rfl)
    · replace h := ineg c3 h
      refine JJ.aload_n hX 0 dX6_meetOf_24 rfl ?_
      refine fg_X6_31_31 hX dX6_meetOf_25 ?_
      refine JJ.iload hX 2 dX6_meetOf_28 rfl ?_
      obtain ⟨c4, h⟩ := gte h
      refine ald_39 hX c4 dX6_meetOf_30 ?_
      refine JJ.iload_n hX 1 dX6_meetOf_31 rfl ?_
      refine JJ.icmp_ne (tgt := 50) hX dX6_meetOf_32 (by decide) (fun c5 => ?_) (fun c5 => ?_)
      · replace h := ineg c5 h
        refine JJ.iconst (v := 0) hX dX6_meetOf_50 (by decide) ?_
        refine JJ.istore (ls' := [(0, .ref (xad X 31)), (3, .int x3), (4, .int x4), (5, .int (0 : Int32))]) hX dX6_meetOf_51 (by decide) rfl rfl ?_
        obtain ⟨e16, h16, h⟩ := bnd h
        refine lp_M_meetOf_53 hX 400 _ _ _ _ _ h16 ?_
        refine JJ.iinc (v := 1) (ls' := [(0, .ref (xad X 31)), (3, .int x3), (4, .int (x4 + (1 : Int32)))]) hX 2 dX6_meetOf_149 rfl (by decide) (by decide) rfl rfl ?_
        refine JJ.goto (tgt := 17) hX dX6_meetOf_152 (by decide) ?_
        exact ih _ _ _ _ h K Kr
      · replace h := ipos c5 h
        refine JJ.iload hX 2 dX6_meetOf_35 rfl ?_
        refine JJ.bipush (v := 6) hX dX6_meetOf_37 (by decide) ?_
        refine JJ.idiv hX dX6_meetOf_39 (by decide) ?_
        refine JJ.iload hX 2 dX6_meetOf_40 rfl ?_
        refine JJ.bipush (v := 6) hX dX6_meetOf_42 (by decide) ?_
        refine JJ.irem hX dX6_meetOf_44 (by decide) ?_
        refine JJ.icmp_ne (tgt := 50) hX dX6_meetOf_45 (by decide) (fun c17 => ?_) (fun c17 => ?_)
        · replace h := ineg c17 h
          refine JJ.iconst (v := 0) hX dX6_meetOf_50 (by decide) ?_
          refine JJ.istore (ls' := [(0, .ref (xad X 31)), (3, .int x3), (4, .int x4), (5, .int (0 : Int32))]) hX dX6_meetOf_51 (by decide) rfl rfl ?_
          obtain ⟨e18, h18, h⟩ := bnd h
          refine lp_M_meetOf_53 hX 400 _ _ _ _ _ h18 ?_
          refine JJ.iinc (v := 1) (ls' := [(0, .ref (xad X 31)), (3, .int x3), (4, .int (x4 + (1 : Int32)))]) hX 2 dX6_meetOf_149 rfl (by decide) (by decide) rfl rfl ?_
          refine JJ.goto (tgt := 17) hX dX6_meetOf_152 (by decide) ?_
          exact ih _ _ _ _ h K Kr
        · replace h := ipos c17 h
          refine JJ.iload_n hX 1 dX6_meetOf_48 rfl ?_
          have hr := Kr _ (Option.some.inj h).symm
          subst hr
          exact JJ.iret hX hM dX6_meetOf_49
set_option maxRecDepth 100000 in
theorem lp_M_meetOf_8 {X : CX} (hX : Ok X RX6 cX6_meetOf 7 1) (res : Int32 × ST) (hM : OkM X (some .int) (some (.int res.1)) res.2) : ∀ (n : Nat) (x3 : Int32) (σ : ST) (e : ((ST) ⊕ (Int32 × ST))), f_M_meetOf_L8 n x3 σ = some e → (∀ v, e = .inl v → JJ X 161 [] [] v) → (∀ r, e = .inr r → r = res) → JJ X 8 [(0, .ref (xad X 31)), (3, .int x3)] [] σ := by
  intro n
  induction n with
  | zero =>
    intro x3 σ e h
    rw [f_M_meetOf_L8] at h
    cases h
  | succ n ih =>
    intro x3 σ e h K Kr
    rw [f_M_meetOf_L8] at h
    refine JJ.iload_n hX 1 dX6_meetOf_8 rfl ?_
    refine JJ.bipush (v := 36) hX dX6_meetOf_9 (by decide) ?_
    refine JJ.icmp_ge (tgt := 161) hX dX6_meetOf_11 (by decide) (fun c2 => ?_) (fun c2 => ?_)
    · replace h := ipos c2 h
      obtain rfl := Option.some.inj h
      exact JJ.sub [] rfl (K _ rfl)
    · replace h := ineg c2 h
      refine JJ.iconst (v := 0) hX dX6_meetOf_14 (by decide) ?_
      refine JJ.istore (ls' := [(0, .ref (xad X 31)), (3, .int x3), (4, .int (0 : Int32))]) hX dX6_meetOf_15 (by decide) rfl rfl ?_
      obtain ⟨e19, h19, h⟩ := bnd h
      refine lp_M_meetOf_17 hX res hM 400 _ _ _ _ h19 (fun v19 hv19 => ?_) (fun r19 hr19 => by subst hr19; exact Kr _ (Option.some.inj h).symm)
      subst hv19
      dsimp only at h
      refine JJ.iinc (v := 1) (ls' := [(0, .ref (xad X 31)), (3, .int (x3 + (1 : Int32)))]) hX 1 dX6_meetOf_155 rfl (by decide) (by decide) rfl rfl ?_
      refine JJ.goto (tgt := 8) hX dX6_meetOf_158 (by decide) ?_
      exact ih _ _ _ h K Kr
set_option maxRecDepth 100000 in
theorem ct_M_meetOf (p1 : Int32) (p2 : Int32) (σ : ST) (res : Int32 × ST) (h : f_M_meetOf p1 p2 σ = some res) : Ct 1 yX6_meetOf cX6_meetOf 7 (some .int) (fun ad => [.int p2, .int p1, .ref (ad 31)]) σ (some (.int res.1)) res.2 := by
  refine Ct.of (ls := fun ad => [(0, .ref (ad 31)), (1, .int p1), (2, .int p2)]) (by decide +kernel) (fun ad => Nat.le_of_ble_eq_true rfl) (fun ad => rfl) (fun X hX hM => ?_)
  replace hX : Ok X RX6 cX6_meetOf 7 1 := hX
  unfold f_M_meetOf at h
  refine JJ.aload_n hX 0 dX6_meetOf_0 rfl ?_
  refine JJ.iload_n hX 1 dX6_meetOf_1 rfl ?_
  refine JJ.iload_n hX 2 dX6_meetOf_2 rfl ?_
  obtain ⟨q1, h1, h⟩ := bnd h
  refine JJ.callVv hX (ct_M_beginPair _ _ _ _ h1) cal_yX6_beginPair cav_yX6_beginPair lm_RX6_148 rfl rfl rfl (Rcv.obj hX (ci := 6) rfl rfl) (Nat.le_of_ble_eq_true rfl) ⟨by decide, by decide⟩ dX6_meetOf_3 ?_
  refine JJ.iconst (v := 0) hX dX6_meetOf_6 (by decide) ?_
  refine JJ.istore_n (ls' := [(0, .ref (xad X 31)), (1, .int p1), (2, .int p2), (3, .int (0 : Int32))]) hX dX6_meetOf_7 (by decide) rfl rfl ?_
  obtain ⟨e20, h20, h⟩ := bnd h
  refine JJ.sub (ls' := [(0, .ref (xad X 31)), (3, .int (0 : Int32))]) [0, 3] rfl ?_
  refine lp_M_meetOf_8 hX res hM 400 _ _ _ h20 (fun v20 hv20 => ?_) (fun r20 hr20 => by subst hr20; exact Option.some.inj h)
  subst hv20
  dsimp only at h
  refine JJ.iconst (v := -1) hX dX6_meetOf_161 (by decide) ?_
  obtain rfl := Option.some.inj h
  exact JJ.iret hX hM dX6_meetOf_162
set_option maxRecDepth 100000 in
theorem ct_M_meet (p1 : Int32) (p2 : Int32) (σ : ST) (res : Int32 × ST) (h : f_M_meet p1 p2 σ = some res) : Ct 2 yX6_meet cX6_meet 3 (some .int) (fun ad => [.int p2, .int p1, .ref (ad 31)]) σ (some (.int res.1)) res.2 := by
  refine Ct.of (ls := fun ad => [(0, .ref (ad 31)), (1, .int p1), (2, .int p2)]) (by decide +kernel) (fun ad => Nat.le_of_ble_eq_true rfl) (fun ad => rfl) (fun X hX hM => ?_)
  replace hX : Ok X RX6 cX6_meet 3 2 := hX
  unfold f_M_meet at h
  refine JJ.aload_n hX 0 dX6_meet_0 rfl ?_
  refine JJ.iload_n hX 1 dX6_meet_1 rfl ?_
  refine JJ.callVi hX (ct_M_isParty _ _ _ rfl) cal_yX6_isParty cav_yX6_isParty lm_RX6_123 rfl rfl rfl (Rcv.obj hX (ci := 6) rfl rfl) (Nat.le_of_ble_eq_true rfl) ⟨by decide, by decide⟩ dX6_meet_2 ?_
  refine JJ.if_eq (tgt := 39) hX dX6_meet_5 (by decide) (fun c1 => ?_) (fun c1 => ?_)
  · replace h := ipos c1 h
    refine JJ.bipush (v := -101) hX dX6_meet_39 (by decide) ?_
    obtain rfl := Option.some.inj h
    exact JJ.iret hX hM dX6_meet_41
  · replace h := ineg c1 h
    refine JJ.aload_n hX 0 dX6_meet_8 rfl ?_
    refine JJ.iload_n hX 2 dX6_meet_9 rfl ?_
    refine JJ.callVi hX (ct_M_isParty _ _ _ rfl) cal_yX6_isParty cav_yX6_isParty lm_RX6_123 rfl rfl rfl (Rcv.obj hX (ci := 6) rfl rfl) (Nat.le_of_ble_eq_true rfl) ⟨by decide, by decide⟩ dX6_meet_10 ?_
    refine JJ.if_eq (tgt := 39) hX dX6_meet_13 (by decide) (fun c2 => ?_) (fun c2 => ?_)
    · replace h := ipos c2 h
      refine JJ.bipush (v := -101) hX dX6_meet_39 (by decide) ?_
      obtain rfl := Option.some.inj h
      exact JJ.iret hX hM dX6_meet_41
    · replace h := ineg c2 h
      refine JJ.aload_n hX 0 dX6_meet_16 rfl ?_
      refine JJ.aload_n hX 0 dX6_meet_17 rfl ?_
      refine fg_X6_22_31 hX dX6_meet_18 ?_
      refine JJ.iconst (v := 4) hX dX6_meet_21 (by decide) ?_
      refine JJ.iload_n hX 1 dX6_meet_22 rfl ?_
      refine JJ.imul hX dX6_meet_23 ?_
      obtain ⟨c3, h⟩ := gte h
      refine ald_36 hX c3 dX6_meet_24 ?_
      refine JJ.aload_n hX 0 dX6_meet_25 rfl ?_
      refine fg_X6_22_31 hX dX6_meet_26 ?_
      refine JJ.iconst (v := 4) hX dX6_meet_29 (by decide) ?_
      refine JJ.iload_n hX 2 dX6_meet_30 rfl ?_
      refine JJ.imul hX dX6_meet_31 ?_
      obtain ⟨c4, h⟩ := gte h
      refine ald_36 hX c4 dX6_meet_32 ?_
      obtain ⟨q5, h5, h⟩ := bnd h
      refine JJ.callVi hX (ct_M_meetOf _ _ _ _ h5) cal_yX6_meetOf cav_yX6_meetOf lm_RX6_152 rfl rfl rfl (Rcv.obj hX (ci := 6) rfl rfl) (Nat.le_of_ble_eq_true rfl) ⟨by decide, by decide⟩ dX6_meet_33 ?_
      refine JJ.goto (tgt := 41) hX dX6_meet_36 (by decide) ?_
      obtain rfl := Option.some.inj h
      exact JJ.iret hX hM dX6_meet_41
set_option maxRecDepth 100000 in
theorem ct_Ways_firstOfApart (p1 : Int32) (p2 : Int32) (σ : ST) (res : Int32) (h : f_Ways_firstOfApart p1 p2 σ = res) : Ct 3 yX4_firstOfApart cX4_firstOfApart 3 (some .int) (fun ad => [.int p2, .int p1, .ref (ad 7)]) σ (some (.int res)) σ := by
  refine Ct.of (ls := fun ad => [(0, .ref (ad 7)), (1, .int p1), (2, .int p2)]) (by decide +kernel) (fun ad => Nat.le_of_ble_eq_true rfl) (fun ad => rfl) (fun X hX hM => ?_)
  replace hX : Ok X RX4 cX4_firstOfApart 3 3 := hX
  unfold f_Ways_firstOfApart at h
  refine JJ.aload_n hX 0 dX4_firstOfApart_0 rfl ?_
  refine fg_X4_24_7 hX dX4_firstOfApart_1 ?_
  refine JJ.iload_n hX 1 dX4_firstOfApart_4 rfl ?_
  refine JJ.iload_n hX 2 dX4_firstOfApart_5 rfl ?_
  refine JJ.callVi hX (ct_Table_get_11 _ _ _ _ rfl) cal_yX3_get cav_yX3_get lm_RX4_45 rfl rfl rfl (Rcv.obj hX (ci := 3) rfl rfl) (Nat.le_of_ble_eq_true rfl) ⟨by decide, by decide⟩ dX4_firstOfApart_6 ?_
  refine JJ.aload_n hX 0 dX4_firstOfApart_9 rfl ?_
  refine JJ.iload_n hX 1 dX4_firstOfApart_10 rfl ?_
  refine JJ.iload_n hX 2 dX4_firstOfApart_11 rfl ?_
  refine JJ.iconst (v := 0) hX dX4_firstOfApart_12 (by decide) ?_
  refine JJ.callVi hX (ct_Ways_apartAfter _ _ _ _ _ rfl) cal_yX4_apartAfter cav_yX4_apartAfter lm_RX4_58 rfl rfl rfl (Rcv.obj hX (ci := 4) rfl rfl) (Nat.le_of_ble_eq_true rfl) ⟨by decide, by decide⟩ dX4_firstOfApart_13 ?_
  refine JJ.aload_n hX 0 dX4_firstOfApart_16 rfl ?_
  refine JJ.iload_n hX 1 dX4_firstOfApart_17 rfl ?_
  refine JJ.iload_n hX 2 dX4_firstOfApart_18 rfl ?_
  refine JJ.iconst (v := 1) hX dX4_firstOfApart_19 (by decide) ?_
  refine JJ.callVi hX (ct_Ways_apartAfter _ _ _ _ _ rfl) cal_yX4_apartAfter cav_yX4_apartAfter lm_RX4_58 rfl rfl rfl (Rcv.obj hX (ci := 4) rfl rfl) (Nat.le_of_ble_eq_true rfl) ⟨by decide, by decide⟩ dX4_firstOfApart_20 ?_
  refine JJ.callSi hX (ct_Ways_firstBy _ _ _ _ _ rfl) cal_yX4_firstBy cas_yX4_firstBy lm_RX4_54 rfl rfl (Nat.le_of_ble_eq_true rfl) ⟨by decide, by decide⟩ dX4_firstOfApart_23 ?_
  subst h
  exact JJ.iret hX hM dX4_firstOfApart_26
set_option maxRecDepth 100000 in
theorem ct_LT_apart (p1 : Int32) (p2 : Int32) (p3 : Int32) (σ : ST) (res : Int32) (h : f_LT_apart p1 p2 p3 σ = res) : Ct 4 yX5_apart cX5_apart 4 (some .int) (fun ad => [.int p3, .int p2, .int p1, .ref (ad 0)]) σ (some (.int res)) σ := by
  refine Ct.of (ls := fun ad => [(0, .ref (ad 0)), (1, .int p1), (2, .int p2), (3, .int p3)]) (by decide +kernel) (fun ad => Nat.le_of_ble_eq_true rfl) (fun ad => rfl) (fun X hX hM => ?_)
  replace hX : Ok X RX5 cX5_apart 4 4 := hX
  unfold f_LT_apart at h
  refine JJ.aload_n hX 0 dX5_apart_0 rfl ?_
  refine fg_X5_19_0 hX dX5_apart_1 ?_
  refine JJ.iload_n hX 1 dX5_apart_4 rfl ?_
  refine JJ.callVi hX (ct_Mine_has _ _ _ rfl) cal_yX1_has cav_yX1_has lm_RX5_76 rfl rfl rfl (Rcv.obj hX (ci := 1) rfl rfl) (Nat.le_of_ble_eq_true rfl) ⟨by decide, by decide⟩ dX5_apart_5 ?_
  refine JJ.if_eq (tgt := 22) hX dX5_apart_8 (by decide) (fun c1 => ?_) (fun c1 => ?_)
  · replace h := ipos c1 h
    refine JJ.bipush (v := -101) hX dX5_apart_22 (by decide) ?_
    subst h
    exact JJ.iret hX hM dX5_apart_24
  · replace h := ineg c1 h
    refine JJ.aload_n hX 0 dX5_apart_11 rfl ?_
    refine fg_X5_19_0 hX dX5_apart_12 ?_
    refine JJ.iload_n hX 2 dX5_apart_15 rfl ?_
    refine JJ.callVi hX (ct_Mine_has _ _ _ rfl) cal_yX1_has cav_yX1_has lm_RX5_76 rfl rfl rfl (Rcv.obj hX (ci := 1) rfl rfl) (Nat.le_of_ble_eq_true rfl) ⟨by decide, by decide⟩ dX5_apart_16 ?_
    refine JJ.if_ne (tgt := 25) hX dX5_apart_19 (by decide) (fun c2 => ?_) (fun c2 => ?_)
    · replace h := ineg c2 h
      refine JJ.iload_n hX 3 dX5_apart_25 rfl ?_
      by_cases c3 : p3 = (0 : Int32)
      · replace h := ipos c3 h
        refine JJ.lookup (off := 26) (tgt := 52) hX dX5_apart_26 (by decide) (by rw [c3]; rfl) (by decide) ?_
        refine JJ.aload_n hX 0 dX5_apart_52 rfl ?_
        refine fg_X5_28_0 hX dX5_apart_53 ?_
        refine fg_X5_170_7 hX dX5_apart_56 ?_
        refine JJ.iload_n hX 1 dX5_apart_59 rfl ?_
        refine JJ.iload_n hX 2 dX5_apart_60 rfl ?_
        refine JJ.callVi hX (ct_Table_get_11 _ _ _ _ rfl) cal_yX3_get cav_yX3_get lm_RX5_148 rfl rfl rfl (Rcv.obj hX (ci := 3) rfl rfl) (Nat.le_of_ble_eq_true rfl) ⟨by decide, by decide⟩ dX5_apart_61 ?_
        refine JJ.callSi hX (ct_LT_orNone _ _ _ rfl) cal_yX5_orNone cas_yX5_orNone lm_RX5_153 rfl rfl (Nat.le_of_ble_eq_true rfl) ⟨by decide, by decide⟩ dX5_apart_64 ?_
        subst h
        exact JJ.iret hX hM dX5_apart_67
      · replace h := ineg c3 h
        by_cases c4 : p3 = (1 : Int32)
        · replace h := ipos c4 h
          refine JJ.lookup (off := 42) (tgt := 68) hX dX5_apart_26 (by decide) (by rw [c4]; rfl) (by decide) ?_
          refine JJ.aload_n hX 0 dX5_apart_68 rfl ?_
          refine fg_X5_28_0 hX dX5_apart_69 ?_
          refine JJ.iload_n hX 1 dX5_apart_72 rfl ?_
          refine JJ.iload_n hX 2 dX5_apart_73 rfl ?_
          refine JJ.callVi hX (ct_Ways_firstOfApart _ _ _ _ rfl) cal_yX4_firstOfApart cav_yX4_firstOfApart lm_RX5_173 rfl rfl rfl (Rcv.obj hX (ci := 4) rfl rfl) (Nat.le_of_ble_eq_true rfl) ⟨by decide, by decide⟩ dX5_apart_74 ?_
          subst h
          exact JJ.iret hX hM dX5_apart_77
        · replace h := ineg c4 h
          refine JJ.lookup (off := 52) (tgt := 78) hX dX5_apart_26 (by decide) (lk_out2 (a := 0) (b := 1) (o0 := 26) (o1 := 42) c3 c4) (by decide) ?_
          refine JJ.bipush (v := -102) hX dX5_apart_78 (by decide) ?_
          subst h
          exact JJ.iret hX hM dX5_apart_80
    · replace h := ipos c2 h
      refine JJ.bipush (v := -101) hX dX5_apart_22 (by decide) ?_
      subst h
      exact JJ.iret hX hM dX5_apart_24
set_option maxRecDepth 100000 in
theorem lp_M_apartFrom_61 {X : CX} (hX : Ok X RX6 cX6_apartFrom 7 1) : ∀ (n : Nat) (x3 : Int32) (x4 : Int32) (x5 : Int32) (σ : ST) (e : (ST)), f_M_apartFrom_L61 n x3 x4 x5 σ = some e → JJ X 153 [(0, .ref (xad X 31)), (3, .int x3), (4, .int x4)] [] e → JJ X 61 [(0, .ref (xad X 31)), (3, .int x3), (4, .int x4), (5, .int x5)] [] σ := by
  intro n
  induction n with
  | zero =>
    intro x3 x4 x5 σ e h
    rw [f_M_apartFrom_L61] at h
    cases h
  | succ n ih =>
    intro x3 x4 x5 σ e h K
    rw [f_M_apartFrom_L61] at h
    refine JJ.iload hX 3 dX6_apartFrom_61 rfl ?_
    refine JJ.iconst (v := 2) hX dX6_apartFrom_63 (by decide) ?_
    refine JJ.icmp_ge (tgt := 153) hX dX6_apartFrom_64 (by decide) (fun c6 => ?_) (fun c6 => ?_)
    · replace h := ipos c6 h
      obtain rfl := Option.some.inj h
      exact JJ.sub [0, 1, 2] rfl K
    · replace h := ineg c6 h
      refine JJ.aload_n hX 0 dX6_apartFrom_67 rfl ?_
      refine fg_X6_31_31 hX dX6_apartFrom_68 ?_
      refine JJ.iload hX 2 dX6_apartFrom_71 rfl ?_
      obtain ⟨c7, h⟩ := gte h
      refine ald_39 hX c7 dX6_apartFrom_73 ?_
      refine JJ.iload_n hX 1 dX6_apartFrom_74 rfl ?_
      refine JJ.icmp_ne (tgt := 153) hX dX6_apartFrom_75 (by decide) (fun c8 => ?_) (fun c8 => ?_)
      · replace h := ineg c8 h
        obtain rfl := Option.some.inj h
        exact JJ.sub [0, 1, 2] rfl K
      · replace h := ipos c8 h
        refine JJ.bipush (v := 6) hX dX6_apartFrom_78 (by decide) ?_
        refine JJ.aload_n hX 0 dX6_apartFrom_80 rfl ?_
        refine fg_X6_19_31 hX dX6_apartFrom_81 ?_
        refine JJ.iconst (v := 2) hX dX6_apartFrom_84 (by decide) ?_
        refine JJ.iload hX 2 dX6_apartFrom_85 rfl ?_
        refine JJ.bipush (v := 6) hX dX6_apartFrom_87 (by decide) ?_
        refine JJ.idiv hX dX6_apartFrom_89 (by decide) ?_
        refine JJ.imul hX dX6_apartFrom_90 ?_
        refine JJ.iload hX 3 dX6_apartFrom_91 rfl ?_
        refine JJ.iadd hX dX6_apartFrom_93 ?_
        obtain ⟨c9, h⟩ := gte h
        refine ald_35 hX c9 dX6_apartFrom_94 ?_
        refine JJ.imul hX dX6_apartFrom_95 ?_
        refine JJ.aload_n hX 0 dX6_apartFrom_96 rfl ?_
        refine fg_X6_19_31 hX dX6_apartFrom_97 ?_
        refine JJ.iconst (v := 2) hX dX6_apartFrom_100 (by decide) ?_
        refine JJ.iload hX 2 dX6_apartFrom_101 rfl ?_
        refine JJ.bipush (v := 6) hX dX6_apartFrom_103 (by decide) ?_
        refine JJ.irem hX dX6_apartFrom_105 (by decide) ?_
        refine JJ.imul hX dX6_apartFrom_106 ?_
        refine JJ.iload hX 3 dX6_apartFrom_107 rfl ?_
        refine JJ.iadd hX dX6_apartFrom_109 ?_
        obtain ⟨c10, h⟩ := gte h
        refine ald_35 hX c10 dX6_apartFrom_110 ?_
        refine JJ.iadd hX dX6_apartFrom_111 ?_
        refine JJ.istore (ls' := [(0, .ref (xad X 31)), (3, .int x3), (4, .int x4), (5, .int x5), (6, .int (((6 : Int32) * (gA σ 35 (((2 : Int32) * (x4 / (6 : Int32))) + x5).toNatClampNeg)) + (gA σ 35 (((2 : Int32) * (x4 - x4 / (6 : Int32) * (6 : Int32))) + x5).toNatClampNeg)))]) hX dX6_apartFrom_112 (by decide) rfl rfl ?_
        refine JJ.aload_n hX 0 dX6_apartFrom_114 rfl ?_
        refine fg_X6_31_31 hX dX6_apartFrom_115 ?_
        refine JJ.iload hX 4 dX6_apartFrom_118 rfl ?_
        refine JJ.aload_n hX 0 dX6_apartFrom_120 rfl ?_
        refine fg_X6_31_31 hX dX6_apartFrom_121 ?_
        refine JJ.iload hX 4 dX6_apartFrom_124 rfl ?_
        obtain ⟨c11, h⟩ := gte h
        refine ald_39 hX c11 dX6_apartFrom_126 ?_
        refine JJ.sipush (v := 9999) hX dX6_apartFrom_127 (by decide) ?_
        refine JJ.icmp_ne (tgt := 139) hX dX6_apartFrom_130 (by decide) (fun c12 => ?_) (fun c12 => ?_)
        · replace h := ineg c12 h
          refine JJ.aload_n hX 0 dX6_apartFrom_139 rfl ?_
          refine fg_X6_31_31 hX dX6_apartFrom_140 ?_
          refine JJ.iload hX 4 dX6_apartFrom_143 rfl ?_
          obtain ⟨c13, h⟩ := gte h
          refine ald_39 hX c13 dX6_apartFrom_145 ?_
          obtain ⟨c14, h⟩ := gte h
          refine ast_39 hX c14 dX6_apartFrom_146 ?_
          refine JJ.iinc (v := 1) (ls' := [(0, .ref (xad X 31)), (3, .int x3), (4, .int x4), (5, .int (x5 + (1 : Int32))), (6, .int (((6 : Int32) * (gA σ 35 (((2 : Int32) * (x4 / (6 : Int32))) + x5).toNatClampNeg)) + (gA σ 35 (((2 : Int32) * (x4 - x4 / (6 : Int32) * (6 : Int32))) + x5).toNatClampNeg)))]) hX 3 dX6_apartFrom_147 rfl (by decide) (by decide) rfl rfl ?_
          refine JJ.goto (tgt := 61) hX dX6_apartFrom_150 (by decide) ?_
          refine JJ.sub (ls' := [(0, .ref (xad X 31)), (3, .int x3), (4, .int x4), (5, .int (x5 + (1 : Int32)))]) [0, 1, 2, 3] rfl ?_
          exact ih _ _ _ _ _ h K
        · replace h := ipos c12 h
          refine JJ.iload_n hX 1 dX6_apartFrom_133 rfl ?_
          refine JJ.iconst (v := 1) hX dX6_apartFrom_134 (by decide) ?_
          refine JJ.iadd hX dX6_apartFrom_135 ?_
          refine JJ.goto (tgt := 146) hX dX6_apartFrom_136 (by decide) ?_
          obtain ⟨c15, h⟩ := gte h
          refine ast_39 hX c15 dX6_apartFrom_146 ?_
          refine JJ.iinc (v := 1) (ls' := [(0, .ref (xad X 31)), (3, .int x3), (4, .int x4), (5, .int (x5 + (1 : Int32))), (6, .int (((6 : Int32) * (gA σ 35 (((2 : Int32) * (x4 / (6 : Int32))) + x5).toNatClampNeg)) + (gA σ 35 (((2 : Int32) * (x4 - x4 / (6 : Int32) * (6 : Int32))) + x5).toNatClampNeg)))]) hX 3 dX6_apartFrom_147 rfl (by decide) (by decide) rfl rfl ?_
          refine JJ.goto (tgt := 61) hX dX6_apartFrom_150 (by decide) ?_
          refine JJ.sub (ls' := [(0, .ref (xad X 31)), (3, .int x3), (4, .int x4), (5, .int (x5 + (1 : Int32)))]) [0, 1, 2, 3] rfl ?_
          exact ih _ _ _ _ _ h K
set_option maxRecDepth 100000 in
theorem lp_M_apartFrom_17 {X : CX} (hX : Ok X RX6 cX6_apartFrom 7 1) (res : Int32 × ST) (hM : OkM X (some .int) (some (.int res.1)) res.2) : ∀ (n : Nat) (x3 : Int32) (x4 : Int32) (σ : ST) (e : ((ST) ⊕ (Int32 × ST))), f_M_apartFrom_L17 n x3 x4 σ = some e → (∀ v, e = .inl v → JJ X 159 [(0, .ref (xad X 31)), (3, .int x3)] [] v) → (∀ r, e = .inr r → r = res) → JJ X 17 [(0, .ref (xad X 31)), (3, .int x3), (4, .int x4)] [] σ := by
  intro n
  induction n with
  | zero =>
    intro x3 x4 σ e h
    rw [f_M_apartFrom_L17] at h
    cases h
  | succ n ih =>
    intro x3 x4 σ e h K Kr
    rw [f_M_apartFrom_L17] at h
    refine JJ.iload hX 2 dX6_apartFrom_17 rfl ?_
    refine JJ.bipush (v := 36) hX dX6_apartFrom_19 (by decide) ?_
    refine JJ.icmp_ge (tgt := 159) hX dX6_apartFrom_21 (by decide) (fun c3 => ?_) (fun c3 => ?_)
    · replace h := ipos c3 h
      obtain rfl := Option.some.inj h
      exact JJ.sub [0, 1] rfl (K _ rfl)
    · replace h := ineg c3 h
      refine JJ.aload_n hX 0 dX6_apartFrom_24 rfl ?_
      refine fg_X6_31_31 hX dX6_apartFrom_25 ?_
      refine JJ.iload hX 2 dX6_apartFrom_28 rfl ?_
      obtain ⟨c4, h⟩ := gte h
      refine ald_39 hX c4 dX6_apartFrom_30 ?_
      refine JJ.iload_n hX 1 dX6_apartFrom_31 rfl ?_
      refine JJ.icmp_ne (tgt := 58) hX dX6_apartFrom_32 (by decide) (fun c5 => ?_) (fun c5 => ?_)
      · replace h := ineg c5 h
        refine JJ.iconst (v := 0) hX dX6_apartFrom_58 (by decide) ?_
        refine JJ.istore (ls' := [(0, .ref (xad X 31)), (3, .int x3), (4, .int x4), (5, .int (0 : Int32))]) hX dX6_apartFrom_59 (by decide) rfl rfl ?_
        obtain ⟨e16, h16, h⟩ := bnd h
        refine lp_M_apartFrom_61 hX 400 _ _ _ _ _ h16 ?_
        refine JJ.iinc (v := 1) (ls' := [(0, .ref (xad X 31)), (3, .int x3), (4, .int (x4 + (1 : Int32)))]) hX 2 dX6_apartFrom_153 rfl (by decide) (by decide) rfl rfl ?_
        refine JJ.goto (tgt := 17) hX dX6_apartFrom_156 (by decide) ?_
        exact ih _ _ _ _ h K Kr
      · replace h := ipos c5 h
        refine JJ.aload_n hX 0 dX6_apartFrom_35 rfl ?_
        refine JJ.iload hX 2 dX6_apartFrom_36 rfl ?_
        refine JJ.bipush (v := 6) hX dX6_apartFrom_38 (by decide) ?_
        refine JJ.idiv hX dX6_apartFrom_40 (by decide) ?_
        obtain ⟨q17, h17, h⟩ := bnd h
        refine JJ.callVi hX (ct_M_soundOf _ _ _ h17) cal_yX6_soundOf cav_yX6_soundOf lm_RX6_99 rfl rfl rfl (Rcv.obj hX (ci := 6) rfl rfl) (Nat.le_of_ble_eq_true rfl) ⟨by decide, by decide⟩ dX6_apartFrom_41 ?_
        refine JJ.aload_n hX 0 dX6_apartFrom_44 rfl ?_
        refine JJ.iload hX 2 dX6_apartFrom_45 rfl ?_
        refine JJ.bipush (v := 6) hX dX6_apartFrom_47 (by decide) ?_
        refine JJ.irem hX dX6_apartFrom_49 (by decide) ?_
        obtain ⟨q18, h18, h⟩ := bnd h
        refine JJ.callVi hX (ct_M_soundOf _ _ _ h18) cal_yX6_soundOf cav_yX6_soundOf lm_RX6_99 rfl rfl rfl (Rcv.obj hX (ci := 6) rfl rfl) (Nat.le_of_ble_eq_true rfl) ⟨by decide, by decide⟩ dX6_apartFrom_50 ?_
        refine JJ.icmp_eq (tgt := 58) hX dX6_apartFrom_53 (by decide) (fun c19 => ?_) (fun c19 => ?_)
        · replace h := ipos c19 h
          refine JJ.iconst (v := 0) hX dX6_apartFrom_58 (by decide) ?_
          refine JJ.istore (ls' := [(0, .ref (xad X 31)), (3, .int x3), (4, .int x4), (5, .int (0 : Int32))]) hX dX6_apartFrom_59 (by decide) rfl rfl ?_
          obtain ⟨e20, h20, h⟩ := bnd h
          refine lp_M_apartFrom_61 hX 400 _ _ _ _ _ h20 ?_
          refine JJ.iinc (v := 1) (ls' := [(0, .ref (xad X 31)), (3, .int x3), (4, .int (x4 + (1 : Int32)))]) hX 2 dX6_apartFrom_153 rfl (by decide) (by decide) rfl rfl ?_
          refine JJ.goto (tgt := 17) hX dX6_apartFrom_156 (by decide) ?_
          exact ih _ _ _ _ h K Kr
        · replace h := ineg c19 h
          refine JJ.iload_n hX 1 dX6_apartFrom_56 rfl ?_
          have hr := Kr _ (Option.some.inj h).symm
          subst hr
          exact JJ.iret hX hM dX6_apartFrom_57
set_option maxRecDepth 100000 in
theorem lp_M_apartFrom_8 {X : CX} (hX : Ok X RX6 cX6_apartFrom 7 1) (res : Int32 × ST) (hM : OkM X (some .int) (some (.int res.1)) res.2) : ∀ (n : Nat) (x3 : Int32) (σ : ST) (e : ((ST) ⊕ (Int32 × ST))), f_M_apartFrom_L8 n x3 σ = some e → (∀ v, e = .inl v → JJ X 165 [] [] v) → (∀ r, e = .inr r → r = res) → JJ X 8 [(0, .ref (xad X 31)), (3, .int x3)] [] σ := by
  intro n
  induction n with
  | zero =>
    intro x3 σ e h
    rw [f_M_apartFrom_L8] at h
    cases h
  | succ n ih =>
    intro x3 σ e h K Kr
    rw [f_M_apartFrom_L8] at h
    refine JJ.iload_n hX 1 dX6_apartFrom_8 rfl ?_
    refine JJ.bipush (v := 36) hX dX6_apartFrom_9 (by decide) ?_
    refine JJ.icmp_ge (tgt := 165) hX dX6_apartFrom_11 (by decide) (fun c2 => ?_) (fun c2 => ?_)
    · replace h := ipos c2 h
      obtain rfl := Option.some.inj h
      exact JJ.sub [] rfl (K _ rfl)
    · replace h := ineg c2 h
      refine JJ.iconst (v := 0) hX dX6_apartFrom_14 (by decide) ?_
      refine JJ.istore (ls' := [(0, .ref (xad X 31)), (3, .int x3), (4, .int (0 : Int32))]) hX dX6_apartFrom_15 (by decide) rfl rfl ?_
      obtain ⟨e21, h21, h⟩ := bnd h
      refine lp_M_apartFrom_17 hX res hM 400 _ _ _ _ h21 (fun v21 hv21 => ?_) (fun r21 hr21 => by subst hr21; exact Kr _ (Option.some.inj h).symm)
      subst hv21
      dsimp only at h
      refine JJ.iinc (v := 1) (ls' := [(0, .ref (xad X 31)), (3, .int (x3 + (1 : Int32)))]) hX 1 dX6_apartFrom_159 rfl (by decide) (by decide) rfl rfl ?_
      refine JJ.goto (tgt := 8) hX dX6_apartFrom_162 (by decide) ?_
      exact ih _ _ _ h K Kr
set_option maxRecDepth 100000 in
theorem ct_M_apartFrom (p1 : Int32) (p2 : Int32) (σ : ST) (res : Int32 × ST) (h : f_M_apartFrom p1 p2 σ = some res) : Ct 1 yX6_apartFrom cX6_apartFrom 7 (some .int) (fun ad => [.int p2, .int p1, .ref (ad 31)]) σ (some (.int res.1)) res.2 := by
  refine Ct.of (ls := fun ad => [(0, .ref (ad 31)), (1, .int p1), (2, .int p2)]) (by decide +kernel) (fun ad => Nat.le_of_ble_eq_true rfl) (fun ad => rfl) (fun X hX hM => ?_)
  replace hX : Ok X RX6 cX6_apartFrom 7 1 := hX
  unfold f_M_apartFrom at h
  refine JJ.aload_n hX 0 dX6_apartFrom_0 rfl ?_
  refine JJ.iload_n hX 1 dX6_apartFrom_1 rfl ?_
  refine JJ.iload_n hX 2 dX6_apartFrom_2 rfl ?_
  obtain ⟨q1, h1, h⟩ := bnd h
  refine JJ.callVv hX (ct_M_beginPair _ _ _ _ h1) cal_yX6_beginPair cav_yX6_beginPair lm_RX6_148 rfl rfl rfl (Rcv.obj hX (ci := 6) rfl rfl) (Nat.le_of_ble_eq_true rfl) ⟨by decide, by decide⟩ dX6_apartFrom_3 ?_
  refine JJ.iconst (v := 0) hX dX6_apartFrom_6 (by decide) ?_
  refine JJ.istore_n (ls' := [(0, .ref (xad X 31)), (1, .int p1), (2, .int p2), (3, .int (0 : Int32))]) hX dX6_apartFrom_7 (by decide) rfl rfl ?_
  obtain ⟨e22, h22, h⟩ := bnd h
  refine JJ.sub (ls' := [(0, .ref (xad X 31)), (3, .int (0 : Int32))]) [0, 3] rfl ?_
  refine lp_M_apartFrom_8 hX res hM 400 _ _ _ h22 (fun v22 hv22 => ?_) (fun r22 hr22 => by subst hr22; exact Option.some.inj h)
  subst hv22
  dsimp only at h
  refine JJ.sipush (v := 9999) hX dX6_apartFrom_165 (by decide) ?_
  obtain rfl := Option.some.inj h
  exact JJ.iret hX hM dX6_apartFrom_168
set_option maxRecDepth 100000 in
theorem ct_M_apartOf (p1 : Int32) (p2 : Int32) (p3 : Int32) (σ : ST) (res : Int32 × ST) (h : f_M_apartOf p1 p2 p3 σ = some res) : Ct 2 yX6_apartOf cX6_apartOf 5 (some .int) (fun ad => [.int p3, .int p2, .int p1, .ref (ad 31)]) σ (some (.int res.1)) res.2 := by
  refine Ct.of (ls := fun ad => [(0, .ref (ad 31)), (1, .int p1), (2, .int p2), (3, .int p3)]) (by decide +kernel) (fun ad => Nat.le_of_ble_eq_true rfl) (fun ad => rfl) (fun X hX hM => ?_)
  replace hX : Ok X RX6 cX6_apartOf 5 2 := hX
  unfold f_M_apartOf at h
  refine JJ.aload_n hX 0 dX6_apartOf_0 rfl ?_
  refine JJ.iload_n hX 1 dX6_apartOf_1 rfl ?_
  refine JJ.iload_n hX 2 dX6_apartOf_2 rfl ?_
  obtain ⟨q1, h1, h⟩ := bnd h
  refine JJ.callVi hX (ct_M_apartFrom _ _ _ _ h1) cal_yX6_apartFrom cav_yX6_apartFrom lm_RX6_155 rfl rfl rfl (Rcv.obj hX (ci := 6) rfl rfl) (Nat.le_of_ble_eq_true rfl) ⟨by decide, by decide⟩ dX6_apartOf_3 ?_
  refine JJ.istore (ls' := [(0, .ref (xad X 31)), (1, .int p1), (2, .int p2), (3, .int p3), (4, .int q1.1)]) hX dX6_apartOf_6 (by decide) rfl rfl ?_
  refine JJ.iload hX 4 dX6_apartOf_8 rfl ?_
  refine JJ.sipush (v := 9999) hX dX6_apartOf_10 (by decide) ?_
  refine JJ.icmp_ne (tgt := 18) hX dX6_apartOf_13 (by decide) (fun c2 => ?_) (fun c2 => ?_)
  · replace h := ineg c2 h
    refine JJ.iload_n hX 3 dX6_apartOf_18 rfl ?_
    refine JJ.if_ne (tgt := 25) hX dX6_apartOf_19 (by decide) (fun c3 => ?_) (fun c3 => ?_)
    · replace h := ineg c3 h
      refine JJ.iload hX 4 dX6_apartOf_25 rfl ?_
      refine JJ.if_ne (tgt := 34) hX dX6_apartOf_27 (by decide) (fun c4 => ?_) (fun c4 => ?_)
      · replace h := ineg c4 h
        refine JJ.aload_n hX 0 dX6_apartOf_34 rfl ?_
        refine JJ.aload_n hX 0 dX6_apartOf_35 rfl ?_
        refine fg_X6_19_31 hX dX6_apartOf_36 ?_
        refine JJ.iconst (v := 2) hX dX6_apartOf_39 (by decide) ?_
        refine JJ.iload_n hX 1 dX6_apartOf_40 rfl ?_
        refine JJ.imul hX dX6_apartOf_41 ?_
        obtain ⟨c5, h⟩ := gte h
        refine ald_35 hX c5 dX6_apartOf_42 ?_
        refine JJ.aload_n hX 0 dX6_apartOf_43 rfl ?_
        refine fg_X6_19_31 hX dX6_apartOf_44 ?_
        refine JJ.iconst (v := 2) hX dX6_apartOf_47 (by decide) ?_
        refine JJ.iload_n hX 2 dX6_apartOf_48 rfl ?_
        refine JJ.imul hX dX6_apartOf_49 ?_
        obtain ⟨c6, h⟩ := gte h
        refine ald_35 hX c6 dX6_apartOf_50 ?_
        obtain ⟨q7, h7, h⟩ := bnd h
        refine JJ.callVi hX (ct_M_apartFrom _ _ _ _ h7) cal_yX6_apartFrom cav_yX6_apartFrom lm_RX6_155 rfl rfl rfl (Rcv.obj hX (ci := 6) rfl rfl) (Nat.le_of_ble_eq_true rfl) ⟨by decide, by decide⟩ dX6_apartOf_51 ?_
        refine JJ.iload hX 4 dX6_apartOf_54 rfl ?_
        refine JJ.iconst (v := 1) hX dX6_apartOf_56 (by decide) ?_
        refine JJ.isub hX dX6_apartOf_57 ?_
        refine JJ.icmp_ne (tgt := 65) hX dX6_apartOf_58 (by decide) (fun c8 => ?_) (fun c8 => ?_)
        · replace h := ineg c8 h
          refine JJ.iconst (v := 1) hX dX6_apartOf_65 (by decide) ?_
          obtain rfl := Option.some.inj h
          exact JJ.iret hX hM dX6_apartOf_66
        · replace h := ipos c8 h
          refine JJ.iconst (v := 0) hX dX6_apartOf_61 (by decide) ?_
          refine JJ.goto (tgt := 66) hX dX6_apartOf_62 (by decide) ?_
          obtain rfl := Option.some.inj h
          exact JJ.iret hX hM dX6_apartOf_66
      · replace h := ipos c4 h
        refine JJ.iconst (v := -1) hX dX6_apartOf_30 (by decide) ?_
        refine JJ.goto (tgt := 66) hX dX6_apartOf_31 (by decide) ?_
        obtain rfl := Option.some.inj h
        exact JJ.iret hX hM dX6_apartOf_66
    · replace h := ipos c3 h
      refine JJ.iload hX 4 dX6_apartOf_22 rfl ?_
      obtain rfl := Option.some.inj h
      exact JJ.iret hX hM dX6_apartOf_24
  · replace h := ipos c2 h
    refine JJ.iconst (v := -1) hX dX6_apartOf_16 (by decide) ?_
    obtain rfl := Option.some.inj h
    exact JJ.iret hX hM dX6_apartOf_17
set_option maxRecDepth 100000 in
theorem ct_M_apart (p1 : Int32) (p2 : Int32) (p3 : Int32) (σ : ST) (res : Int32 × ST) (h : f_M_apart p1 p2 p3 σ = some res) : Ct 3 yX6_apart cX6_apart 4 (some .int) (fun ad => [.int p3, .int p2, .int p1, .ref (ad 31)]) σ (some (.int res.1)) res.2 := by
  refine Ct.of (ls := fun ad => [(0, .ref (ad 31)), (1, .int p1), (2, .int p2), (3, .int p3)]) (by decide +kernel) (fun ad => Nat.le_of_ble_eq_true rfl) (fun ad => rfl) (fun X hX hM => ?_)
  replace hX : Ok X RX6 cX6_apart 4 3 := hX
  unfold f_M_apart at h
  refine JJ.aload_n hX 0 dX6_apart_0 rfl ?_
  refine JJ.iload_n hX 1 dX6_apart_1 rfl ?_
  refine JJ.callVi hX (ct_M_isCrossing _ _ _ rfl) cal_yX6_isCrossing cav_yX6_isCrossing lm_RX6_108 rfl rfl rfl (Rcv.obj hX (ci := 6) rfl rfl) (Nat.le_of_ble_eq_true rfl) ⟨by decide, by decide⟩ dX6_apart_2 ?_
  refine JJ.if_eq (tgt := 16) hX dX6_apart_5 (by decide) (fun c1 => ?_) (fun c1 => ?_)
  · replace h := ipos c1 h
    refine JJ.bipush (v := -101) hX dX6_apart_16 (by decide) ?_
    obtain rfl := Option.some.inj h
    exact JJ.iret hX hM dX6_apart_18
  · replace h := ineg c1 h
    refine JJ.aload_n hX 0 dX6_apart_8 rfl ?_
    refine JJ.iload_n hX 2 dX6_apart_9 rfl ?_
    refine JJ.callVi hX (ct_M_isCrossing _ _ _ rfl) cal_yX6_isCrossing cav_yX6_isCrossing lm_RX6_108 rfl rfl rfl (Rcv.obj hX (ci := 6) rfl rfl) (Nat.le_of_ble_eq_true rfl) ⟨by decide, by decide⟩ dX6_apart_10 ?_
    refine JJ.if_ne (tgt := 19) hX dX6_apart_13 (by decide) (fun c2 => ?_) (fun c2 => ?_)
    · replace h := ineg c2 h
      refine JJ.iload_n hX 3 dX6_apart_19 rfl ?_
      refine JJ.i2l hX dX6_apart_20 ?_
      refine JJ.lconst (v := 0) hX dX6_apart_21 (by decide) ?_
      refine JJ.lconst (v := 1) hX dX6_apart_22 (by decide) ?_
      refine JJ.callSi hX (ct_M_in _ _ _ _ _ rfl) cal_yX6_in cas_yX6_in lm_RX6_49 rfl rfl (Nat.le_of_ble_eq_true rfl) ⟨by decide, by decide⟩ dX6_apart_23 ?_
      refine JJ.if_eq (tgt := 39) hX dX6_apart_26 (by decide) (fun c3 => ?_) (fun c3 => ?_)
      · replace h := ipos c3 h
        refine JJ.bipush (v := -102) hX dX6_apart_39 (by decide) ?_
        obtain rfl := Option.some.inj h
        exact JJ.iret hX hM dX6_apart_41
      · replace h := ineg c3 h
        refine JJ.aload_n hX 0 dX6_apart_29 rfl ?_
        refine JJ.iload_n hX 1 dX6_apart_30 rfl ?_
        refine JJ.iload_n hX 2 dX6_apart_31 rfl ?_
        refine JJ.iload_n hX 3 dX6_apart_32 rfl ?_
        obtain ⟨q4, h4, h⟩ := bnd h
        refine JJ.callVi hX (ct_M_apartOf _ _ _ _ _ h4) cal_yX6_apartOf cav_yX6_apartOf lm_RX6_158 rfl rfl rfl (Rcv.obj hX (ci := 6) rfl rfl) (Nat.le_of_ble_eq_true rfl) ⟨by decide, by decide⟩ dX6_apart_33 ?_
        refine JJ.goto (tgt := 41) hX dX6_apart_36 (by decide) ?_
        obtain rfl := Option.some.inj h
        exact JJ.iret hX hM dX6_apart_41
    · replace h := ipos c2 h
      refine JJ.bipush (v := -101) hX dX6_apart_16 (by decide) ?_
      obtain rfl := Option.some.inj h
      exact JJ.iret hX hM dX6_apart_18
set_option maxRecDepth 100000 in
theorem ct_Camp_note_17 (p1 : Int32) (p2 : Int32) (σ : ST) (res : ST) (h : f_Camp_note_17 p1 p2 σ = res) : Ct 1 yX0_note cX0_note 3 none (fun ad => [.int p2, .int p1, .ref (ad 17)]) σ none res := by
  refine Ct.of (ls := fun ad => [(0, .ref (ad 17)), (1, .int p1), (2, .int p2)]) (by decide +kernel) (fun ad => Nat.le_of_ble_eq_true rfl) (fun ad => rfl) (fun X hX hM => ?_)
  replace hX : Ok X RX0 cX0_note 3 1 := hX
  unfold f_Camp_note_17 at h
  refine JJ.aload_n hX 0 dX0_note_0 rfl ?_
  refine fg_X0_24_17 hX dX0_note_1 ?_
  refine JJ.aload_n hX 0 dX0_note_4 rfl ?_
  refine fg_X0_34_17 hX dX0_note_5 ?_
  refine JJ.iload_n hX 1 dX0_note_8 rfl ?_
  refine JJ.callSNv hX (ct_put 22 8 (by decide) (fun _ _ _ => rfl) (fun _ _ _ _ _ => rfl) _ _ _ _ rfl) cal_yX5_put cas_yX5_put lm_RX0_45 rfl rfl (Nat.le_of_ble_eq_true rfl) ⟨by decide, by decide⟩ dX0_note_9 ?_
  refine JJ.aload_n hX 0 dX0_note_12 rfl ?_
  refine fg_X0_27_17 hX dX0_note_13 ?_
  refine JJ.aload_n hX 0 dX0_note_16 rfl ?_
  refine fg_X0_34_17 hX dX0_note_17 ?_
  refine JJ.iload_n hX 2 dX0_note_20 rfl ?_
  refine JJ.callSNv hX (ct_put 23 8 (by decide) (fun _ _ _ => rfl) (fun _ _ _ _ _ => rfl) _ _ _ _ rfl) cal_yX5_put cas_yX5_put lm_RX0_45 rfl rfl (Nat.le_of_ble_eq_true rfl) ⟨by decide, by decide⟩ dX0_note_21 ?_
  refine JJ.aload_n hX 0 dX0_note_24 rfl ?_
  refine JJ.dup hX dX0_note_25 rfl ?_
  refine fg_X0_34_17 hX dX0_note_26 ?_
  refine JJ.iconst (v := 1) hX dX0_note_29 (by decide) ?_
  refine JJ.iadd hX dX0_note_30 ?_
  refine fp_X0_34_17 hX dX0_note_31 ?_
  subst h
  exact JJ.vret hX hM dX0_note_34
set_option maxRecDepth 100000 in
theorem ct_LT_hear (p1 : Int32) (p2 : Int32) (σ : ST) (res : Int32 × ST) (h : f_LT_hear p1 p2 σ = res) : Ct 2 yX5_hear cX5_hear 4 (some .int) (fun ad => [.int p2, .int p1, .ref (ad 0)]) σ (some (.int res.1)) res.2 := by
  refine Ct.of (ls := fun ad => [(0, .ref (ad 0)), (1, .int p1), (2, .int p2)]) (by decide +kernel) (fun ad => Nat.le_of_ble_eq_true rfl) (fun ad => rfl) (fun X hX hM => ?_)
  replace hX : Ok X RX5 cX5_hear 4 2 := hX
  unfold f_LT_hear at h
  refine JJ.aload_n hX 0 dX5_hear_0 rfl ?_
  refine fg_X5_35_0 hX dX5_hear_1 ?_
  refine fg_X5_176_17 hX dX5_hear_4 ?_
  refine JJ.if_ne (tgt := 23) hX dX5_hear_7 (by decide) (fun c1 => ?_) (fun c1 => ?_)
  · replace h := ineg c1 h
    refine JJ.iload_n hX 1 dX5_hear_23 rfl ?_
    refine JJ.callSi hX (ct_LT_isWay _ _ _ rfl) cal_yX5_isWay cas_yX5_isWay lm_RX5_131 rfl rfl (Nat.le_of_ble_eq_true rfl) ⟨by decide, by decide⟩ dX5_hear_24 ?_
    refine JJ.istore_n (ls' := [(0, .ref (xad X 0)), (1, .int p1), (2, .int p2), (3, .int (f_LT_isWay p1))]) hX dX5_hear_27 (by decide) rfl rfl ?_
    refine JJ.iload_n hX 3 dX5_hear_28 rfl ?_
    refine JJ.if_eq (tgt := 41) hX dX5_hear_29 (by decide) (fun c2 => ?_) (fun c2 => ?_)
    · replace h := ipos c2 h
      refine JJ.bipush (v := -102) hX dX5_hear_41 (by decide) ?_
      subst h
      exact JJ.iret hX hM dX5_hear_43
    · replace h := ineg c2 h
      refine JJ.iload_n hX 2 dX5_hear_32 rfl ?_
      refine JJ.if_lt (tgt := 41) hX dX5_hear_33 (by decide) (fun c3 => ?_) (fun c3 => ?_)
      · replace h := ipos c3 h
        refine JJ.bipush (v := -102) hX dX5_hear_41 (by decide) ?_
        subst h
        exact JJ.iret hX hM dX5_hear_43
      · replace h := ineg c3 h
        refine JJ.iload_n hX 2 dX5_hear_36 rfl ?_
        refine JJ.iconst (v := 3) hX dX5_hear_37 (by decide) ?_
        refine JJ.icmp_lt (tgt := 44) hX dX5_hear_38 (by decide) (fun c4 => ?_) (fun c4 => ?_)
        · replace h := ipos c4 h
          refine JJ.aload_n hX 0 dX5_hear_44 rfl ?_
          refine fg_X5_35_0 hX dX5_hear_45 ?_
          refine fg_X5_176_17 hX dX5_hear_48 ?_
          refine JJ.bipush (v := 8) hX dX5_hear_51 (by decide) ?_
          refine JJ.icmp_lt (tgt := 59) hX dX5_hear_53 (by decide) (fun c5 => ?_) (fun c5 => ?_)
          · replace h := ipos c5 h
            refine JJ.aload_n hX 0 dX5_hear_59 rfl ?_
            refine fg_X5_35_0 hX dX5_hear_60 ?_
            refine JJ.iload_n hX 1 dX5_hear_63 rfl ?_
            refine JJ.iload_n hX 2 dX5_hear_64 rfl ?_
            refine JJ.callVv hX (ct_Camp_note_17 _ _ _ _ rfl) cal_yX0_note cav_yX0_note lm_RX5_179 rfl rfl rfl (Rcv.obj hX (ci := 0) rfl rfl) (Nat.le_of_ble_eq_true rfl) ⟨by decide, by decide⟩ dX5_hear_65 ?_
            refine JJ.aload_n hX 0 dX5_hear_68 rfl ?_
            refine fg_X5_35_0 hX dX5_hear_69 ?_
            refine fg_X5_176_17 hX dX5_hear_72 ?_
            subst h
            exact JJ.iret hX hM dX5_hear_75
          · replace h := ineg c5 h
            refine JJ.bipush (v := -104) hX dX5_hear_56 (by decide) ?_
            subst h
            exact JJ.iret hX hM dX5_hear_58
        · replace h := ineg c4 h
          refine JJ.bipush (v := -102) hX dX5_hear_41 (by decide) ?_
          subst h
          exact JJ.iret hX hM dX5_hear_43
  · replace h := ipos c1 h
    refine JJ.iload_n hX 1 dX5_hear_10 rfl ?_
    refine JJ.iconst (v := -1) hX dX5_hear_11 (by decide) ?_
    refine JJ.icmp_ne (tgt := 19) hX dX5_hear_12 (by decide) (fun c6 => ?_) (fun c6 => ?_)
    · replace h := ineg c6 h
      refine JJ.iconst (v := 0) hX dX5_hear_19 (by decide) ?_
      refine JJ.goto (tgt := 27) hX dX5_hear_20 (by decide) ?_
      refine JJ.istore_n (ls' := [(0, .ref (xad X 0)), (1, .int p1), (2, .int p2), (3, .int (0 : Int32))]) hX dX5_hear_27 (by decide) rfl rfl ?_
      refine JJ.iload_n hX 3 dX5_hear_28 rfl ?_
      refine JJ.if_eq (tgt := 41) hX dX5_hear_29 (by decide) (fun _ => ?_) (fun c7 => absurd c7 (by decide))
      refine JJ.bipush (v := -102) hX dX5_hear_41 (by decide) ?_
      subst h
      exact JJ.iret hX hM dX5_hear_43
    · replace h := ipos c6 h
      refine JJ.iconst (v := 1) hX dX5_hear_15 (by decide) ?_
      refine JJ.goto (tgt := 27) hX dX5_hear_16 (by decide) ?_
      refine JJ.istore_n (ls' := [(0, .ref (xad X 0)), (1, .int p1), (2, .int p2), (3, .int (1 : Int32))]) hX dX5_hear_27 (by decide) rfl rfl ?_
      refine JJ.iload_n hX 3 dX5_hear_28 rfl ?_
      refine JJ.if_eq (tgt := 41) hX dX5_hear_29 (by decide) (fun c8 => absurd c8 (by decide)) (fun _ => ?_)
      refine JJ.iload_n hX 2 dX5_hear_32 rfl ?_
      refine JJ.if_lt (tgt := 41) hX dX5_hear_33 (by decide) (fun c9 => ?_) (fun c9 => ?_)
      · replace h := ipos c9 h
        refine JJ.bipush (v := -102) hX dX5_hear_41 (by decide) ?_
        subst h
        exact JJ.iret hX hM dX5_hear_43
      · replace h := ineg c9 h
        refine JJ.iload_n hX 2 dX5_hear_36 rfl ?_
        refine JJ.iconst (v := 3) hX dX5_hear_37 (by decide) ?_
        refine JJ.icmp_lt (tgt := 44) hX dX5_hear_38 (by decide) (fun c10 => ?_) (fun c10 => ?_)
        · replace h := ipos c10 h
          refine JJ.aload_n hX 0 dX5_hear_44 rfl ?_
          refine fg_X5_35_0 hX dX5_hear_45 ?_
          refine fg_X5_176_17 hX dX5_hear_48 ?_
          refine JJ.bipush (v := 8) hX dX5_hear_51 (by decide) ?_
          refine JJ.icmp_lt (tgt := 59) hX dX5_hear_53 (by decide) (fun c11 => ?_) (fun c11 => ?_)
          · replace h := ipos c11 h
            refine JJ.aload_n hX 0 dX5_hear_59 rfl ?_
            refine fg_X5_35_0 hX dX5_hear_60 ?_
            refine JJ.iload_n hX 1 dX5_hear_63 rfl ?_
            refine JJ.iload_n hX 2 dX5_hear_64 rfl ?_
            refine JJ.callVv hX (ct_Camp_note_17 _ _ _ _ rfl) cal_yX0_note cav_yX0_note lm_RX5_179 rfl rfl rfl (Rcv.obj hX (ci := 0) rfl rfl) (Nat.le_of_ble_eq_true rfl) ⟨by decide, by decide⟩ dX5_hear_65 ?_
            refine JJ.aload_n hX 0 dX5_hear_68 rfl ?_
            refine fg_X5_35_0 hX dX5_hear_69 ?_
            refine fg_X5_176_17 hX dX5_hear_72 ?_
            subst h
            exact JJ.iret hX hM dX5_hear_75
          · replace h := ineg c11 h
            refine JJ.bipush (v := -104) hX dX5_hear_56 (by decide) ?_
            subst h
            exact JJ.iret hX hM dX5_hear_58
        · replace h := ineg c10 h
          refine JJ.bipush (v := -102) hX dX5_hear_41 (by decide) ?_
          subst h
          exact JJ.iret hX hM dX5_hear_43
