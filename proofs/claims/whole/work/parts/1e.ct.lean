set_option maxRecDepth 100000 in
theorem ct_LT_speak (p1 : Int32) (σ : ST) (res : Int32 × ST) (h : f_LT_speak p1 σ = res) : Ct 3 yX5_speak cX5_speak 2 (some .int) (fun ad => [.int p1, .ref (ad 0)]) σ (some (.int res.1)) res.2 := by
  refine Ct.of (ls := fun ad => [(0, .ref (ad 0)), (1, .int p1)]) (by decide +kernel) (fun ad => Nat.le_of_ble_eq_true rfl) (fun ad => rfl) (fun X hX hM => ?_)
  replace hX : Ok X RX5 cX5_speak 2 3 := hX
  unfold f_LT_speak at h
  refine JJ.aload_n hX 0 dX5_speak_0 rfl ?_
  refine fg_X5_35_0 hX dX5_speak_1 ?_
  refine JJ.iload_n hX 1 dX5_speak_4 rfl ?_
  refine JJ.callVi hX (ct_Camp_has_17 _ _ _ rfl) cal_yX0_has cav_yX0_has lm_RX5_110 rfl rfl rfl (Rcv.obj hX (ci := 0) rfl rfl) (Nat.le_of_ble_eq_true rfl) ⟨by decide, by decide⟩ dX5_speak_5 ?_
  refine JJ.if_ne (tgt := 14) hX dX5_speak_8 (by decide) (fun c1 => ?_) (fun c1 => ?_)
  · replace h := ineg c1 h
    refine JJ.aload_n hX 0 dX5_speak_14 rfl ?_
    refine fg_X5_35_0 hX dX5_speak_15 ?_
    refine fg_X5_138_17 hX dX5_speak_18 ?_
    refine JJ.iload_n hX 1 dX5_speak_21 rfl ?_
    refine JJ.aload_n hX 0 dX5_speak_22 rfl ?_
    refine fg_X5_35_0 hX dX5_speak_23 ?_
    refine fg_X5_122_17 hX dX5_speak_26 ?_
    refine JJ.iload_n hX 1 dX5_speak_29 rfl ?_
    refine JJ.callSi hX (ct_cell 20 3 (by decide) (fun _ _ _ => rfl) _ _ _ rfl) cal_yX5_cell cas_yX5_cell lm_RX5_115 rfl rfl (Nat.le_of_ble_eq_true rfl) ⟨by decide, by decide⟩ dX5_speak_30 ?_
    refine JJ.callSv hX (ct_put 21 3 (by decide) (fun _ _ _ => rfl) (fun _ _ _ _ _ => rfl) _ _ _ _ rfl) cal_yX5_put cas_yX5_put lm_RX5_141 rfl rfl (Nat.le_of_ble_eq_true rfl) ⟨by decide, by decide⟩ dX5_speak_33 ?_
    refine JJ.aload_n hX 0 dX5_speak_36 rfl ?_
    refine fg_X5_19_0 hX dX5_speak_37 ?_
    refine JJ.aload_n hX 0 dX5_speak_40 rfl ?_
    refine fg_X5_35_0 hX dX5_speak_41 ?_
    refine fg_X5_111_17 hX dX5_speak_44 ?_
    refine JJ.iload_n hX 1 dX5_speak_47 rfl ?_
    refine JJ.callSi hX (ct_cell 18 3 (by decide) (fun _ _ _ => rfl) _ _ _ rfl) cal_yX5_cell cas_yX5_cell lm_RX5_115 rfl rfl (Nat.le_of_ble_eq_true rfl) ⟨by decide, by decide⟩ dX5_speak_48 ?_
    refine JJ.callVi hX (ct_Mine_soundOf _ _ _ rfl) cal_yX1_soundOf cav_yX1_soundOf lm_RX5_88 rfl rfl rfl (Rcv.obj hX (ci := 1) rfl rfl) (Nat.le_of_ble_eq_true rfl) ⟨by decide, by decide⟩ dX5_speak_51 ?_
    subst h
    exact JJ.iret hX hM dX5_speak_54
  · replace h := ipos c1 h
    refine JJ.bipush (v := -101) hX dX5_speak_11 (by decide) ?_
    subst h
    exact JJ.iret hX hM dX5_speak_13
set_option maxRecDepth 100000 in
theorem ct_M_speak (p1 : Int32) (σ : ST) (res : Int32 × ST) (h : f_M_speak p1 σ = some res) : Ct 2 yX6_speak cX6_speak 2 (some .int) (fun ad => [.int p1, .ref (ad 31)]) σ (some (.int res.1)) res.2 := by
  refine Ct.of (ls := fun ad => [(0, .ref (ad 31)), (1, .int p1)]) (by decide +kernel) (fun ad => Nat.le_of_ble_eq_true rfl) (fun ad => rfl) (fun X hX hM => ?_)
  replace hX : Ok X RX6 cX6_speak 2 2 := hX
  unfold f_M_speak at h
  refine JJ.aload_n hX 0 dX6_speak_0 rfl ?_
  refine JJ.iload_n hX 1 dX6_speak_1 rfl ?_
  refine JJ.callVi hX (ct_M_isParty _ _ _ rfl) cal_yX6_isParty cav_yX6_isParty lm_RX6_123 rfl rfl rfl (Rcv.obj hX (ci := 6) rfl rfl) (Nat.le_of_ble_eq_true rfl) ⟨by decide, by decide⟩ dX6_speak_2 ?_
  refine JJ.if_ne (tgt := 11) hX dX6_speak_5 (by decide) (fun c1 => ?_) (fun c1 => ?_)
  · replace h := ineg c1 h
    refine JJ.aload_n hX 0 dX6_speak_11 rfl ?_
    refine fg_X6_22_31 hX dX6_speak_12 ?_
    refine JJ.iconst (v := 4) hX dX6_speak_15 (by decide) ?_
    refine JJ.iload_n hX 1 dX6_speak_16 rfl ?_
    refine JJ.imul hX dX6_speak_17 ?_
    refine JJ.iconst (v := 3) hX dX6_speak_18 (by decide) ?_
    refine JJ.iadd hX dX6_speak_19 ?_
    refine JJ.aload_n hX 0 dX6_speak_20 rfl ?_
    refine fg_X6_22_31 hX dX6_speak_21 ?_
    refine JJ.iconst (v := 4) hX dX6_speak_24 (by decide) ?_
    refine JJ.iload_n hX 1 dX6_speak_25 rfl ?_
    refine JJ.imul hX dX6_speak_26 ?_
    refine JJ.iconst (v := 2) hX dX6_speak_27 (by decide) ?_
    refine JJ.iadd hX dX6_speak_28 ?_
    obtain ⟨c2, h⟩ := gte h
    refine ald_36 hX c2 dX6_speak_29 ?_
    obtain ⟨c3, h⟩ := gte h
    refine ast_36 hX c3 dX6_speak_30 ?_
    refine JJ.aload_n hX 0 dX6_speak_31 rfl ?_
    refine JJ.aload_n hX 0 dX6_speak_32 rfl ?_
    refine fg_X6_22_31 hX dX6_speak_33 ?_
    refine JJ.iconst (v := 4) hX dX6_speak_36 (by decide) ?_
    refine JJ.iload_n hX 1 dX6_speak_37 rfl ?_
    refine JJ.imul hX dX6_speak_38 ?_
    obtain ⟨c4, h⟩ := gte h
    refine ald_36 hX c4 dX6_speak_39 ?_
    obtain ⟨q5, h5, h⟩ := bnd h
    refine JJ.callVi hX (ct_M_soundOf _ _ _ h5) cal_yX6_soundOf cav_yX6_soundOf lm_RX6_99 rfl rfl rfl (Rcv.obj hX (ci := 6) rfl rfl) (Nat.le_of_ble_eq_true rfl) ⟨by decide, by decide⟩ dX6_speak_40 ?_
    obtain rfl := Option.some.inj h
    exact JJ.iret hX hM dX6_speak_43
  · replace h := ipos c1 h
    refine JJ.bipush (v := -101) hX dX6_speak_8 (by decide) ?_
    obtain rfl := Option.some.inj h
    exact JJ.iret hX hM dX6_speak_10
set_option maxRecDepth 100000 in
theorem ct_LT_look (p1 : Int32) (σ : ST) (res : Int32) (h : f_LT_look p1 σ = res) : Ct 3 yX5_look cX5_look 2 (some .int) (fun ad => [.int p1, .ref (ad 0)]) σ (some (.int res)) σ := by
  refine Ct.of (ls := fun ad => [(0, .ref (ad 0)), (1, .int p1)]) (by decide +kernel) (fun ad => Nat.le_of_ble_eq_true rfl) (fun ad => rfl) (fun X hX hM => ?_)
  replace hX : Ok X RX5 cX5_look 2 3 := hX
  unfold f_LT_look at h
  refine JJ.aload_n hX 0 dX5_look_0 rfl ?_
  refine fg_X5_35_0 hX dX5_look_1 ?_
  refine JJ.iload_n hX 1 dX5_look_4 rfl ?_
  refine JJ.callVi hX (ct_Camp_has_17 _ _ _ rfl) cal_yX0_has cav_yX0_has lm_RX5_110 rfl rfl rfl (Rcv.obj hX (ci := 0) rfl rfl) (Nat.le_of_ble_eq_true rfl) ⟨by decide, by decide⟩ dX5_look_5 ?_
  refine JJ.if_ne (tgt := 14) hX dX5_look_8 (by decide) (fun c1 => ?_) (fun c1 => ?_)
  · replace h := ineg c1 h
    refine JJ.aload_n hX 0 dX5_look_14 rfl ?_
    refine fg_X5_35_0 hX dX5_look_15 ?_
    refine JJ.iload_n hX 1 dX5_look_18 rfl ?_
    refine JJ.callVi hX (ct_Camp_mayLook_17 _ _ _ rfl) cal_yX0_mayLook cav_yX0_mayLook lm_RX5_128 rfl rfl rfl (Rcv.obj hX (ci := 0) rfl rfl) (Nat.le_of_ble_eq_true rfl) ⟨by decide, by decide⟩ dX5_look_19 ?_
    refine JJ.if_ne (tgt := 28) hX dX5_look_22 (by decide) (fun c2 => ?_) (fun c2 => ?_)
    · replace h := ineg c2 h
      refine JJ.aload_n hX 0 dX5_look_28 rfl ?_
      refine fg_X5_19_0 hX dX5_look_29 ?_
      refine JJ.aload_n hX 0 dX5_look_32 rfl ?_
      refine fg_X5_35_0 hX dX5_look_33 ?_
      refine fg_X5_111_17 hX dX5_look_36 ?_
      refine JJ.iload_n hX 1 dX5_look_39 rfl ?_
      refine JJ.callSi hX (ct_cell 18 3 (by decide) (fun _ _ _ => rfl) _ _ _ rfl) cal_yX5_cell cas_yX5_cell lm_RX5_115 rfl rfl (Nat.le_of_ble_eq_true rfl) ⟨by decide, by decide⟩ dX5_look_40 ?_
      refine JJ.callVi hX (ct_Mine_kindOf _ _ _ rfl) cal_yX1_kindOf cav_yX1_kindOf lm_RX5_80 rfl rfl rfl (Rcv.obj hX (ci := 1) rfl rfl) (Nat.le_of_ble_eq_true rfl) ⟨by decide, by decide⟩ dX5_look_43 ?_
      subst h
      exact JJ.iret hX hM dX5_look_46
    · replace h := ipos c2 h
      refine JJ.bipush (v := -103) hX dX5_look_25 (by decide) ?_
      subst h
      exact JJ.iret hX hM dX5_look_27
  · replace h := ipos c1 h
    refine JJ.bipush (v := -101) hX dX5_look_11 (by decide) ?_
    subst h
    exact JJ.iret hX hM dX5_look_13
set_option maxRecDepth 100000 in
theorem ct_M_look (p1 : Int32) (σ : ST) (res : Int32) (h : f_M_look p1 σ = some res) : Ct 2 yX6_look cX6_look 2 (some .int) (fun ad => [.int p1, .ref (ad 31)]) σ (some (.int res)) σ := by
  refine Ct.of (ls := fun ad => [(0, .ref (ad 31)), (1, .int p1)]) (by decide +kernel) (fun ad => Nat.le_of_ble_eq_true rfl) (fun ad => rfl) (fun X hX hM => ?_)
  replace hX : Ok X RX6 cX6_look 2 2 := hX
  unfold f_M_look at h
  refine JJ.aload_n hX 0 dX6_look_0 rfl ?_
  refine JJ.iload_n hX 1 dX6_look_1 rfl ?_
  refine JJ.callVi hX (ct_M_isParty _ _ _ rfl) cal_yX6_isParty cav_yX6_isParty lm_RX6_123 rfl rfl rfl (Rcv.obj hX (ci := 6) rfl rfl) (Nat.le_of_ble_eq_true rfl) ⟨by decide, by decide⟩ dX6_look_2 ?_
  refine JJ.if_ne (tgt := 11) hX dX6_look_5 (by decide) (fun c1 => ?_) (fun c1 => ?_)
  · replace h := ineg c1 h
    refine JJ.aload_n hX 0 dX6_look_11 rfl ?_
    refine JJ.iload_n hX 1 dX6_look_12 rfl ?_
    obtain ⟨q2, h2, h⟩ := bnd h
    refine JJ.callVi hX (ct_M_mayLook _ _ _ h2) cal_yX6_mayLook cav_yX6_mayLook lm_RX6_120 rfl rfl rfl (Rcv.obj hX (ci := 6) rfl rfl) (Nat.le_of_ble_eq_true rfl) ⟨by decide, by decide⟩ dX6_look_13 ?_
    refine JJ.if_eq (tgt := 35) hX dX6_look_16 (by decide) (fun c3 => ?_) (fun c3 => ?_)
    · replace h := ipos c3 h
      refine JJ.bipush (v := -103) hX dX6_look_35 (by decide) ?_
      obtain rfl := Option.some.inj h
      exact JJ.iret hX hM dX6_look_37
    · replace h := ineg c3 h
      refine JJ.aload_n hX 0 dX6_look_19 rfl ?_
      refine fg_X6_16_31 hX dX6_look_20 ?_
      refine JJ.aload_n hX 0 dX6_look_23 rfl ?_
      refine fg_X6_22_31 hX dX6_look_24 ?_
      refine JJ.iconst (v := 4) hX dX6_look_27 (by decide) ?_
      refine JJ.iload_n hX 1 dX6_look_28 rfl ?_
      refine JJ.imul hX dX6_look_29 ?_
      obtain ⟨c4, h⟩ := gte h
      refine ald_36 hX c4 dX6_look_30 ?_
      obtain ⟨c5, h⟩ := gte h
      refine ald_34 hX c5 dX6_look_31 ?_
      refine JJ.goto (tgt := 37) hX dX6_look_32 (by decide) ?_
      obtain rfl := Option.some.inj h
      exact JJ.iret hX hM dX6_look_37
  · replace h := ipos c1 h
    refine JJ.bipush (v := -101) hX dX6_look_8 (by decide) ?_
    obtain rfl := Option.some.inj h
    exact JJ.iret hX hM dX6_look_10
set_option maxRecDepth 100000 in
theorem ct_LT_fill (p1 : Int32) (σ : ST) (res : Int32 × ST) (h : f_LT_fill p1 σ = res) : Ct 1 yX5_fill cX5_fill 3 (some .int) (fun ad => [.int p1, .ref (ad 0)]) σ (some (.int res.1)) res.2 := by
  refine Ct.of (ls := fun ad => [(0, .ref (ad 0)), (1, .int p1)]) (by decide +kernel) (fun ad => Nat.le_of_ble_eq_true rfl) (fun ad => rfl) (fun X hX hM => ?_)
  replace hX : Ok X RX5 cX5_fill 3 1 := hX
  unfold f_LT_fill at h
  refine JJ.aload_n hX 0 dX5_fill_0 rfl ?_
  refine fg_X5_35_0 hX dX5_fill_1 ?_
  refine JJ.iload_n hX 1 dX5_fill_4 rfl ?_
  refine JJ.callVi hX (ct_Camp_has_17 _ _ _ rfl) cal_yX0_has cav_yX0_has lm_RX5_110 rfl rfl rfl (Rcv.obj hX (ci := 0) rfl rfl) (Nat.le_of_ble_eq_true rfl) ⟨by decide, by decide⟩ dX5_fill_5 ?_
  refine JJ.if_ne (tgt := 14) hX dX5_fill_8 (by decide) (fun c1 => ?_) (fun c1 => ?_)
  · replace h := ineg c1 h
    refine JJ.aload_n hX 0 dX5_fill_14 rfl ?_
    refine fg_X5_35_0 hX dX5_fill_15 ?_
    refine fg_X5_119_17 hX dX5_fill_18 ?_
    refine JJ.iload_n hX 1 dX5_fill_21 rfl ?_
    refine JJ.callSi hX (ct_cell 19 3 (by decide) (fun _ _ _ => rfl) _ _ _ rfl) cal_yX5_cell cas_yX5_cell lm_RX5_115 rfl rfl (Nat.le_of_ble_eq_true rfl) ⟨by decide, by decide⟩ dX5_fill_22 ?_
    refine JJ.istore_n (ls' := [(0, .ref (xad X 0)), (1, .int p1), (2, .int (cellF 3 19 p1 σ))]) hX dX5_fill_25 (by decide) rfl rfl ?_
    refine JJ.aload_n hX 0 dX5_fill_26 rfl ?_
    refine fg_X5_35_0 hX dX5_fill_27 ?_
    refine fg_X5_119_17 hX dX5_fill_30 ?_
    refine JJ.iload_n hX 1 dX5_fill_33 rfl ?_
    refine JJ.aload_n hX 0 dX5_fill_34 rfl ?_
    refine fg_X5_19_0 hX dX5_fill_35 ?_
    refine fg_X5_104_3 hX dX5_fill_38 ?_
    refine JJ.callSv hX (ct_put 19 3 (by decide) (fun _ _ _ => rfl) (fun _ _ _ _ _ => rfl) _ _ _ _ rfl) cal_yX5_put cas_yX5_put lm_RX5_141 rfl rfl (Nat.le_of_ble_eq_true rfl) ⟨by decide, by decide⟩ dX5_fill_41 ?_
    refine JJ.iload_n hX 2 dX5_fill_44 rfl ?_
    subst h
    exact JJ.iret hX hM dX5_fill_45
  · replace h := ipos c1 h
    refine JJ.bipush (v := -101) hX dX5_fill_11 (by decide) ?_
    subst h
    exact JJ.iret hX hM dX5_fill_13
set_option maxRecDepth 100000 in
theorem ct_M_fill (p1 : Int32) (σ : ST) (res : Int32 × ST) (h : f_M_fill p1 σ = some res) : Ct 2 yX6_fill cX6_fill 3 (some .int) (fun ad => [.int p1, .ref (ad 31)]) σ (some (.int res.1)) res.2 := by
  refine Ct.of (ls := fun ad => [(0, .ref (ad 31)), (1, .int p1)]) (by decide +kernel) (fun ad => Nat.le_of_ble_eq_true rfl) (fun ad => rfl) (fun X hX hM => ?_)
  replace hX : Ok X RX6 cX6_fill 3 2 := hX
  unfold f_M_fill at h
  refine JJ.aload_n hX 0 dX6_fill_0 rfl ?_
  refine JJ.iload_n hX 1 dX6_fill_1 rfl ?_
  refine JJ.callVi hX (ct_M_isParty _ _ _ rfl) cal_yX6_isParty cav_yX6_isParty lm_RX6_123 rfl rfl rfl (Rcv.obj hX (ci := 6) rfl rfl) (Nat.le_of_ble_eq_true rfl) ⟨by decide, by decide⟩ dX6_fill_2 ?_
  refine JJ.if_ne (tgt := 11) hX dX6_fill_5 (by decide) (fun c1 => ?_) (fun c1 => ?_)
  · replace h := ineg c1 h
    refine JJ.aload_n hX 0 dX6_fill_11 rfl ?_
    refine fg_X6_22_31 hX dX6_fill_12 ?_
    refine JJ.iconst (v := 4) hX dX6_fill_15 (by decide) ?_
    refine JJ.iload_n hX 1 dX6_fill_16 rfl ?_
    refine JJ.imul hX dX6_fill_17 ?_
    refine JJ.iconst (v := 1) hX dX6_fill_18 (by decide) ?_
    refine JJ.iadd hX dX6_fill_19 ?_
    obtain ⟨c2, h⟩ := gte h
    refine ald_36 hX c2 dX6_fill_20 ?_
    refine JJ.istore_n (ls' := [(0, .ref (xad X 31)), (1, .int p1), (2, .int (gA σ 36 (((4 : Int32) * p1) + (1 : Int32)).toNatClampNeg))]) hX dX6_fill_21 (by decide) rfl rfl ?_
    refine JJ.aload_n hX 0 dX6_fill_22 rfl ?_
    refine fg_X6_22_31 hX dX6_fill_23 ?_
    refine JJ.iconst (v := 4) hX dX6_fill_26 (by decide) ?_
    refine JJ.iload_n hX 1 dX6_fill_27 rfl ?_
    refine JJ.imul hX dX6_fill_28 ?_
    refine JJ.iconst (v := 1) hX dX6_fill_29 (by decide) ?_
    refine JJ.iadd hX dX6_fill_30 ?_
    refine JJ.aload_n hX 0 dX6_fill_31 rfl ?_
    refine fg_X6_87_31 hX dX6_fill_32 ?_
    obtain ⟨c3, h⟩ := gte h
    refine ast_36 hX c3 dX6_fill_35 ?_
    refine JJ.iload_n hX 2 dX6_fill_36 rfl ?_
    obtain rfl := Option.some.inj h
    exact JJ.iret hX hM dX6_fill_37
  · replace h := ipos c1 h
    refine JJ.bipush (v := -101) hX dX6_fill_8 (by decide) ?_
    obtain rfl := Option.some.inj h
    exact JJ.iret hX hM dX6_fill_10
set_option maxRecDepth 100000 in
theorem ct_LT_orNone (p0 : Int32) (σ : ST) (res : Int32) (h : f_LT_orNone p0 = res) : Ct 0 yX5_orNone cX5_orNone 1 (some .int) (fun ad => [.int p0]) σ (some (.int res)) σ := by
  refine Ct.of (ls := fun ad => [(0, .int p0)]) (by decide +kernel) (fun ad => Nat.le_of_ble_eq_true rfl) (fun ad => rfl) (fun X hX hM => ?_)
  replace hX : Ok X RX5 cX5_orNone 1 0 := hX
  unfold f_LT_orNone at h
  refine JJ.iload_n hX 0 dX5_orNone_0 rfl ?_
  refine JJ.sipush (v := 1000) hX dX5_orNone_1 (by decide) ?_
  refine JJ.icmp_lt (tgt := 11) hX dX5_orNone_4 (by decide) (fun c1 => ?_) (fun c1 => ?_)
  · replace h := ipos c1 h
    refine JJ.iload_n hX 0 dX5_orNone_11 rfl ?_
    subst h
    exact JJ.iret hX hM dX5_orNone_12
  · replace h := ineg c1 h
    refine JJ.iconst (v := -1) hX dX5_orNone_7 (by decide) ?_
    refine JJ.goto (tgt := 12) hX dX5_orNone_8 (by decide) ?_
    subst h
    exact JJ.iret hX hM dX5_orNone_12
set_option maxRecDepth 100000 in
theorem ct_Ways_firstBy (p0 : Int32) (p1 : Int32) (p2 : Int32) (σ : ST) (res : Int32) (h : f_Ways_firstBy p0 p1 p2 = res) : Ct 0 yX4_firstBy cX4_firstBy 3 (some .int) (fun ad => [.int p2, .int p1, .int p0]) σ (some (.int res)) σ := by
  refine Ct.of (ls := fun ad => [(0, .int p0), (1, .int p1), (2, .int p2)]) (by decide +kernel) (fun ad => Nat.le_of_ble_eq_true rfl) (fun ad => rfl) (fun X hX hM => ?_)
  replace hX : Ok X RX4 cX4_firstBy 3 0 := hX
  unfold f_Ways_firstBy at h
  refine JJ.iload_n hX 0 dX4_firstBy_0 rfl ?_
  refine JJ.if_eq (tgt := 11) hX dX4_firstBy_1 (by decide) (fun c1 => ?_) (fun c1 => ?_)
  · replace h := ipos c1 h
    refine JJ.iconst (v := -1) hX dX4_firstBy_11 (by decide) ?_
    subst h
    exact JJ.iret hX hM dX4_firstBy_12
  · replace h := ineg c1 h
    refine JJ.iload_n hX 0 dX4_firstBy_4 rfl ?_
    refine JJ.sipush (v := 1000) hX dX4_firstBy_5 (by decide) ?_
    refine JJ.icmp_lt (tgt := 13) hX dX4_firstBy_8 (by decide) (fun c2 => ?_) (fun c2 => ?_)
    · replace h := ipos c2 h
      refine JJ.iload_n hX 1 dX4_firstBy_13 rfl ?_
      refine JJ.iload_n hX 2 dX4_firstBy_14 rfl ?_
      refine JJ.icmp_gt (tgt := 22) hX dX4_firstBy_15 (by decide) (fun c3 => ?_) (fun c3 => ?_)
      · replace h := ipos c3 h
        refine JJ.iconst (v := 1) hX dX4_firstBy_22 (by decide) ?_
        subst h
        exact JJ.iret hX hM dX4_firstBy_23
      · replace h := ineg c3 h
        refine JJ.iconst (v := 0) hX dX4_firstBy_18 (by decide) ?_
        refine JJ.goto (tgt := 23) hX dX4_firstBy_19 (by decide) ?_
        subst h
        exact JJ.iret hX hM dX4_firstBy_23
    · replace h := ineg c2 h
      refine JJ.iconst (v := -1) hX dX4_firstBy_11 (by decide) ?_
      subst h
      exact JJ.iret hX hM dX4_firstBy_12
set_option maxRecDepth 100000 in
theorem ct_Ways_firstOfWay (p1 : Int32) (p2 : Int32) (σ : ST) (res : Int32) (h : f_Ways_firstOfWay p1 p2 σ = res) : Ct 2 yX4_firstOfWay cX4_firstOfWay 3 (some .int) (fun ad => [.int p2, .int p1, .ref (ad 7)]) σ (some (.int res)) σ := by
  refine Ct.of (ls := fun ad => [(0, .ref (ad 7)), (1, .int p1), (2, .int p2)]) (by decide +kernel) (fun ad => Nat.le_of_ble_eq_true rfl) (fun ad => rfl) (fun X hX hM => ?_)
  replace hX : Ok X RX4 cX4_firstOfWay 3 2 := hX
  unfold f_Ways_firstOfWay at h
  refine JJ.aload_n hX 0 dX4_firstOfWay_0 rfl ?_
  refine fg_X4_12_7 hX dX4_firstOfWay_1 ?_
  refine JJ.iload_n hX 1 dX4_firstOfWay_4 rfl ?_
  refine JJ.iload_n hX 2 dX4_firstOfWay_5 rfl ?_
  refine JJ.callVi hX (ct_Table_get_8 _ _ _ _ rfl) cal_yX3_get cav_yX3_get lm_RX4_45 rfl rfl rfl (Rcv.obj hX (ci := 3) rfl rfl) (Nat.le_of_ble_eq_true rfl) ⟨by decide, by decide⟩ dX4_firstOfWay_6 ?_
  refine JJ.aload_n hX 0 dX4_firstOfWay_9 rfl ?_
  refine fg_X4_12_7 hX dX4_firstOfWay_10 ?_
  refine JJ.aload_n hX 0 dX4_firstOfWay_13 rfl ?_
  refine fg_X4_31_7 hX dX4_firstOfWay_14 ?_
  refine JJ.iload_n hX 1 dX4_firstOfWay_17 rfl ?_
  refine JJ.iconst (v := 0) hX dX4_firstOfWay_18 (by decide) ?_
  refine JJ.callVi hX (ct_Mine_leadsTo _ _ _ _ rfl) cal_yX1_leadsTo cav_yX1_leadsTo lm_RX4_49 rfl rfl rfl (Rcv.obj hX (ci := 1) rfl rfl) (Nat.le_of_ble_eq_true rfl) ⟨by decide, by decide⟩ dX4_firstOfWay_19 ?_
  refine JJ.iload_n hX 2 dX4_firstOfWay_22 rfl ?_
  refine JJ.callVi hX (ct_Table_get_8 _ _ _ _ rfl) cal_yX3_get cav_yX3_get lm_RX4_45 rfl rfl rfl (Rcv.obj hX (ci := 3) rfl rfl) (Nat.le_of_ble_eq_true rfl) ⟨by decide, by decide⟩ dX4_firstOfWay_23 ?_
  refine JJ.aload_n hX 0 dX4_firstOfWay_26 rfl ?_
  refine fg_X4_12_7 hX dX4_firstOfWay_27 ?_
  refine JJ.aload_n hX 0 dX4_firstOfWay_30 rfl ?_
  refine fg_X4_31_7 hX dX4_firstOfWay_31 ?_
  refine JJ.iload_n hX 1 dX4_firstOfWay_34 rfl ?_
  refine JJ.iconst (v := 1) hX dX4_firstOfWay_35 (by decide) ?_
  refine JJ.callVi hX (ct_Mine_leadsTo _ _ _ _ rfl) cal_yX1_leadsTo cav_yX1_leadsTo lm_RX4_49 rfl rfl rfl (Rcv.obj hX (ci := 1) rfl rfl) (Nat.le_of_ble_eq_true rfl) ⟨by decide, by decide⟩ dX4_firstOfWay_36 ?_
  refine JJ.iload_n hX 2 dX4_firstOfWay_39 rfl ?_
  refine JJ.callVi hX (ct_Table_get_8 _ _ _ _ rfl) cal_yX3_get cav_yX3_get lm_RX4_45 rfl rfl rfl (Rcv.obj hX (ci := 3) rfl rfl) (Nat.le_of_ble_eq_true rfl) ⟨by decide, by decide⟩ dX4_firstOfWay_40 ?_
  refine JJ.callSi hX (ct_Ways_firstBy _ _ _ _ _ rfl) cal_yX4_firstBy cas_yX4_firstBy lm_RX4_54 rfl rfl (Nat.le_of_ble_eq_true rfl) ⟨by decide, by decide⟩ dX4_firstOfWay_43 ?_
  subst h
  exact JJ.iret hX hM dX4_firstOfWay_46
set_option maxRecDepth 100000 in
theorem ct_LT_way (p1 : Int32) (p2 : Int32) (p3 : Int32) (σ : ST) (res : Int32) (h : f_LT_way p1 p2 p3 σ = res) : Ct 3 yX5_way cX5_way 4 (some .int) (fun ad => [.int p3, .int p2, .int p1, .ref (ad 0)]) σ (some (.int res)) σ := by
  refine Ct.of (ls := fun ad => [(0, .ref (ad 0)), (1, .int p1), (2, .int p2), (3, .int p3)]) (by decide +kernel) (fun ad => Nat.le_of_ble_eq_true rfl) (fun ad => rfl) (fun X hX hM => ?_)
  replace hX : Ok X RX5 cX5_way 4 3 := hX
  unfold f_LT_way at h
  refine JJ.aload_n hX 0 dX5_way_0 rfl ?_
  refine fg_X5_19_0 hX dX5_way_1 ?_
  refine JJ.iload_n hX 1 dX5_way_4 rfl ?_
  refine JJ.callVi hX (ct_Mine_has _ _ _ rfl) cal_yX1_has cav_yX1_has lm_RX5_76 rfl rfl rfl (Rcv.obj hX (ci := 1) rfl rfl) (Nat.le_of_ble_eq_true rfl) ⟨by decide, by decide⟩ dX5_way_5 ?_
  refine JJ.if_eq (tgt := 22) hX dX5_way_8 (by decide) (fun c1 => ?_) (fun c1 => ?_)
  · replace h := ipos c1 h
    refine JJ.bipush (v := -101) hX dX5_way_22 (by decide) ?_
    subst h
    exact JJ.iret hX hM dX5_way_24
  · replace h := ineg c1 h
    refine JJ.aload_n hX 0 dX5_way_11 rfl ?_
    refine fg_X5_19_0 hX dX5_way_12 ?_
    refine JJ.iload_n hX 2 dX5_way_15 rfl ?_
    refine JJ.callVi hX (ct_Mine_has _ _ _ rfl) cal_yX1_has cav_yX1_has lm_RX5_76 rfl rfl rfl (Rcv.obj hX (ci := 1) rfl rfl) (Nat.le_of_ble_eq_true rfl) ⟨by decide, by decide⟩ dX5_way_16 ?_
    refine JJ.if_ne (tgt := 25) hX dX5_way_19 (by decide) (fun c2 => ?_) (fun c2 => ?_)
    · replace h := ineg c2 h
      refine JJ.iload_n hX 3 dX5_way_25 rfl ?_
      by_cases c3 : p3 = (0 : Int32)
      · replace h := ipos c3 h
        refine JJ.tableIn (v := 0) (tgt := 52) hX c3 dX5_way_26 (by decide) (by decide) rfl (by decide) ?_
        refine JJ.aload_n hX 0 dX5_way_52 rfl ?_
        refine fg_X5_28_0 hX dX5_way_53 ?_
        refine fg_X5_145_7 hX dX5_way_56 ?_
        refine JJ.iload_n hX 1 dX5_way_59 rfl ?_
        refine JJ.iload_n hX 2 dX5_way_60 rfl ?_
        refine JJ.callVi hX (ct_Table_get_8 _ _ _ _ rfl) cal_yX3_get cav_yX3_get lm_RX5_148 rfl rfl rfl (Rcv.obj hX (ci := 3) rfl rfl) (Nat.le_of_ble_eq_true rfl) ⟨by decide, by decide⟩ dX5_way_61 ?_
        refine JJ.callSi hX (ct_LT_orNone _ _ _ rfl) cal_yX5_orNone cas_yX5_orNone lm_RX5_153 rfl rfl (Nat.le_of_ble_eq_true rfl) ⟨by decide, by decide⟩ dX5_way_64 ?_
        subst h
        exact JJ.iret hX hM dX5_way_67
      · replace h := ineg c3 h
        by_cases c4 : p3 = (1 : Int32)
        · replace h := ipos c4 h
          refine JJ.tableIn (v := 1) (tgt := 68) hX c4 dX5_way_26 (by decide) (by decide) rfl (by decide) ?_
          refine JJ.aload_n hX 0 dX5_way_68 rfl ?_
          refine fg_X5_28_0 hX dX5_way_69 ?_
          refine JJ.iload_n hX 1 dX5_way_72 rfl ?_
          refine JJ.iload_n hX 2 dX5_way_73 rfl ?_
          refine JJ.callVi hX (ct_Ways_firstOfWay _ _ _ _ rfl) cal_yX4_firstOfWay cav_yX4_firstOfWay lm_RX5_156 rfl rfl rfl (Rcv.obj hX (ci := 4) rfl rfl) (Nat.le_of_ble_eq_true rfl) ⟨by decide, by decide⟩ dX5_way_74 ?_
          subst h
          exact JJ.iret hX hM dX5_way_77
        · replace h := ineg c4 h
          by_cases c5 : p3 = (2 : Int32)
          · replace h := ipos c5 h
            refine JJ.tableIn (v := 2) (tgt := 78) hX c5 dX5_way_26 (by decide) (by decide) rfl (by decide) ?_
            refine JJ.aload_n hX 0 dX5_way_78 rfl ?_
            refine fg_X5_28_0 hX dX5_way_79 ?_
            refine fg_X5_159_7 hX dX5_way_82 ?_
            refine JJ.iload_n hX 1 dX5_way_85 rfl ?_
            refine JJ.iload_n hX 2 dX5_way_86 rfl ?_
            refine JJ.callVi hX (ct_Table_get_9 _ _ _ _ rfl) cal_yX3_get cav_yX3_get lm_RX5_148 rfl rfl rfl (Rcv.obj hX (ci := 3) rfl rfl) (Nat.le_of_ble_eq_true rfl) ⟨by decide, by decide⟩ dX5_way_87 ?_
            refine JJ.callSi hX (ct_LT_orNone _ _ _ rfl) cal_yX5_orNone cas_yX5_orNone lm_RX5_153 rfl rfl (Nat.le_of_ble_eq_true rfl) ⟨by decide, by decide⟩ dX5_way_90 ?_
            subst h
            exact JJ.iret hX hM dX5_way_93
          · replace h := ineg c5 h
            refine JJ.tableOut (tgt := 94) hX dX5_way_26 (sw_out (n := 2) (fun k hk => by
              rcases k with _|_|_|k
              · exact c3
              · exact c4
              · exact c5
              · exact absurd hk (by omega)) (by decide)) (by decide) ?_
            refine JJ.bipush (v := -102) hX dX5_way_94 (by decide) ?_
            subst h
            exact JJ.iret hX hM dX5_way_96
    · replace h := ipos c2 h
      refine JJ.bipush (v := -101) hX dX5_way_22 (by decide) ?_
      subst h
      exact JJ.iret hX hM dX5_way_24
set_option maxRecDepth 100000 in
theorem lp_M_layFar_2 {X : CX} (hX : Ok X RX6 cX6_layFar 7 1) : ∀ (n : Nat) (x1 : Int32) (x2 : Int32) (x3 : Int32) (σ : ST) (e : (ST)), f_M_layFar_L2 n x1 x2 x3 σ = some e → JJ X 32 [(0, .ref (xad X 31)), (2, .int x2)] [] e → JJ X 2 [(0, .ref (xad X 31)), (1, .int x1), (2, .int x2), (3, .int x3)] [] σ := by
  intro n
  induction n with
  | zero =>
    intro x1 x2 x3 σ e h
    rw [f_M_layFar_L2] at h
    cases h
  | succ n ih =>
    intro x1 x2 x3 σ e h K
    rw [f_M_layFar_L2] at h
    refine JJ.iload_n hX 3 dX6_layFar_2 rfl ?_
    refine JJ.bipush (v := 6) hX dX6_layFar_3 (by decide) ?_
    refine JJ.icmp_ge (tgt := 32) hX dX6_layFar_5 (by decide) (fun c1 => ?_) (fun c1 => ?_)
    · replace h := ipos c1 h
      obtain rfl := Option.some.inj h
      exact JJ.sub [0, 2] rfl K
    · replace h := ineg c1 h
      refine JJ.aload_n hX 0 dX6_layFar_8 rfl ?_
      refine fg_X6_25_31 hX dX6_layFar_9 ?_
      refine JJ.iload_n hX 3 dX6_layFar_12 rfl ?_
      refine JJ.iload_n hX 3 dX6_layFar_13 rfl ?_
      refine JJ.iload_n hX 1 dX6_layFar_14 rfl ?_
      refine JJ.icmp_ne (tgt := 22) hX dX6_layFar_15 (by decide) (fun c2 => ?_) (fun c2 => ?_)
      · replace h := ineg c2 h
        refine JJ.sipush (v := 9999) hX dX6_layFar_22 (by decide) ?_
        obtain ⟨c3, h⟩ := gte h
        refine ast_37 hX c3 dX6_layFar_25 ?_
        refine JJ.iinc (v := 1) (ls' := [(0, .ref (xad X 31)), (1, .int x1), (2, .int x2), (3, .int (x3 + (1 : Int32)))]) hX 3 dX6_layFar_26 rfl (by decide) (by decide) rfl rfl ?_
        refine JJ.goto (tgt := 2) hX dX6_layFar_29 (by decide) ?_
        exact ih _ _ _ _ _ h K
      · replace h := ipos c2 h
        refine JJ.iconst (v := 0) hX dX6_layFar_18 (by decide) ?_
        refine JJ.goto (tgt := 25) hX dX6_layFar_19 (by decide) ?_
        obtain ⟨c4, h⟩ := gte h
        refine ast_37 hX c4 dX6_layFar_25 ?_
        refine JJ.iinc (v := 1) (ls' := [(0, .ref (xad X 31)), (1, .int x1), (2, .int x2), (3, .int (x3 + (1 : Int32)))]) hX 3 dX6_layFar_26 rfl (by decide) (by decide) rfl rfl ?_
        refine JJ.goto (tgt := 2) hX dX6_layFar_29 (by decide) ?_
        exact ih _ _ _ _ _ h K
set_option maxRecDepth 100000 in
theorem lp_M_layFar_43 {X : CX} (hX : Ok X RX6 cX6_layFar 7 1) : ∀ (n : Nat) (x2 : Int32) (x3 : Int32) (x4 : Int32) (σ : ST) (e : (ST)), f_M_layFar_L43 n x2 x3 x4 σ = some e → JJ X 141 [(0, .ref (xad X 31)), (2, .int x2), (3, .int x3)] [] e → JJ X 43 [(0, .ref (xad X 31)), (2, .int x2), (3, .int x3), (4, .int x4)] [] σ := by
  intro n
  induction n with
  | zero =>
    intro x2 x3 x4 σ e h
    rw [f_M_layFar_L43] at h
    cases h
  | succ n ih =>
    intro x2 x3 x4 σ e h K
    rw [f_M_layFar_L43] at h
    refine JJ.iload hX 3 dX6_layFar_43 rfl ?_
    refine JJ.iconst (v := 2) hX dX6_layFar_45 (by decide) ?_
    refine JJ.aload_n hX 0 dX6_layFar_46 rfl ?_
    refine fg_X6_84_31 hX dX6_layFar_47 ?_
    refine JJ.imul hX dX6_layFar_50 ?_
    refine JJ.icmp_ge (tgt := 141) hX dX6_layFar_51 (by decide) (fun c7 => ?_) (fun c7 => ?_)
    · replace h := ipos c7 h
      obtain rfl := Option.some.inj h
      exact JJ.sub [0, 1, 2] rfl K
    · replace h := ineg c7 h
      refine JJ.aload_n hX 0 dX6_layFar_54 rfl ?_
      refine fg_X6_19_31 hX dX6_layFar_55 ?_
      refine JJ.iload hX 3 dX6_layFar_58 rfl ?_
      obtain ⟨c8, h⟩ := gte h
      refine ald_35 hX c8 dX6_layFar_60 ?_
      refine JJ.istore (ls' := [(0, .ref (xad X 31)), (2, .int x2), (3, .int x3), (4, .int x4), (5, .int (gA σ 35 x4.toNatClampNeg))]) hX dX6_layFar_61 (by decide) rfl rfl ?_
      refine JJ.aload_n hX 0 dX6_layFar_63 rfl ?_
      refine fg_X6_25_31 hX dX6_layFar_64 ?_
      refine JJ.iload hX 3 dX6_layFar_67 rfl ?_
      refine JJ.iconst (v := 2) hX dX6_layFar_69 (by decide) ?_
      refine JJ.idiv hX dX6_layFar_70 (by decide) ?_
      obtain ⟨c9, h⟩ := gte h
      refine ald_37 hX c9 dX6_layFar_71 ?_
      refine JJ.iload_n hX 1 dX6_layFar_72 rfl ?_
      refine JJ.if_eq (tgt := 85) hX dX6_layFar_73 (by decide) (fun c10 => ?_) (fun c10 => ?_)
      · replace h := ipos c10 h
        refine JJ.iconst (v := 1) hX dX6_layFar_85 (by decide) ?_
        refine JJ.iadd hX dX6_layFar_86 ?_
        refine JJ.istore (ls' := [(0, .ref (xad X 31)), (2, .int x2), (3, .int x3), (4, .int x4), (5, .int (gA σ 35 x4.toNatClampNeg)), (6, .int ((gA σ 37 (x4 / (2 : Int32)).toNatClampNeg) + (1 : Int32)))]) hX dX6_layFar_87 (by decide) rfl rfl ?_
        refine JJ.aload_n hX 0 dX6_layFar_89 rfl ?_
        refine fg_X6_25_31 hX dX6_layFar_90 ?_
        refine JJ.iload hX 4 dX6_layFar_93 rfl ?_
        refine JJ.aload_n hX 0 dX6_layFar_95 rfl ?_
        refine fg_X6_25_31 hX dX6_layFar_96 ?_
        refine JJ.iload hX 3 dX6_layFar_99 rfl ?_
        refine JJ.iconst (v := 2) hX dX6_layFar_101 (by decide) ?_
        refine JJ.idiv hX dX6_layFar_102 (by decide) ?_
        obtain ⟨c11, h⟩ := gte h
        refine ald_37 hX c11 dX6_layFar_103 ?_
        refine JJ.sipush (v := 9999) hX dX6_layFar_104 (by decide) ?_
        refine JJ.icmp_ge (tgt := 127) hX dX6_layFar_107 (by decide) (fun c12 => ?_) (fun c12 => ?_)
        · replace h := ipos c12 h
          refine JJ.aload_n hX 0 dX6_layFar_127 rfl ?_
          refine fg_X6_25_31 hX dX6_layFar_128 ?_
          refine JJ.iload hX 4 dX6_layFar_131 rfl ?_
          obtain ⟨c13, h⟩ := gte h
          refine ald_37 hX c13 dX6_layFar_133 ?_
          obtain ⟨c14, h⟩ := gte h
          refine ast_37 hX c14 dX6_layFar_134 ?_
          refine JJ.iinc (v := 1) (ls' := [(0, .ref (xad X 31)), (2, .int x2), (3, .int x3), (4, .int (x4 + (1 : Int32))), (5, .int (gA σ 35 x4.toNatClampNeg)), (6, .int ((gA σ 37 (x4 / (2 : Int32)).toNatClampNeg) + (1 : Int32)))]) hX 3 dX6_layFar_135 rfl (by decide) (by decide) rfl rfl ?_
          refine JJ.goto (tgt := 43) hX dX6_layFar_138 (by decide) ?_
          refine JJ.sub (ls' := [(0, .ref (xad X 31)), (2, .int x2), (3, .int x3), (4, .int (x4 + (1 : Int32)))]) [0, 1, 2, 3] rfl ?_
          exact ih _ _ _ _ _ h K
        · replace h := ineg c12 h
          refine JJ.iload hX 5 dX6_layFar_110 rfl ?_
          refine JJ.aload_n hX 0 dX6_layFar_112 rfl ?_
          refine fg_X6_25_31 hX dX6_layFar_113 ?_
          refine JJ.iload hX 4 dX6_layFar_116 rfl ?_
          obtain ⟨c15, h⟩ := gte h
          refine ald_37 hX c15 dX6_layFar_118 ?_
          refine JJ.icmp_ge (tgt := 127) hX dX6_layFar_119 (by decide) (fun c16 => ?_) (fun c16 => ?_)
          · replace h := ipos c16 h
            refine JJ.aload_n hX 0 dX6_layFar_127 rfl ?_
            refine fg_X6_25_31 hX dX6_layFar_128 ?_
            refine JJ.iload hX 4 dX6_layFar_131 rfl ?_
            obtain ⟨c17, h⟩ := gte h
            refine ald_37 hX c17 dX6_layFar_133 ?_
            obtain ⟨c18, h⟩ := gte h
            refine ast_37 hX c18 dX6_layFar_134 ?_
            refine JJ.iinc (v := 1) (ls' := [(0, .ref (xad X 31)), (2, .int x2), (3, .int x3), (4, .int (x4 + (1 : Int32))), (5, .int (gA σ 35 x4.toNatClampNeg)), (6, .int ((gA σ 37 (x4 / (2 : Int32)).toNatClampNeg) + (1 : Int32)))]) hX 3 dX6_layFar_135 rfl (by decide) (by decide) rfl rfl ?_
            refine JJ.goto (tgt := 43) hX dX6_layFar_138 (by decide) ?_
            refine JJ.sub (ls' := [(0, .ref (xad X 31)), (2, .int x2), (3, .int x3), (4, .int (x4 + (1 : Int32)))]) [0, 1, 2, 3] rfl ?_
            exact ih _ _ _ _ _ h K
          · replace h := ineg c16 h
            refine JJ.iload hX 5 dX6_layFar_122 rfl ?_
            refine JJ.goto (tgt := 134) hX dX6_layFar_124 (by decide) ?_
            obtain ⟨c19, h⟩ := gte h
            refine ast_37 hX c19 dX6_layFar_134 ?_
            refine JJ.iinc (v := 1) (ls' := [(0, .ref (xad X 31)), (2, .int x2), (3, .int x3), (4, .int (x4 + (1 : Int32))), (5, .int (gA σ 35 x4.toNatClampNeg)), (6, .int ((gA σ 37 (x4 / (2 : Int32)).toNatClampNeg) + (1 : Int32)))]) hX 3 dX6_layFar_135 rfl (by decide) (by decide) rfl rfl ?_
            refine JJ.goto (tgt := 43) hX dX6_layFar_138 (by decide) ?_
            refine JJ.sub (ls' := [(0, .ref (xad X 31)), (2, .int x2), (3, .int x3), (4, .int (x4 + (1 : Int32)))]) [0, 1, 2, 3] rfl ?_
            exact ih _ _ _ _ _ h K
      · replace h := ineg c10 h
        refine JJ.aload_n hX 0 dX6_layFar_76 rfl ?_
        refine JJ.iload hX 4 dX6_layFar_77 rfl ?_
        obtain ⟨q20, h20, h⟩ := bnd h
        refine JJ.callVi hX (ct_M_burnsAt _ _ _ h20) cal_yX6_burnsAt cav_yX6_burnsAt lm_RX6_102 rfl rfl rfl (Rcv.obj hX (ci := 6) rfl rfl) (Nat.le_of_ble_eq_true rfl) ⟨by decide, by decide⟩ dX6_layFar_79 ?_
        refine JJ.goto (tgt := 86) hX dX6_layFar_82 (by decide) ?_
        refine JJ.iadd hX dX6_layFar_86 ?_
        refine JJ.istore (ls' := [(0, .ref (xad X 31)), (2, .int x2), (3, .int x3), (4, .int x4), (5, .int (gA σ 35 x4.toNatClampNeg)), (6, .int ((gA σ 37 (x4 / (2 : Int32)).toNatClampNeg) + q20))]) hX dX6_layFar_87 (by decide) rfl rfl ?_
        refine JJ.aload_n hX 0 dX6_layFar_89 rfl ?_
        refine fg_X6_25_31 hX dX6_layFar_90 ?_
        refine JJ.iload hX 4 dX6_layFar_93 rfl ?_
        refine JJ.aload_n hX 0 dX6_layFar_95 rfl ?_
        refine fg_X6_25_31 hX dX6_layFar_96 ?_
        refine JJ.iload hX 3 dX6_layFar_99 rfl ?_
        refine JJ.iconst (v := 2) hX dX6_layFar_101 (by decide) ?_
        refine JJ.idiv hX dX6_layFar_102 (by decide) ?_
        obtain ⟨c21, h⟩ := gte h
        refine ald_37 hX c21 dX6_layFar_103 ?_
        refine JJ.sipush (v := 9999) hX dX6_layFar_104 (by decide) ?_
        refine JJ.icmp_ge (tgt := 127) hX dX6_layFar_107 (by decide) (fun c22 => ?_) (fun c22 => ?_)
        · replace h := ipos c22 h
          refine JJ.aload_n hX 0 dX6_layFar_127 rfl ?_
          refine fg_X6_25_31 hX dX6_layFar_128 ?_
          refine JJ.iload hX 4 dX6_layFar_131 rfl ?_
          obtain ⟨c23, h⟩ := gte h
          refine ald_37 hX c23 dX6_layFar_133 ?_
          obtain ⟨c24, h⟩ := gte h
          refine ast_37 hX c24 dX6_layFar_134 ?_
          refine JJ.iinc (v := 1) (ls' := [(0, .ref (xad X 31)), (2, .int x2), (3, .int x3), (4, .int (x4 + (1 : Int32))), (5, .int (gA σ 35 x4.toNatClampNeg)), (6, .int ((gA σ 37 (x4 / (2 : Int32)).toNatClampNeg) + q20))]) hX 3 dX6_layFar_135 rfl (by decide) (by decide) rfl rfl ?_
          refine JJ.goto (tgt := 43) hX dX6_layFar_138 (by decide) ?_
          refine JJ.sub (ls' := [(0, .ref (xad X 31)), (2, .int x2), (3, .int x3), (4, .int (x4 + (1 : Int32)))]) [0, 1, 2, 3] rfl ?_
          exact ih _ _ _ _ _ h K
        · replace h := ineg c22 h
          refine JJ.iload hX 5 dX6_layFar_110 rfl ?_
          refine JJ.aload_n hX 0 dX6_layFar_112 rfl ?_
          refine fg_X6_25_31 hX dX6_layFar_113 ?_
          refine JJ.iload hX 4 dX6_layFar_116 rfl ?_
          obtain ⟨c25, h⟩ := gte h
          refine ald_37 hX c25 dX6_layFar_118 ?_
          refine JJ.icmp_ge (tgt := 127) hX dX6_layFar_119 (by decide) (fun c26 => ?_) (fun c26 => ?_)
          · replace h := ipos c26 h
            refine JJ.aload_n hX 0 dX6_layFar_127 rfl ?_
            refine fg_X6_25_31 hX dX6_layFar_128 ?_
            refine JJ.iload hX 4 dX6_layFar_131 rfl ?_
            obtain ⟨c27, h⟩ := gte h
            refine ald_37 hX c27 dX6_layFar_133 ?_
            obtain ⟨c28, h⟩ := gte h
            refine ast_37 hX c28 dX6_layFar_134 ?_
            refine JJ.iinc (v := 1) (ls' := [(0, .ref (xad X 31)), (2, .int x2), (3, .int x3), (4, .int (x4 + (1 : Int32))), (5, .int (gA σ 35 x4.toNatClampNeg)), (6, .int ((gA σ 37 (x4 / (2 : Int32)).toNatClampNeg) + q20))]) hX 3 dX6_layFar_135 rfl (by decide) (by decide) rfl rfl ?_
            refine JJ.goto (tgt := 43) hX dX6_layFar_138 (by decide) ?_
            refine JJ.sub (ls' := [(0, .ref (xad X 31)), (2, .int x2), (3, .int x3), (4, .int (x4 + (1 : Int32)))]) [0, 1, 2, 3] rfl ?_
            exact ih _ _ _ _ _ h K
          · replace h := ineg c26 h
            refine JJ.iload hX 5 dX6_layFar_122 rfl ?_
            refine JJ.goto (tgt := 134) hX dX6_layFar_124 (by decide) ?_
            obtain ⟨c29, h⟩ := gte h
            refine ast_37 hX c29 dX6_layFar_134 ?_
            refine JJ.iinc (v := 1) (ls' := [(0, .ref (xad X 31)), (2, .int x2), (3, .int x3), (4, .int (x4 + (1 : Int32))), (5, .int (gA σ 35 x4.toNatClampNeg)), (6, .int ((gA σ 37 (x4 / (2 : Int32)).toNatClampNeg) + q20))]) hX 3 dX6_layFar_135 rfl (by decide) (by decide) rfl rfl ?_
            refine JJ.goto (tgt := 43) hX dX6_layFar_138 (by decide) ?_
            refine JJ.sub (ls' := [(0, .ref (xad X 31)), (2, .int x2), (3, .int x3), (4, .int (x4 + (1 : Int32)))]) [0, 1, 2, 3] rfl ?_
            exact ih _ _ _ _ _ h K
set_option maxRecDepth 100000 in
theorem lp_M_layFar_34 {X : CX} (hX : Ok X RX6 cX6_layFar 7 1) : ∀ (n : Nat) (x2 : Int32) (x3 : Int32) (σ : ST) (e : (ST)), f_M_layFar_L34 n x2 x3 σ = some e → JJ X 147 [] [] e → JJ X 34 [(0, .ref (xad X 31)), (2, .int x2), (3, .int x3)] [] σ := by
  intro n
  induction n with
  | zero =>
    intro x2 x3 σ e h
    rw [f_M_layFar_L34] at h
    cases h
  | succ n ih =>
    intro x2 x3 σ e h K
    rw [f_M_layFar_L34] at h
    refine JJ.iload_n hX 2 dX6_layFar_34 rfl ?_
    refine JJ.bipush (v := 6) hX dX6_layFar_35 (by decide) ?_
    refine JJ.icmp_ge (tgt := 147) hX dX6_layFar_37 (by decide) (fun c6 => ?_) (fun c6 => ?_)
    · replace h := ipos c6 h
      obtain rfl := Option.some.inj h
      exact JJ.sub [] rfl K
    · replace h := ineg c6 h
      refine JJ.iconst (v := 0) hX dX6_layFar_40 (by decide) ?_
      refine JJ.istore (ls' := [(0, .ref (xad X 31)), (2, .int x2), (3, .int x3), (4, .int (0 : Int32))]) hX dX6_layFar_41 (by decide) rfl rfl ?_
      obtain ⟨e30, h30, h⟩ := bnd h
      refine lp_M_layFar_43 hX 400 _ _ _ _ _ h30 ?_
      refine JJ.iinc (v := 1) (ls' := [(0, .ref (xad X 31)), (2, .int x2), (3, .int (x3 + (1 : Int32)))]) hX 2 dX6_layFar_141 rfl (by decide) (by decide) rfl rfl ?_
      refine JJ.goto (tgt := 34) hX dX6_layFar_144 (by decide) ?_
      exact ih _ _ _ _ h K
set_option maxRecDepth 100000 in
theorem ct_M_layFar (p1 : Int32) (p2 : Int32) (σ : ST) (res : ST) (h : f_M_layFar p1 p2 σ = some res) : Ct 1 yX6_layFar cX6_layFar 7 none (fun ad => [.int p2, .int p1, .ref (ad 31)]) σ none res := by
  refine Ct.of (ls := fun ad => [(0, .ref (ad 31)), (1, .int p1), (2, .int p2)]) (by decide +kernel) (fun ad => Nat.le_of_ble_eq_true rfl) (fun ad => rfl) (fun X hX hM => ?_)
  replace hX : Ok X RX6 cX6_layFar 7 1 := hX
  unfold f_M_layFar at h
  refine JJ.iconst (v := 0) hX dX6_layFar_0 (by decide) ?_
  refine JJ.istore_n (ls' := [(0, .ref (xad X 31)), (1, .int p1), (2, .int p2), (3, .int (0 : Int32))]) hX dX6_layFar_1 (by decide) rfl rfl ?_
  obtain ⟨e5, h5, h⟩ := bnd h
  refine lp_M_layFar_2 hX 400 _ _ _ _ _ h5 ?_
  refine JJ.iconst (v := 0) hX dX6_layFar_32 (by decide) ?_
  refine JJ.istore_n (ls' := [(0, .ref (xad X 31)), (2, .int p2), (3, .int (0 : Int32))]) hX dX6_layFar_33 (by decide) rfl rfl ?_
  obtain ⟨e31, h31, h⟩ := bnd h
  refine lp_M_layFar_34 hX 400 _ _ _ _ h31 ?_
  obtain rfl := Option.some.inj h
  exact JJ.vret hX hM dX6_layFar_147
set_option maxRecDepth 100000 in
theorem ct_M_stepsTo (p1 : Int32) (p2 : Int32) (σ : ST) (res : Int32 × ST) (h : f_M_stepsTo p1 p2 σ = some res) : Ct 2 yX6_stepsTo cX6_stepsTo 3 (some .int) (fun ad => [.int p2, .int p1, .ref (ad 31)]) σ (some (.int res.1)) res.2 := by
  refine Ct.of (ls := fun ad => [(0, .ref (ad 31)), (1, .int p1), (2, .int p2)]) (by decide +kernel) (fun ad => Nat.le_of_ble_eq_true rfl) (fun ad => rfl) (fun X hX hM => ?_)
  replace hX : Ok X RX6 cX6_stepsTo 3 2 := hX
  unfold f_M_stepsTo at h
  refine JJ.aload_n hX 0 dX6_stepsTo_0 rfl ?_
  refine JJ.iload_n hX 1 dX6_stepsTo_1 rfl ?_
  refine JJ.iconst (v := 0) hX dX6_stepsTo_2 (by decide) ?_
  obtain ⟨q1, h1, h⟩ := bnd h
  refine JJ.callVv hX (ct_M_layFar _ _ _ _ h1) cal_yX6_layFar cav_yX6_layFar lm_RX6_129 rfl rfl rfl (Rcv.obj hX (ci := 6) rfl rfl) (Nat.le_of_ble_eq_true rfl) ⟨by decide, by decide⟩ dX6_stepsTo_3 ?_
  refine JJ.aload_n hX 0 dX6_stepsTo_6 rfl ?_
  refine fg_X6_25_31 hX dX6_stepsTo_7 ?_
  refine JJ.iload_n hX 2 dX6_stepsTo_10 rfl ?_
  obtain ⟨c2, h⟩ := gte h
  refine ald_37 hX c2 dX6_stepsTo_11 ?_
  obtain rfl := Option.some.inj h
  exact JJ.iret hX hM dX6_stepsTo_12
set_option maxRecDepth 100000 in
theorem ct_M_wayOf (p1 : Int32) (p2 : Int32) (p3 : Int32) (σ : ST) (res : Int32 × ST) (h : f_M_wayOf p1 p2 p3 σ = some res) : Ct 3 yX6_wayOf cX6_wayOf 5 (some .int) (fun ad => [.int p3, .int p2, .int p1, .ref (ad 31)]) σ (some (.int res.1)) res.2 := by
  refine Ct.of (ls := fun ad => [(0, .ref (ad 31)), (1, .int p1), (2, .int p2), (3, .int p3)]) (by decide +kernel) (fun ad => Nat.le_of_ble_eq_true rfl) (fun ad => rfl) (fun X hX hM => ?_)
  replace hX : Ok X RX6 cX6_wayOf 5 3 := hX
  unfold f_M_wayOf at h
  refine JJ.aload_n hX 0 dX6_wayOf_0 rfl ?_
  refine JJ.iload_n hX 1 dX6_wayOf_1 rfl ?_
  refine JJ.iload_n hX 2 dX6_wayOf_2 rfl ?_
  obtain ⟨q1, h1, h⟩ := bnd h
  refine JJ.callVi hX (ct_M_stepsTo _ _ _ _ h1) cal_yX6_stepsTo cav_yX6_stepsTo lm_RX6_133 rfl rfl rfl (Rcv.obj hX (ci := 6) rfl rfl) (Nat.le_of_ble_eq_true rfl) ⟨by decide, by decide⟩ dX6_wayOf_3 ?_
  refine JJ.istore (ls' := [(0, .ref (xad X 31)), (1, .int p1), (2, .int p2), (3, .int p3), (4, .int q1.1)]) hX dX6_wayOf_6 (by decide) rfl rfl ?_
  refine JJ.iload hX 4 dX6_wayOf_8 rfl ?_
  refine JJ.sipush (v := 9999) hX dX6_wayOf_10 (by decide) ?_
  refine JJ.icmp_ne (tgt := 18) hX dX6_wayOf_13 (by decide) (fun c2 => ?_) (fun c2 => ?_)
  · replace h := ineg c2 h
    refine JJ.iload_n hX 3 dX6_wayOf_18 rfl ?_
    refine JJ.if_ne (tgt := 25) hX dX6_wayOf_19 (by decide) (fun c3 => ?_) (fun c3 => ?_)
    · replace h := ineg c3 h
      refine JJ.iload_n hX 3 dX6_wayOf_25 rfl ?_
      refine JJ.iconst (v := 1) hX dX6_wayOf_26 (by decide) ?_
      refine JJ.icmp_ne (tgt := 65) hX dX6_wayOf_27 (by decide) (fun c4 => ?_) (fun c4 => ?_)
      · replace h := ineg c4 h
        refine JJ.aload_n hX 0 dX6_wayOf_65 rfl ?_
        refine JJ.iload_n hX 1 dX6_wayOf_66 rfl ?_
        refine JJ.iconst (v := 1) hX dX6_wayOf_67 (by decide) ?_
        obtain ⟨q5, h5, h⟩ := bnd h
        refine JJ.callVv hX (ct_M_layFar _ _ _ _ h5) cal_yX6_layFar cav_yX6_layFar lm_RX6_129 rfl rfl rfl (Rcv.obj hX (ci := 6) rfl rfl) (Nat.le_of_ble_eq_true rfl) ⟨by decide, by decide⟩ dX6_wayOf_68 ?_
        refine JJ.aload_n hX 0 dX6_wayOf_71 rfl ?_
        refine fg_X6_25_31 hX dX6_wayOf_72 ?_
        refine JJ.iload_n hX 2 dX6_wayOf_75 rfl ?_
        obtain ⟨c6, h⟩ := gte h
        refine ald_37 hX c6 dX6_wayOf_76 ?_
        obtain rfl := Option.some.inj h
        exact JJ.iret hX hM dX6_wayOf_77
      · replace h := ipos c4 h
        refine JJ.iload hX 4 dX6_wayOf_30 rfl ?_
        refine JJ.if_ne (tgt := 39) hX dX6_wayOf_32 (by decide) (fun c7 => ?_) (fun c7 => ?_)
        · replace h := ineg c7 h
          refine JJ.aload_n hX 0 dX6_wayOf_39 rfl ?_
          refine JJ.aload_n hX 0 dX6_wayOf_40 rfl ?_
          refine fg_X6_19_31 hX dX6_wayOf_41 ?_
          refine JJ.iconst (v := 2) hX dX6_wayOf_44 (by decide) ?_
          refine JJ.iload_n hX 1 dX6_wayOf_45 rfl ?_
          refine JJ.imul hX dX6_wayOf_46 ?_
          obtain ⟨c8, h⟩ := gte h
          refine ald_35 hX c8 dX6_wayOf_47 ?_
          refine JJ.iload_n hX 2 dX6_wayOf_48 rfl ?_
          obtain ⟨q9, h9, h⟩ := bnd h
          refine JJ.callVi hX (ct_M_stepsTo _ _ _ _ h9) cal_yX6_stepsTo cav_yX6_stepsTo lm_RX6_133 rfl rfl rfl (Rcv.obj hX (ci := 6) rfl rfl) (Nat.le_of_ble_eq_true rfl) ⟨by decide, by decide⟩ dX6_wayOf_49 ?_
          refine JJ.iload hX 4 dX6_wayOf_52 rfl ?_
          refine JJ.iconst (v := 1) hX dX6_wayOf_54 (by decide) ?_
          refine JJ.isub hX dX6_wayOf_55 ?_
          refine JJ.icmp_ne (tgt := 63) hX dX6_wayOf_56 (by decide) (fun c10 => ?_) (fun c10 => ?_)
          · replace h := ineg c10 h
            refine JJ.iconst (v := 1) hX dX6_wayOf_63 (by decide) ?_
            obtain rfl := Option.some.inj h
            exact JJ.iret hX hM dX6_wayOf_64
          · replace h := ipos c10 h
            refine JJ.iconst (v := 0) hX dX6_wayOf_59 (by decide) ?_
            refine JJ.goto (tgt := 64) hX dX6_wayOf_60 (by decide) ?_
            obtain rfl := Option.some.inj h
            exact JJ.iret hX hM dX6_wayOf_64
        · replace h := ipos c7 h
          refine JJ.iconst (v := -1) hX dX6_wayOf_35 (by decide) ?_
          refine JJ.goto (tgt := 64) hX dX6_wayOf_36 (by decide) ?_
          obtain rfl := Option.some.inj h
          exact JJ.iret hX hM dX6_wayOf_64
    · replace h := ipos c3 h
      refine JJ.iload hX 4 dX6_wayOf_22 rfl ?_
      obtain rfl := Option.some.inj h
      exact JJ.iret hX hM dX6_wayOf_24
  · replace h := ipos c2 h
    refine JJ.iconst (v := -1) hX dX6_wayOf_16 (by decide) ?_
    obtain rfl := Option.some.inj h
    exact JJ.iret hX hM dX6_wayOf_17
set_option maxRecDepth 100000 in
theorem ct_M_way (p1 : Int32) (p2 : Int32) (p3 : Int32) (σ : ST) (res : Int32 × ST) (h : f_M_way p1 p2 p3 σ = some res) : Ct 4 yX6_way cX6_way 4 (some .int) (fun ad => [.int p3, .int p2, .int p1, .ref (ad 31)]) σ (some (.int res.1)) res.2 := by
  refine Ct.of (ls := fun ad => [(0, .ref (ad 31)), (1, .int p1), (2, .int p2), (3, .int p3)]) (by decide +kernel) (fun ad => Nat.le_of_ble_eq_true rfl) (fun ad => rfl) (fun X hX hM => ?_)
  replace hX : Ok X RX6 cX6_way 4 4 := hX
  unfold f_M_way at h
  refine JJ.aload_n hX 0 dX6_way_0 rfl ?_
  refine JJ.iload_n hX 1 dX6_way_1 rfl ?_
  refine JJ.callVi hX (ct_M_isCrossing _ _ _ rfl) cal_yX6_isCrossing cav_yX6_isCrossing lm_RX6_108 rfl rfl rfl (Rcv.obj hX (ci := 6) rfl rfl) (Nat.le_of_ble_eq_true rfl) ⟨by decide, by decide⟩ dX6_way_2 ?_
  refine JJ.if_eq (tgt := 16) hX dX6_way_5 (by decide) (fun c1 => ?_) (fun c1 => ?_)
  · replace h := ipos c1 h
    refine JJ.bipush (v := -101) hX dX6_way_16 (by decide) ?_
    obtain rfl := Option.some.inj h
    exact JJ.iret hX hM dX6_way_18
  · replace h := ineg c1 h
    refine JJ.aload_n hX 0 dX6_way_8 rfl ?_
    refine JJ.iload_n hX 2 dX6_way_9 rfl ?_
    refine JJ.callVi hX (ct_M_isCrossing _ _ _ rfl) cal_yX6_isCrossing cav_yX6_isCrossing lm_RX6_108 rfl rfl rfl (Rcv.obj hX (ci := 6) rfl rfl) (Nat.le_of_ble_eq_true rfl) ⟨by decide, by decide⟩ dX6_way_10 ?_
    refine JJ.if_ne (tgt := 19) hX dX6_way_13 (by decide) (fun c2 => ?_) (fun c2 => ?_)
    · replace h := ineg c2 h
      refine JJ.iload_n hX 3 dX6_way_19 rfl ?_
      refine JJ.i2l hX dX6_way_20 ?_
      refine JJ.lconst (v := 0) hX dX6_way_21 (by decide) ?_
      refine JJ.ldc2 hX lc_RX6_136 dX6_way_22 ?_
      refine JJ.callSi hX (ct_M_in _ _ _ _ _ rfl) cal_yX6_in cas_yX6_in lm_RX6_49 rfl rfl (Nat.le_of_ble_eq_true rfl) ⟨by decide, by decide⟩ dX6_way_25 ?_
      refine JJ.if_eq (tgt := 41) hX dX6_way_28 (by decide) (fun c3 => ?_) (fun c3 => ?_)
      · replace h := ipos c3 h
        refine JJ.bipush (v := -102) hX dX6_way_41 (by decide) ?_
        obtain rfl := Option.some.inj h
        exact JJ.iret hX hM dX6_way_43
      · replace h := ineg c3 h
        refine JJ.aload_n hX 0 dX6_way_31 rfl ?_
        refine JJ.iload_n hX 1 dX6_way_32 rfl ?_
        refine JJ.iload_n hX 2 dX6_way_33 rfl ?_
        refine JJ.iload_n hX 3 dX6_way_34 rfl ?_
        obtain ⟨q4, h4, h⟩ := bnd h
        refine JJ.callVi hX (ct_M_wayOf _ _ _ _ _ h4) cal_yX6_wayOf cav_yX6_wayOf lm_RX6_138 rfl rfl rfl (Rcv.obj hX (ci := 6) rfl rfl) (Nat.le_of_ble_eq_true rfl) ⟨by decide, by decide⟩ dX6_way_35 ?_
        refine JJ.goto (tgt := 43) hX dX6_way_38 (by decide) ?_
        obtain rfl := Option.some.inj h
        exact JJ.iret hX hM dX6_way_43
    · replace h := ipos c2 h
      refine JJ.bipush (v := -101) hX dX6_way_16 (by decide) ?_
      obtain rfl := Option.some.inj h
      exact JJ.iret hX hM dX6_way_18
set_option maxRecDepth 100000 in
theorem ct_Ways_roundAfter (p1 : Int32) (p2 : Int32) (σ : ST) (res : Int32) (h : f_Ways_roundAfter p1 p2 σ = res) : Ct 2 yX4_roundAfter cX4_roundAfter 4 (some .int) (fun ad => [.int p2, .int p1, .ref (ad 7)]) σ (some (.int res)) σ := by
  refine Ct.of (ls := fun ad => [(0, .ref (ad 7)), (1, .int p1), (2, .int p2)]) (by decide +kernel) (fun ad => Nat.le_of_ble_eq_true rfl) (fun ad => rfl) (fun X hX hM => ?_)
  replace hX : Ok X RX4 cX4_roundAfter 4 2 := hX
  unfold f_Ways_roundAfter at h
  refine JJ.aload_n hX 0 dX4_roundAfter_0 rfl ?_
  refine fg_X4_31_7 hX dX4_roundAfter_1 ?_
  refine JJ.iload_n hX 1 dX4_roundAfter_4 rfl ?_
  refine JJ.iload_n hX 2 dX4_roundAfter_5 rfl ?_
  refine JJ.callVi hX (ct_Mine_leadsTo _ _ _ _ rfl) cal_yX1_leadsTo cav_yX1_leadsTo lm_RX4_49 rfl rfl rfl (Rcv.obj hX (ci := 1) rfl rfl) (Nat.le_of_ble_eq_true rfl) ⟨by decide, by decide⟩ dX4_roundAfter_6 ?_
  refine JJ.istore_n (ls' := [(0, .ref (xad X 7)), (1, .int p1), (2, .int p2), (3, .int (f_Mine_leadsTo p1 p2 σ))]) hX dX4_roundAfter_9 (by decide) rfl rfl ?_
  refine JJ.aload_n hX 0 dX4_roundAfter_10 rfl ?_
  refine JJ.iconst (v := 1) hX dX4_roundAfter_11 (by decide) ?_
  refine JJ.iload_n hX 1 dX4_roundAfter_12 rfl ?_
  refine JJ.ishl hX dX4_roundAfter_13 ?_
  refine JJ.iconst (v := 1) hX dX4_roundAfter_14 (by decide) ?_
  refine JJ.iload_n hX 3 dX4_roundAfter_15 rfl ?_
  refine JJ.ishl hX dX4_roundAfter_16 ?_
  refine JJ.ior hX dX4_roundAfter_17 ?_
  refine JJ.iload_n hX 3 dX4_roundAfter_18 rfl ?_
  refine JJ.callVi hX (ct_Ways_stepsOfRound _ _ _ _ rfl) cal_yX4_stepsOfRound cav_yX4_stepsOfRound lm_RX4_61 rfl rfl rfl (Rcv.obj hX (ci := 4) rfl rfl) (Nat.le_of_ble_eq_true rfl) ⟨by decide, by decide⟩ dX4_roundAfter_19 ?_
  subst h
  exact JJ.iret hX hM dX4_roundAfter_22
set_option maxRecDepth 100000 in
theorem ct_Ways_firstOfRound (p1 : Int32) (σ : ST) (res : Int32) (h : f_Ways_firstOfRound p1 σ = res) : Ct 3 yX4_firstOfRound cX4_firstOfRound 2 (some .int) (fun ad => [.int p1, .ref (ad 7)]) σ (some (.int res)) σ := by
  refine Ct.of (ls := fun ad => [(0, .ref (ad 7)), (1, .int p1)]) (by decide +kernel) (fun ad => Nat.le_of_ble_eq_true rfl) (fun ad => rfl) (fun X hX hM => ?_)
  replace hX : Ok X RX4 cX4_firstOfRound 2 3 := hX
  unfold f_Ways_firstOfRound at h
  refine JJ.aload_n hX 0 dX4_firstOfRound_0 rfl ?_
  refine JJ.iconst (v := 1) hX dX4_firstOfRound_1 (by decide) ?_
  refine JJ.iload_n hX 1 dX4_firstOfRound_2 rfl ?_
  refine JJ.ishl hX dX4_firstOfRound_3 ?_
  refine JJ.iload_n hX 1 dX4_firstOfRound_4 rfl ?_
  refine JJ.callVi hX (ct_Ways_stepsOfRound _ _ _ _ rfl) cal_yX4_stepsOfRound cav_yX4_stepsOfRound lm_RX4_61 rfl rfl rfl (Rcv.obj hX (ci := 4) rfl rfl) (Nat.le_of_ble_eq_true rfl) ⟨by decide, by decide⟩ dX4_firstOfRound_5 ?_
  refine JJ.aload_n hX 0 dX4_firstOfRound_8 rfl ?_
  refine JJ.iload_n hX 1 dX4_firstOfRound_9 rfl ?_
  refine JJ.iconst (v := 0) hX dX4_firstOfRound_10 (by decide) ?_
  refine JJ.callVi hX (ct_Ways_roundAfter _ _ _ _ rfl) cal_yX4_roundAfter cav_yX4_roundAfter lm_RX4_64 rfl rfl rfl (Rcv.obj hX (ci := 4) rfl rfl) (Nat.le_of_ble_eq_true rfl) ⟨by decide, by decide⟩ dX4_firstOfRound_11 ?_
  refine JJ.aload_n hX 0 dX4_firstOfRound_14 rfl ?_
  refine JJ.iload_n hX 1 dX4_firstOfRound_15 rfl ?_
  refine JJ.iconst (v := 1) hX dX4_firstOfRound_16 (by decide) ?_
  refine JJ.callVi hX (ct_Ways_roundAfter _ _ _ _ rfl) cal_yX4_roundAfter cav_yX4_roundAfter lm_RX4_64 rfl rfl rfl (Rcv.obj hX (ci := 4) rfl rfl) (Nat.le_of_ble_eq_true rfl) ⟨by decide, by decide⟩ dX4_firstOfRound_17 ?_
  refine JJ.callSi hX (ct_Ways_firstBy _ _ _ _ _ rfl) cal_yX4_firstBy cas_yX4_firstBy lm_RX4_54 rfl rfl (Nat.le_of_ble_eq_true rfl) ⟨by decide, by decide⟩ dX4_firstOfRound_20 ?_
  subst h
  exact JJ.iret hX hM dX4_firstOfRound_23
set_option maxRecDepth 100000 in
theorem ct_LT_round (p1 : Int32) (p2 : Int32) (σ : ST) (res : Int32) (h : f_LT_round p1 p2 σ = res) : Ct 4 yX5_round cX5_round 3 (some .int) (fun ad => [.int p2, .int p1, .ref (ad 0)]) σ (some (.int res)) σ := by
  refine Ct.of (ls := fun ad => [(0, .ref (ad 0)), (1, .int p1), (2, .int p2)]) (by decide +kernel) (fun ad => Nat.le_of_ble_eq_true rfl) (fun ad => rfl) (fun X hX hM => ?_)
  replace hX : Ok X RX5 cX5_round 3 4 := hX
  unfold f_LT_round at h
  refine JJ.aload_n hX 0 dX5_round_0 rfl ?_
  refine fg_X5_19_0 hX dX5_round_1 ?_
  refine JJ.iload_n hX 1 dX5_round_4 rfl ?_
  refine JJ.callVi hX (ct_Mine_has _ _ _ rfl) cal_yX1_has cav_yX1_has lm_RX5_76 rfl rfl rfl (Rcv.obj hX (ci := 1) rfl rfl) (Nat.le_of_ble_eq_true rfl) ⟨by decide, by decide⟩ dX5_round_5 ?_
  refine JJ.if_ne (tgt := 14) hX dX5_round_8 (by decide) (fun c1 => ?_) (fun c1 => ?_)
  · replace h := ineg c1 h
    refine JJ.iload_n hX 2 dX5_round_14 rfl ?_
    by_cases c2 : p2 = (0 : Int32)
    · replace h := ipos c2 h
      refine JJ.lookup (off := 25) (tgt := 40) hX dX5_round_15 (by decide) (by rw [c2]; rfl) (by decide) ?_
      refine JJ.aload_n hX 0 dX5_round_40 rfl ?_
      refine fg_X5_28_0 hX dX5_round_41 ?_
      refine JJ.iconst (v := 1) hX dX5_round_44 (by decide) ?_
      refine JJ.iload_n hX 1 dX5_round_45 rfl ?_
      refine JJ.ishl hX dX5_round_46 ?_
      refine JJ.iload_n hX 1 dX5_round_47 rfl ?_
      refine JJ.callVi hX (ct_Ways_stepsOfRound _ _ _ _ rfl) cal_yX4_stepsOfRound cav_yX4_stepsOfRound lm_RX5_161 rfl rfl rfl (Rcv.obj hX (ci := 4) rfl rfl) (Nat.le_of_ble_eq_true rfl) ⟨by decide, by decide⟩ dX5_round_48 ?_
      refine JJ.callSi hX (ct_LT_orNone _ _ _ rfl) cal_yX5_orNone cas_yX5_orNone lm_RX5_153 rfl rfl (Nat.le_of_ble_eq_true rfl) ⟨by decide, by decide⟩ dX5_round_51 ?_
      subst h
      exact JJ.iret hX hM dX5_round_54
    · replace h := ineg c2 h
      by_cases c3 : p2 = (1 : Int32)
      · replace h := ipos c3 h
        refine JJ.lookup (off := 40) (tgt := 55) hX dX5_round_15 (by decide) (by rw [c3]; rfl) (by decide) ?_
        refine JJ.aload_n hX 0 dX5_round_55 rfl ?_
        refine fg_X5_28_0 hX dX5_round_56 ?_
        refine JJ.iload_n hX 1 dX5_round_59 rfl ?_
        refine JJ.callVi hX (ct_Ways_firstOfRound _ _ _ rfl) cal_yX4_firstOfRound cav_yX4_firstOfRound lm_RX5_164 rfl rfl rfl (Rcv.obj hX (ci := 4) rfl rfl) (Nat.le_of_ble_eq_true rfl) ⟨by decide, by decide⟩ dX5_round_60 ?_
        subst h
        exact JJ.iret hX hM dX5_round_63
      · replace h := ineg c3 h
        refine JJ.lookup (off := 49) (tgt := 64) hX dX5_round_15 (by decide) (lk_out2 (a := 0) (b := 1) (o0 := 25) (o1 := 40) c2 c3) (by decide) ?_
        refine JJ.bipush (v := -102) hX dX5_round_64 (by decide) ?_
        subst h
        exact JJ.iret hX hM dX5_round_66
  · replace h := ipos c1 h
    refine JJ.bipush (v := -101) hX dX5_round_11 (by decide) ?_
    subst h
    exact JJ.iret hX hM dX5_round_13
set_option maxRecDepth 100000 in
theorem lp_M_roundFrom_12 {X : CX} (hX : Ok X RX6 cX6_roundFrom 10 0) : ∀ (n : Nat) (x1 : Int32) (x2 : Int32) (x3 : Int32) (x4 : Int32) (σ : ST) (e : (ST)), f_M_roundFrom_L12 n x1 x2 x3 x4 σ = some e → JJ X 36 [(0, .ref (xad X 31)), (1, .int x1), (2, .int x2), (3, .int x3)] [] e → JJ X 12 [(0, .ref (xad X 31)), (1, .int x1), (2, .int x2), (3, .int x3), (4, .int x4)] [] σ := by
  intro n
  induction n with
  | zero =>
    intro x1 x2 x3 x4 σ e h
    rw [f_M_roundFrom_L12] at h
    cases h
  | succ n ih =>
    intro x1 x2 x3 x4 σ e h K
    rw [f_M_roundFrom_L12] at h
    refine JJ.iload hX 4 dX6_roundFrom_12 rfl ?_
    refine JJ.sipush (v := 384) hX dX6_roundFrom_14 (by decide) ?_
    refine JJ.icmp_ge (tgt := 36) hX dX6_roundFrom_17 (by decide) (fun c1 => ?_) (fun c1 => ?_)
    · replace h := ipos c1 h
      obtain rfl := Option.some.inj h
      exact JJ.sub [0, 1, 2, 3] rfl K
    · replace h := ineg c1 h
      refine JJ.aload_n hX 0 dX6_roundFrom_20 rfl ?_
      refine fg_X6_28_31 hX dX6_roundFrom_21 ?_
      refine JJ.iload hX 4 dX6_roundFrom_24 rfl ?_
      refine JJ.sipush (v := 9999) hX dX6_roundFrom_26 (by decide) ?_
      obtain ⟨c2, h⟩ := gte h
      refine ast_38 hX c2 dX6_roundFrom_29 ?_
      refine JJ.iinc (v := 1) (ls' := [(0, .ref (xad X 31)), (1, .int x1), (2, .int x2), (3, .int x3), (4, .int (x4 + (1 : Int32)))]) hX 4 dX6_roundFrom_30 rfl (by decide) (by decide) rfl rfl ?_
      refine JJ.goto (tgt := 12) hX dX6_roundFrom_33 (by decide) ?_
      exact ih _ _ _ _ _ _ h K
set_option maxRecDepth 100000 in
theorem lp_M_roundFrom_108 {X : CX} (hX : Ok X RX6 cX6_roundFrom 10 0) : ∀ (n : Nat) (x3 : Int32) (x5 : Int32) (x6 : Int32) (x7 : Int32) (σ : ST) (e : (ST)), f_M_roundFrom_L108 n x3 x5 x6 x7 σ = some e → JJ X 201 [(0, .ref (xad X 31)), (3, .int x3), (5, .int x5), (6, .int x6)] [] e → JJ X 108 [(0, .ref (xad X 31)), (3, .int x3), (5, .int x5), (6, .int x6), (7, .int x7)] [] σ := by
  intro n
  induction n with
  | zero =>
    intro x3 x5 x6 x7 σ e h
    rw [f_M_roundFrom_L108] at h
    cases h
  | succ n ih =>
    intro x3 x5 x6 x7 σ e h K
    rw [f_M_roundFrom_L108] at h
    refine JJ.iload hX 4 dX6_roundFrom_108 rfl ?_
    refine JJ.iconst (v := 2) hX dX6_roundFrom_110 (by decide) ?_
    refine JJ.icmp_ge (tgt := 201) hX dX6_roundFrom_111 (by decide) (fun c9 => ?_) (fun c9 => ?_)
    · replace h := ipos c9 h
      obtain rfl := Option.some.inj h
      exact JJ.sub [0, 1, 2, 3] rfl K
    · replace h := ineg c9 h
      refine JJ.aload_n hX 0 dX6_roundFrom_114 rfl ?_
      refine fg_X6_28_31 hX dX6_roundFrom_115 ?_
      refine JJ.iload hX 3 dX6_roundFrom_118 rfl ?_
      obtain ⟨c10, h⟩ := gte h
      refine ald_38 hX c10 dX6_roundFrom_120 ?_
      refine JJ.iload hX 2 dX6_roundFrom_121 rfl ?_
      refine JJ.icmp_ne (tgt := 201) hX dX6_roundFrom_123 (by decide) (fun c11 => ?_) (fun c11 => ?_)
      · replace h := ineg c11 h
        obtain rfl := Option.some.inj h
        exact JJ.sub [0, 1, 2, 3] rfl K
      · replace h := ipos c11 h
        refine JJ.aload_n hX 0 dX6_roundFrom_126 rfl ?_
        refine fg_X6_19_31 hX dX6_roundFrom_127 ?_
        refine JJ.iconst (v := 2) hX dX6_roundFrom_130 (by decide) ?_
        refine JJ.iload hX 3 dX6_roundFrom_131 rfl ?_
        refine JJ.bipush (v := 64) hX dX6_roundFrom_133 (by decide) ?_
        refine JJ.idiv hX dX6_roundFrom_135 (by decide) ?_
        refine JJ.imul hX dX6_roundFrom_136 ?_
        refine JJ.iload hX 4 dX6_roundFrom_137 rfl ?_
        refine JJ.iadd hX dX6_roundFrom_139 ?_
        obtain ⟨c12, h⟩ := gte h
        refine ald_35 hX c12 dX6_roundFrom_140 ?_
        refine JJ.istore (ls' := [(0, .ref (xad X 31)), (3, .int x3), (5, .int x5), (6, .int x6), (7, .int x7), (8, .int (gA σ 35 (((2 : Int32) * (x6 / (64 : Int32))) + x7).toNatClampNeg))]) hX dX6_roundFrom_141 (by decide) rfl rfl ?_
        refine JJ.bipush (v := 64) hX dX6_roundFrom_143 (by decide) ?_
        refine JJ.iload hX 5 dX6_roundFrom_145 rfl ?_
        refine JJ.imul hX dX6_roundFrom_147 ?_
        refine JJ.iload hX 3 dX6_roundFrom_148 rfl ?_
        refine JJ.bipush (v := 64) hX dX6_roundFrom_150 (by decide) ?_
        refine JJ.irem hX dX6_roundFrom_152 (by decide) ?_
        refine JJ.iconst (v := 1) hX dX6_roundFrom_153 (by decide) ?_
        refine JJ.iload hX 5 dX6_roundFrom_154 rfl ?_
        refine JJ.ishl hX dX6_roundFrom_156 ?_
        refine JJ.ior hX dX6_roundFrom_157 ?_
        refine JJ.iadd hX dX6_roundFrom_158 ?_
        refine JJ.istore (ls' := [(0, .ref (xad X 31)), (3, .int x3), (5, .int x5), (6, .int x6), (7, .int x7), (8, .int (gA σ 35 (((2 : Int32) * (x6 / (64 : Int32))) + x7).toNatClampNeg)), (9, .int (((64 : Int32) * (gA σ 35 (((2 : Int32) * (x6 / (64 : Int32))) + x7).toNatClampNeg)) + ((x6 - x6 / (64 : Int32) * (64 : Int32)) ||| ((1 : Int32) <<< ((gA σ 35 (((2 : Int32) * (x6 / (64 : Int32))) + x7).toNatClampNeg) &&& 31)))))]) hX dX6_roundFrom_159 (by decide) rfl rfl ?_
        refine JJ.aload_n hX 0 dX6_roundFrom_161 rfl ?_
        refine fg_X6_28_31 hX dX6_roundFrom_162 ?_
        refine JJ.iload hX 6 dX6_roundFrom_165 rfl ?_
        refine JJ.aload_n hX 0 dX6_roundFrom_167 rfl ?_
        refine fg_X6_28_31 hX dX6_roundFrom_168 ?_
        refine JJ.iload hX 6 dX6_roundFrom_171 rfl ?_
        obtain ⟨c13, h⟩ := gte h
        refine ald_38 hX c13 dX6_roundFrom_173 ?_
        refine JJ.sipush (v := 9999) hX dX6_roundFrom_174 (by decide) ?_
        refine JJ.icmp_ne (tgt := 187) hX dX6_roundFrom_177 (by decide) (fun c14 => ?_) (fun c14 => ?_)
        · replace h := ineg c14 h
          refine JJ.aload_n hX 0 dX6_roundFrom_187 rfl ?_
          refine fg_X6_28_31 hX dX6_roundFrom_188 ?_
          refine JJ.iload hX 6 dX6_roundFrom_191 rfl ?_
          obtain ⟨c15, h⟩ := gte h
          refine ald_38 hX c15 dX6_roundFrom_193 ?_
          obtain ⟨c16, h⟩ := gte h
          refine ast_38 hX c16 dX6_roundFrom_194 ?_
          refine JJ.iinc (v := 1) (ls' := [(0, .ref (xad X 31)), (3, .int x3), (5, .int x5), (6, .int x6), (7, .int (x7 + (1 : Int32))), (8, .int (gA σ 35 (((2 : Int32) * (x6 / (64 : Int32))) + x7).toNatClampNeg)), (9, .int (((64 : Int32) * (gA σ 35 (((2 : Int32) * (x6 / (64 : Int32))) + x7).toNatClampNeg)) + ((x6 - x6 / (64 : Int32) * (64 : Int32)) ||| ((1 : Int32) <<< ((gA σ 35 (((2 : Int32) * (x6 / (64 : Int32))) + x7).toNatClampNeg) &&& 31)))))]) hX 4 dX6_roundFrom_195 rfl (by decide) (by decide) rfl rfl ?_
          refine JJ.goto (tgt := 108) hX dX6_roundFrom_198 (by decide) ?_
          refine JJ.sub (ls' := [(0, .ref (xad X 31)), (3, .int x3), (5, .int x5), (6, .int x6), (7, .int (x7 + (1 : Int32)))]) [0, 1, 2, 3, 4] rfl ?_
          exact ih _ _ _ _ _ _ h K
        · replace h := ipos c14 h
          refine JJ.iload hX 2 dX6_roundFrom_180 rfl ?_
          refine JJ.iconst (v := 1) hX dX6_roundFrom_182 (by decide) ?_
          refine JJ.iadd hX dX6_roundFrom_183 ?_
          refine JJ.goto (tgt := 194) hX dX6_roundFrom_184 (by decide) ?_
          obtain ⟨c17, h⟩ := gte h
          refine ast_38 hX c17 dX6_roundFrom_194 ?_
          refine JJ.iinc (v := 1) (ls' := [(0, .ref (xad X 31)), (3, .int x3), (5, .int x5), (6, .int x6), (7, .int (x7 + (1 : Int32))), (8, .int (gA σ 35 (((2 : Int32) * (x6 / (64 : Int32))) + x7).toNatClampNeg)), (9, .int (((64 : Int32) * (gA σ 35 (((2 : Int32) * (x6 / (64 : Int32))) + x7).toNatClampNeg)) + ((x6 - x6 / (64 : Int32) * (64 : Int32)) ||| ((1 : Int32) <<< ((gA σ 35 (((2 : Int32) * (x6 / (64 : Int32))) + x7).toNatClampNeg) &&& 31)))))]) hX 4 dX6_roundFrom_195 rfl (by decide) (by decide) rfl rfl ?_
          refine JJ.goto (tgt := 108) hX dX6_roundFrom_198 (by decide) ?_
          refine JJ.sub (ls' := [(0, .ref (xad X 31)), (3, .int x3), (5, .int x5), (6, .int x6), (7, .int (x7 + (1 : Int32)))]) [0, 1, 2, 3, 4] rfl ?_
          exact ih _ _ _ _ _ _ h K
set_option maxRecDepth 100000 in
theorem lp_M_roundFrom_69 {X : CX} (hX : Ok X RX6 cX6_roundFrom 10 0) (res : Int32 × ST) (hM : OkM X (some .int) (some (.int res.1)) res.2) : ∀ (n : Nat) (x3 : Int32) (x5 : Int32) (x6 : Int32) (σ : ST) (e : ((ST) ⊕ (Int32 × ST))), f_M_roundFrom_L69 n x3 x5 x6 σ = some e → (∀ v, e = .inl v → JJ X 207 [(0, .ref (xad X 31)), (3, .int x3), (5, .int x5)] [] v) → (∀ r, e = .inr r → r = res) → JJ X 69 [(0, .ref (xad X 31)), (3, .int x3), (5, .int x5), (6, .int x6)] [] σ := by
  intro n
  induction n with
  | zero =>
    intro x3 x5 x6 σ e h
    rw [f_M_roundFrom_L69] at h
    cases h
  | succ n ih =>
    intro x3 x5 x6 σ e h K Kr
    rw [f_M_roundFrom_L69] at h
    refine JJ.iload hX 3 dX6_roundFrom_69 rfl ?_
    refine JJ.bipush (v := 64) hX dX6_roundFrom_71 (by decide) ?_
    refine JJ.aload_n hX 0 dX6_roundFrom_73 rfl ?_
    refine fg_X6_84_31 hX dX6_roundFrom_74 ?_
    refine JJ.imul hX dX6_roundFrom_77 ?_
    refine JJ.icmp_ge (tgt := 207) hX dX6_roundFrom_78 (by decide) (fun c6 => ?_) (fun c6 => ?_)
    · replace h := ipos c6 h
      obtain rfl := Option.some.inj h
      exact JJ.sub [0, 1, 2] rfl (K _ rfl)
    · replace h := ineg c6 h
      refine JJ.aload_n hX 0 dX6_roundFrom_81 rfl ?_
      refine fg_X6_28_31 hX dX6_roundFrom_82 ?_
      refine JJ.iload hX 3 dX6_roundFrom_85 rfl ?_
      obtain ⟨c7, h⟩ := gte h
      refine ald_38 hX c7 dX6_roundFrom_87 ?_
      refine JJ.iload hX 2 dX6_roundFrom_88 rfl ?_
      refine JJ.icmp_ne (tgt := 105) hX dX6_roundFrom_90 (by decide) (fun c8 => ?_) (fun c8 => ?_)
      · replace h := ineg c8 h
        refine JJ.iconst (v := 0) hX dX6_roundFrom_105 (by decide) ?_
        refine JJ.istore (ls' := [(0, .ref (xad X 31)), (3, .int x3), (5, .int x5), (6, .int x6), (7, .int (0 : Int32))]) hX dX6_roundFrom_106 (by decide) rfl rfl ?_
        obtain ⟨e18, h18, h⟩ := bnd h
        refine lp_M_roundFrom_108 hX 400 _ _ _ _ _ _ h18 ?_
        refine JJ.iinc (v := 1) (ls' := [(0, .ref (xad X 31)), (3, .int x3), (5, .int x5), (6, .int (x6 + (1 : Int32)))]) hX 3 dX6_roundFrom_201 rfl (by decide) (by decide) rfl rfl ?_
        refine JJ.goto (tgt := 69) hX dX6_roundFrom_204 (by decide) ?_
        exact ih _ _ _ _ _ h K Kr
      · replace h := ipos c8 h
        refine JJ.iload hX 3 dX6_roundFrom_93 rfl ?_
        refine JJ.bipush (v := 64) hX dX6_roundFrom_95 (by decide) ?_
        refine JJ.irem hX dX6_roundFrom_97 (by decide) ?_
        refine JJ.iload_n hX 1 dX6_roundFrom_98 rfl ?_
        refine JJ.icmp_ne (tgt := 105) hX dX6_roundFrom_99 (by decide) (fun c19 => ?_) (fun c19 => ?_)
        · replace h := ineg c19 h
          refine JJ.iconst (v := 0) hX dX6_roundFrom_105 (by decide) ?_
          refine JJ.istore (ls' := [(0, .ref (xad X 31)), (3, .int x3), (5, .int x5), (6, .int x6), (7, .int (0 : Int32))]) hX dX6_roundFrom_106 (by decide) rfl rfl ?_
          obtain ⟨e20, h20, h⟩ := bnd h
          refine lp_M_roundFrom_108 hX 400 _ _ _ _ _ _ h20 ?_
          refine JJ.iinc (v := 1) (ls' := [(0, .ref (xad X 31)), (3, .int x3), (5, .int x5), (6, .int (x6 + (1 : Int32)))]) hX 3 dX6_roundFrom_201 rfl (by decide) (by decide) rfl rfl ?_
          refine JJ.goto (tgt := 69) hX dX6_roundFrom_204 (by decide) ?_
          exact ih _ _ _ _ _ h K Kr
        · replace h := ipos c19 h
          refine JJ.iload hX 2 dX6_roundFrom_102 rfl ?_
          have hr := Kr _ (Option.some.inj h).symm
          subst hr
          exact JJ.iret hX hM dX6_roundFrom_104
set_option maxRecDepth 100000 in
theorem lp_M_roundFrom_59 {X : CX} (hX : Ok X RX6 cX6_roundFrom 10 0) (res : Int32 × ST) (hM : OkM X (some .int) (some (.int res.1)) res.2) : ∀ (n : Nat) (x3 : Int32) (x5 : Int32) (σ : ST) (e : ((ST) ⊕ (Int32 × ST))), f_M_roundFrom_L59 n x3 x5 σ = some e → (∀ v, e = .inl v → JJ X 213 [] [] v) → (∀ r, e = .inr r → r = res) → JJ X 59 [(0, .ref (xad X 31)), (3, .int x3), (5, .int x5)] [] σ := by
  intro n
  induction n with
  | zero =>
    intro x3 x5 σ e h
    rw [f_M_roundFrom_L59] at h
    cases h
  | succ n ih =>
    intro x3 x5 σ e h K Kr
    rw [f_M_roundFrom_L59] at h
    refine JJ.iload hX 2 dX6_roundFrom_59 rfl ?_
    refine JJ.bipush (v := 64) hX dX6_roundFrom_61 (by decide) ?_
    refine JJ.icmp_ge (tgt := 213) hX dX6_roundFrom_63 (by decide) (fun c5 => ?_) (fun c5 => ?_)
    · replace h := ipos c5 h
      obtain rfl := Option.some.inj h
      exact JJ.sub [] rfl (K _ rfl)
    · replace h := ineg c5 h
      refine JJ.iconst (v := 0) hX dX6_roundFrom_66 (by decide) ?_
      refine JJ.istore (ls' := [(0, .ref (xad X 31)), (3, .int x3), (5, .int x5), (6, .int (0 : Int32))]) hX dX6_roundFrom_67 (by decide) rfl rfl ?_
      obtain ⟨e21, h21, h⟩ := bnd h
      refine lp_M_roundFrom_69 hX res hM 400 _ _ _ _ _ h21 (fun v21 hv21 => ?_) (fun r21 hr21 => by subst hr21; exact Kr _ (Option.some.inj h).symm)
      subst hv21
      dsimp only at h
      refine JJ.iinc (v := 1) (ls' := [(0, .ref (xad X 31)), (3, .int x3), (5, .int (x5 + (1 : Int32)))]) hX 2 dX6_roundFrom_207 rfl (by decide) (by decide) rfl rfl ?_
      refine JJ.goto (tgt := 59) hX dX6_roundFrom_210 (by decide) ?_
      exact ih _ _ _ _ h K Kr
set_option maxRecDepth 100000 in
theorem ct_M_roundFrom (p1 : Int32) (p2 : Int32) (σ : ST) (res : Int32 × ST) (h : f_M_roundFrom p1 p2 σ = some res) : Ct 0 yX6_roundFrom cX6_roundFrom 10 (some .int) (fun ad => [.int p2, .int p1, .ref (ad 31)]) σ (some (.int res.1)) res.2 := by
  refine Ct.of (ls := fun ad => [(0, .ref (ad 31)), (1, .int p1), (2, .int p2)]) (by decide +kernel) (fun ad => Nat.le_of_ble_eq_true rfl) (fun ad => rfl) (fun X hX hM => ?_)
  replace hX : Ok X RX6 cX6_roundFrom 10 0 := hX
  unfold f_M_roundFrom at h
  refine JJ.iconst (v := 1) hX dX6_roundFrom_0 (by decide) ?_
  refine JJ.aload_n hX 0 dX6_roundFrom_1 rfl ?_
  refine fg_X6_84_31 hX dX6_roundFrom_2 ?_
  refine JJ.ishl hX dX6_roundFrom_5 ?_
  refine JJ.iconst (v := 1) hX dX6_roundFrom_6 (by decide) ?_
  refine JJ.isub hX dX6_roundFrom_7 ?_
  refine JJ.istore_n (ls' := [(0, .ref (xad X 31)), (1, .int p1), (2, .int p2), (3, .int (((1 : Int32) <<< ((gI σ 3106) &&& 31)) - (1 : Int32)))]) hX dX6_roundFrom_8 (by decide) rfl rfl ?_
  refine JJ.iconst (v := 0) hX dX6_roundFrom_9 (by decide) ?_
  refine JJ.istore (ls' := [(0, .ref (xad X 31)), (1, .int p1), (2, .int p2), (3, .int (((1 : Int32) <<< ((gI σ 3106) &&& 31)) - (1 : Int32))), (4, .int (0 : Int32))]) hX dX6_roundFrom_10 (by decide) rfl rfl ?_
  obtain ⟨e3, h3, h⟩ := bnd h
  refine lp_M_roundFrom_12 hX 400 _ _ _ _ _ _ h3 ?_
  refine JJ.iload_n hX 2 dX6_roundFrom_36 rfl ?_
  refine JJ.iconst (v := 1) hX dX6_roundFrom_37 (by decide) ?_
  refine JJ.iload_n hX 1 dX6_roundFrom_38 rfl ?_
  refine JJ.ishl hX dX6_roundFrom_39 ?_
  refine JJ.ior hX dX6_roundFrom_40 ?_
  refine JJ.istore (ls' := [(0, .ref (xad X 31)), (1, .int p1), (2, .int p2), (3, .int (((1 : Int32) <<< ((gI σ 3106) &&& 31)) - (1 : Int32))), (4, .int (p2 ||| ((1 : Int32) <<< (p1 &&& 31))))]) hX dX6_roundFrom_41 (by decide) rfl rfl ?_
  refine JJ.aload_n hX 0 dX6_roundFrom_43 rfl ?_
  refine fg_X6_28_31 hX dX6_roundFrom_44 ?_
  refine JJ.bipush (v := 64) hX dX6_roundFrom_47 (by decide) ?_
  refine JJ.iload_n hX 1 dX6_roundFrom_49 rfl ?_
  refine JJ.imul hX dX6_roundFrom_50 ?_
  refine JJ.iload hX 4 dX6_roundFrom_51 rfl ?_
  refine JJ.iadd hX dX6_roundFrom_53 ?_
  refine JJ.iconst (v := 0) hX dX6_roundFrom_54 (by decide) ?_
  obtain ⟨c4, h⟩ := gte h
  refine ast_38 hX c4 dX6_roundFrom_55 ?_
  refine JJ.iconst (v := 0) hX dX6_roundFrom_56 (by decide) ?_
  refine JJ.istore (ls' := [(0, .ref (xad X 31)), (1, .int p1), (2, .int p2), (3, .int (((1 : Int32) <<< ((gI σ 3106) &&& 31)) - (1 : Int32))), (4, .int (p2 ||| ((1 : Int32) <<< (p1 &&& 31)))), (5, .int (0 : Int32))]) hX dX6_roundFrom_57 (by decide) rfl rfl ?_
  obtain ⟨e22, h22, h⟩ := bnd h
  refine JJ.sub (ls' := [(0, .ref (xad X 31)), (3, .int (((1 : Int32) <<< ((gI σ 3106) &&& 31)) - (1 : Int32))), (5, .int (0 : Int32))]) [0, 3, 5] rfl ?_
  refine lp_M_roundFrom_59 hX res hM 400 _ _ _ _ h22 (fun v22 hv22 => ?_) (fun r22 hr22 => by subst hr22; exact Option.some.inj h)
  subst hv22
  dsimp only at h
  refine JJ.sipush (v := 9999) hX dX6_roundFrom_213 (by decide) ?_
  obtain rfl := Option.some.inj h
  exact JJ.iret hX hM dX6_roundFrom_216
