set_option maxRecDepth 100000 in
theorem ct_M_crossing (p1 : Int32) (p2 : Int32) (σ : ST) (res : Int32) (h : f_M_crossing p1 p2 σ = some res) : Ct 2 yX6_crossing cX6_crossing 3 (some .int) (fun ad => [.int p2, .int p1, .ref (ad 31)]) σ (some (.int res)) σ := by
  refine Ct.of (ls := fun ad => [(0, .ref (ad 31)), (1, .int p1), (2, .int p2)]) (by decide +kernel) (fun ad => Nat.le_of_ble_eq_true rfl) (fun ad => rfl) (fun X hX hM => ?_)
  replace hX : Ok X RX6 cX6_crossing 3 2 := hX
  unfold f_M_crossing at h
  refine JJ.aload_n hX 0 dX6_crossing_0 rfl ?_
  refine JJ.iload_n hX 1 dX6_crossing_1 rfl ?_
  refine JJ.callVi hX (ct_M_isCrossing _ _ _ rfl) cal_yX6_isCrossing cav_yX6_isCrossing lm_RX6_108 rfl rfl rfl (Rcv.obj hX (ci := 6) rfl rfl) (Nat.le_of_ble_eq_true rfl) ⟨by decide, by decide⟩ dX6_crossing_2 ?_
  refine JJ.if_eq (tgt := 17) hX dX6_crossing_5 (by decide) (fun c1 => ?_) (fun c1 => ?_)
  · replace h := ipos c1 h
    refine JJ.bipush (v := -101) hX dX6_crossing_17 (by decide) ?_
    obtain rfl := Option.some.inj h
    exact JJ.iret hX hM dX6_crossing_19
  · replace h := ineg c1 h
    refine JJ.aload_n hX 0 dX6_crossing_8 rfl ?_
    refine JJ.iload_n hX 1 dX6_crossing_9 rfl ?_
    refine JJ.iload_n hX 2 dX6_crossing_10 rfl ?_
    obtain ⟨q2, h2, h⟩ := bnd h
    refine JJ.callVi hX (ct_M_tellCrossing _ _ _ _ h2) cal_yX6_tellCrossing cav_yX6_tellCrossing lm_RX6_111 rfl rfl rfl (Rcv.obj hX (ci := 6) rfl rfl) (Nat.le_of_ble_eq_true rfl) ⟨by decide, by decide⟩ dX6_crossing_11 ?_
    refine JJ.goto (tgt := 19) hX dX6_crossing_14 (by decide) ?_
    obtain rfl := Option.some.inj h
    exact JJ.iret hX hM dX6_crossing_19
set_option maxRecDepth 100000 in
theorem ct_LT_isSuch (p0 : Int32) (p1 : Int32) (σ : ST) (res : Int32) (h : f_LT_isSuch p0 p1 = res) : Ct 0 yX5_isSuch cX5_isSuch 2 (some .boolean) (fun ad => [.int p1, .int p0]) σ (some (.int res)) σ := by
  refine Ct.of (ls := fun ad => [(0, .int p0), (1, .int p1)]) (by decide +kernel) (fun ad => Nat.le_of_ble_eq_true rfl) (fun ad => rfl) (fun X hX hM => ?_)
  replace hX : Ok X RX5 cX5_isSuch 2 0 := hX
  unfold f_LT_isSuch at h
  refine JJ.iload_n hX 1 dX5_isSuch_0 rfl ?_
  refine JJ.if_eq (tgt := 19) hX dX5_isSuch_1 (by decide) (fun c1 => ?_) (fun c1 => ?_)
  · replace h := ipos c1 h
    refine JJ.iconst (v := 1) hX dX5_isSuch_19 (by decide) ?_
    refine JJ.goto (tgt := 24) hX dX5_isSuch_20 (by decide) ?_
    subst h
    exact JJ.zret hX hM (by decide) dX5_isSuch_24
  · replace h := ineg c1 h
    refine JJ.iload_n hX 1 dX5_isSuch_4 rfl ?_
    refine JJ.iload_n hX 0 dX5_isSuch_5 rfl ?_
    refine JJ.icmp_eq (tgt := 19) hX dX5_isSuch_6 (by decide) (fun c2 => ?_) (fun c2 => ?_)
    · replace h := ipos c2 h
      refine JJ.iconst (v := 1) hX dX5_isSuch_19 (by decide) ?_
      refine JJ.goto (tgt := 24) hX dX5_isSuch_20 (by decide) ?_
      subst h
      exact JJ.zret hX hM (by decide) dX5_isSuch_24
    · replace h := ineg c2 h
      refine JJ.iload_n hX 1 dX5_isSuch_9 rfl ?_
      refine JJ.iconst (v := 1) hX dX5_isSuch_10 (by decide) ?_
      refine JJ.icmp_ne (tgt := 23) hX dX5_isSuch_11 (by decide) (fun c3 => ?_) (fun c3 => ?_)
      · replace h := ineg c3 h
        refine JJ.iconst (v := 0) hX dX5_isSuch_23 (by decide) ?_
        subst h
        exact JJ.zret hX hM (by decide) dX5_isSuch_24
      · replace h := ipos c3 h
        refine JJ.iload_n hX 0 dX5_isSuch_14 rfl ?_
        refine JJ.iconst (v := 4) hX dX5_isSuch_15 (by decide) ?_
        refine JJ.icmp_ne (tgt := 23) hX dX5_isSuch_16 (by decide) (fun c4 => ?_) (fun c4 => ?_)
        · replace h := ineg c4 h
          refine JJ.iconst (v := 0) hX dX5_isSuch_23 (by decide) ?_
          subst h
          exact JJ.zret hX hM (by decide) dX5_isSuch_24
        · replace h := ipos c4 h
          refine JJ.iconst (v := 1) hX dX5_isSuch_19 (by decide) ?_
          refine JJ.goto (tgt := 24) hX dX5_isSuch_20 (by decide) ?_
          subst h
          exact JJ.zret hX hM (by decide) dX5_isSuch_24
set_option maxRecDepth 100000 in
theorem ct_LT_as (p1 : Int32) (p2 : Int32) (σ : ST) (res : Int32) (h : f_LT_as p1 p2 σ = res) : Ct 2 yX5_as cX5_as 3 (some .int) (fun ad => [.int p2, .int p1, .ref (ad 0)]) σ (some (.int res)) σ := by
  refine Ct.of (ls := fun ad => [(0, .ref (ad 0)), (1, .int p1), (2, .int p2)]) (by decide +kernel) (fun ad => Nat.le_of_ble_eq_true rfl) (fun ad => rfl) (fun X hX hM => ?_)
  replace hX : Ok X RX5 cX5_as 3 2 := hX
  unfold f_LT_as at h
  refine JJ.aload_n hX 0 dX5_as_0 rfl ?_
  refine fg_X5_19_0 hX dX5_as_1 ?_
  refine JJ.iload_n hX 1 dX5_as_4 rfl ?_
  refine JJ.callVi hX (ct_Mine_has _ _ _ rfl) cal_yX1_has cav_yX1_has lm_RX5_76 rfl rfl rfl (Rcv.obj hX (ci := 1) rfl rfl) (Nat.le_of_ble_eq_true rfl) ⟨by decide, by decide⟩ dX5_as_5 ?_
  refine JJ.if_ne (tgt := 14) hX dX5_as_8 (by decide) (fun c1 => ?_) (fun c1 => ?_)
  · replace h := ineg c1 h
    refine JJ.iload_n hX 2 dX5_as_14 rfl ?_
    refine JJ.if_lt (tgt := 23) hX dX5_as_15 (by decide) (fun c2 => ?_) (fun c2 => ?_)
    · replace h := ipos c2 h
      refine JJ.bipush (v := -102) hX dX5_as_23 (by decide) ?_
      subst h
      exact JJ.iret hX hM dX5_as_25
    · replace h := ineg c2 h
      refine JJ.iload_n hX 2 dX5_as_18 rfl ?_
      refine JJ.iconst (v := 5) hX dX5_as_19 (by decide) ?_
      refine JJ.icmp_lt (tgt := 26) hX dX5_as_20 (by decide) (fun c3 => ?_) (fun c3 => ?_)
      · replace h := ipos c3 h
        refine JJ.aload_n hX 0 dX5_as_26 rfl ?_
        refine fg_X5_19_0 hX dX5_as_27 ?_
        refine JJ.iload_n hX 1 dX5_as_30 rfl ?_
        refine JJ.callVi hX (ct_Mine_kindOf _ _ _ rfl) cal_yX1_kindOf cav_yX1_kindOf lm_RX5_80 rfl rfl rfl (Rcv.obj hX (ci := 1) rfl rfl) (Nat.le_of_ble_eq_true rfl) ⟨by decide, by decide⟩ dX5_as_31 ?_
        refine JJ.iload_n hX 2 dX5_as_34 rfl ?_
        refine JJ.callSi hX (ct_LT_isSuch _ _ _ _ rfl) cal_yX5_isSuch cas_yX5_isSuch lm_RX5_97 rfl rfl (Nat.le_of_ble_eq_true rfl) ⟨by decide, by decide⟩ dX5_as_35 ?_
        refine JJ.if_eq (tgt := 45) hX dX5_as_38 (by decide) (fun c4 => ?_) (fun c4 => ?_)
        · replace h := ipos c4 h
          refine JJ.iconst (v := -1) hX dX5_as_45 (by decide) ?_
          subst h
          exact JJ.iret hX hM dX5_as_46
        · replace h := ineg c4 h
          refine JJ.iload_n hX 1 dX5_as_41 rfl ?_
          refine JJ.goto (tgt := 46) hX dX5_as_42 (by decide) ?_
          subst h
          exact JJ.iret hX hM dX5_as_46
      · replace h := ineg c3 h
        refine JJ.bipush (v := -102) hX dX5_as_23 (by decide) ?_
        subst h
        exact JJ.iret hX hM dX5_as_25
  · replace h := ipos c1 h
    refine JJ.bipush (v := -101) hX dX5_as_11 (by decide) ?_
    subst h
    exact JJ.iret hX hM dX5_as_13
set_option maxRecDepth 100000 in
theorem ct_M_as (p1 : Int32) (p2 : Int32) (σ : ST) (res : Int32) (h : f_M_as p1 p2 σ = some res) : Ct 2 yX6_as cX6_as 4 (some .int) (fun ad => [.int p2, .int p1, .ref (ad 31)]) σ (some (.int res)) σ := by
  refine Ct.of (ls := fun ad => [(0, .ref (ad 31)), (1, .int p1), (2, .int p2)]) (by decide +kernel) (fun ad => Nat.le_of_ble_eq_true rfl) (fun ad => rfl) (fun X hX hM => ?_)
  replace hX : Ok X RX6 cX6_as 4 2 := hX
  unfold f_M_as at h
  refine JJ.aload_n hX 0 dX6_as_0 rfl ?_
  refine JJ.iload_n hX 1 dX6_as_1 rfl ?_
  refine JJ.callVi hX (ct_M_isCrossing _ _ _ rfl) cal_yX6_isCrossing cav_yX6_isCrossing lm_RX6_108 rfl rfl rfl (Rcv.obj hX (ci := 6) rfl rfl) (Nat.le_of_ble_eq_true rfl) ⟨by decide, by decide⟩ dX6_as_2 ?_
  refine JJ.if_ne (tgt := 11) hX dX6_as_5 (by decide) (fun c1 => ?_) (fun c1 => ?_)
  · replace h := ineg c1 h
    refine JJ.iload_n hX 2 dX6_as_11 rfl ?_
    refine JJ.i2l hX dX6_as_12 ?_
    refine JJ.lconst (v := 0) hX dX6_as_13 (by decide) ?_
    refine JJ.ldc2 hX lc_RX6_115 dX6_as_14 ?_
    refine JJ.callSi hX (ct_M_in _ _ _ _ _ rfl) cal_yX6_in cas_yX6_in lm_RX6_49 rfl rfl (Nat.le_of_ble_eq_true rfl) ⟨by decide, by decide⟩ dX6_as_17 ?_
    refine JJ.if_ne (tgt := 26) hX dX6_as_20 (by decide) (fun c2 => ?_) (fun c2 => ?_)
    · replace h := ineg c2 h
      refine JJ.iload_n hX 2 dX6_as_26 rfl ?_
      refine JJ.if_eq (tgt := 55) hX dX6_as_27 (by decide) (fun c3 => ?_) (fun c3 => ?_)
      · replace h := ipos c3 h
        refine JJ.iconst (v := 1) hX dX6_as_55 (by decide) ?_
        refine JJ.goto (tgt := 60) hX dX6_as_56 (by decide) ?_
        refine JJ.istore_n (ls' := [(0, .ref (xad X 31)), (1, .int p1), (2, .int p2), (3, .int (1 : Int32))]) hX dX6_as_60 (by decide) rfl rfl ?_
        refine JJ.iload_n hX 3 dX6_as_61 rfl ?_
        refine JJ.if_eq (tgt := 69) hX dX6_as_62 (by decide) (fun c4 => absurd c4 (by decide)) (fun _ => ?_)
        refine JJ.iload_n hX 1 dX6_as_65 rfl ?_
        refine JJ.goto (tgt := 70) hX dX6_as_66 (by decide) ?_
        obtain rfl := Option.some.inj h
        exact JJ.iret hX hM dX6_as_70
      · replace h := ineg c3 h
        refine JJ.iload_n hX 2 dX6_as_30 rfl ?_
        refine JJ.aload_n hX 0 dX6_as_31 rfl ?_
        refine fg_X6_16_31 hX dX6_as_32 ?_
        refine JJ.iload_n hX 1 dX6_as_35 rfl ?_
        obtain ⟨c5, h⟩ := gte h
        refine ald_34 hX c5 dX6_as_36 ?_
        refine JJ.icmp_eq (tgt := 55) hX dX6_as_37 (by decide) (fun c6 => ?_) (fun c6 => ?_)
        · replace h := ipos c6 h
          refine JJ.iconst (v := 1) hX dX6_as_55 (by decide) ?_
          refine JJ.goto (tgt := 60) hX dX6_as_56 (by decide) ?_
          refine JJ.istore_n (ls' := [(0, .ref (xad X 31)), (1, .int p1), (2, .int p2), (3, .int (1 : Int32))]) hX dX6_as_60 (by decide) rfl rfl ?_
          refine JJ.iload_n hX 3 dX6_as_61 rfl ?_
          refine JJ.if_eq (tgt := 69) hX dX6_as_62 (by decide) (fun c7 => absurd c7 (by decide)) (fun _ => ?_)
          refine JJ.iload_n hX 1 dX6_as_65 rfl ?_
          refine JJ.goto (tgt := 70) hX dX6_as_66 (by decide) ?_
          obtain rfl := Option.some.inj h
          exact JJ.iret hX hM dX6_as_70
        · replace h := ineg c6 h
          refine JJ.iload_n hX 2 dX6_as_40 rfl ?_
          refine JJ.iconst (v := 1) hX dX6_as_41 (by decide) ?_
          refine JJ.icmp_ne (tgt := 59) hX dX6_as_42 (by decide) (fun c8 => ?_) (fun c8 => ?_)
          · replace h := ineg c8 h
            refine JJ.iconst (v := 0) hX dX6_as_59 (by decide) ?_
            refine JJ.istore_n (ls' := [(0, .ref (xad X 31)), (1, .int p1), (2, .int p2), (3, .int (0 : Int32))]) hX dX6_as_60 (by decide) rfl rfl ?_
            refine JJ.iload_n hX 3 dX6_as_61 rfl ?_
            refine JJ.if_eq (tgt := 69) hX dX6_as_62 (by decide) (fun _ => ?_) (fun c9 => absurd c9 (by decide))
            refine JJ.iconst (v := -1) hX dX6_as_69 (by decide) ?_
            obtain rfl := Option.some.inj h
            exact JJ.iret hX hM dX6_as_70
          · replace h := ipos c8 h
            refine JJ.aload_n hX 0 dX6_as_45 rfl ?_
            refine fg_X6_16_31 hX dX6_as_46 ?_
            refine JJ.iload_n hX 1 dX6_as_49 rfl ?_
            obtain ⟨c10, h⟩ := gte h
            refine ald_34 hX c10 dX6_as_50 ?_
            refine JJ.iconst (v := 4) hX dX6_as_51 (by decide) ?_
            refine JJ.icmp_ne (tgt := 59) hX dX6_as_52 (by decide) (fun c11 => ?_) (fun c11 => ?_)
            · replace h := ineg c11 h
              refine JJ.iconst (v := 0) hX dX6_as_59 (by decide) ?_
              refine JJ.istore_n (ls' := [(0, .ref (xad X 31)), (1, .int p1), (2, .int p2), (3, .int (0 : Int32))]) hX dX6_as_60 (by decide) rfl rfl ?_
              refine JJ.iload_n hX 3 dX6_as_61 rfl ?_
              refine JJ.if_eq (tgt := 69) hX dX6_as_62 (by decide) (fun _ => ?_) (fun c12 => absurd c12 (by decide))
              refine JJ.iconst (v := -1) hX dX6_as_69 (by decide) ?_
              obtain rfl := Option.some.inj h
              exact JJ.iret hX hM dX6_as_70
            · replace h := ipos c11 h
              refine JJ.iconst (v := 1) hX dX6_as_55 (by decide) ?_
              refine JJ.goto (tgt := 60) hX dX6_as_56 (by decide) ?_
              refine JJ.istore_n (ls' := [(0, .ref (xad X 31)), (1, .int p1), (2, .int p2), (3, .int (1 : Int32))]) hX dX6_as_60 (by decide) rfl rfl ?_
              refine JJ.iload_n hX 3 dX6_as_61 rfl ?_
              refine JJ.if_eq (tgt := 69) hX dX6_as_62 (by decide) (fun c13 => absurd c13 (by decide)) (fun _ => ?_)
              refine JJ.iload_n hX 1 dX6_as_65 rfl ?_
              refine JJ.goto (tgt := 70) hX dX6_as_66 (by decide) ?_
              obtain rfl := Option.some.inj h
              exact JJ.iret hX hM dX6_as_70
    · replace h := ipos c2 h
      refine JJ.bipush (v := -102) hX dX6_as_23 (by decide) ?_
      obtain rfl := Option.some.inj h
      exact JJ.iret hX hM dX6_as_25
  · replace h := ipos c1 h
    refine JJ.bipush (v := -101) hX dX6_as_8 (by decide) ?_
    obtain rfl := Option.some.inj h
    exact JJ.iret hX hM dX6_as_10
set_option maxRecDepth 100000 in
theorem ct_Camp_welcome_17 (p1 : Int32) (p2 : Int32) (σ : ST) (res : Int32 × ST) (h : f_Camp_welcome_17 p1 p2 σ = res) : Ct 1 yX0_welcome cX0_welcome 4 (some .int) (fun ad => [.int p2, .int p1, .ref (ad 17)]) σ (some (.int res.1)) res.2 := by
  refine Ct.of (ls := fun ad => [(0, .ref (ad 17)), (1, .int p1), (2, .int p2)]) (by decide +kernel) (fun ad => Nat.le_of_ble_eq_true rfl) (fun ad => rfl) (fun X hX hM => ?_)
  replace hX : Ok X RX0 cX0_welcome 4 1 := hX
  unfold f_Camp_welcome_17 at h
  refine JJ.aload_n hX 0 dX0_welcome_0 rfl ?_
  refine fg_X0_30_17 hX dX0_welcome_1 ?_
  refine JJ.istore_n (ls' := [(0, .ref (xad X 17)), (1, .int p1), (2, .int p2), (3, .int (gI σ 1700))]) hX dX0_welcome_4 (by decide) rfl rfl ?_
  refine JJ.aload_n hX 0 dX0_welcome_5 rfl ?_
  refine fg_X0_9_17 hX dX0_welcome_6 ?_
  refine JJ.iload_n hX 3 dX0_welcome_9 rfl ?_
  refine JJ.iload_n hX 1 dX0_welcome_10 rfl ?_
  refine JJ.callSNv hX (ct_put 18 3 (by decide) (fun _ _ _ => rfl) (fun _ _ _ _ _ => rfl) _ _ _ _ rfl) cal_yX5_put cas_yX5_put lm_RX0_45 rfl rfl (Nat.le_of_ble_eq_true rfl) ⟨by decide, by decide⟩ dX0_welcome_11 ?_
  refine JJ.aload_n hX 0 dX0_welcome_14 rfl ?_
  refine fg_X0_15_17 hX dX0_welcome_15 ?_
  refine JJ.iload_n hX 3 dX0_welcome_18 rfl ?_
  refine JJ.iload_n hX 2 dX0_welcome_19 rfl ?_
  refine JJ.callSNv hX (ct_put 19 3 (by decide) (fun _ _ _ => rfl) (fun _ _ _ _ _ => rfl) _ _ _ _ rfl) cal_yX5_put cas_yX5_put lm_RX0_45 rfl rfl (Nat.le_of_ble_eq_true rfl) ⟨by decide, by decide⟩ dX0_welcome_20 ?_
  refine JJ.aload_n hX 0 dX0_welcome_23 rfl ?_
  refine fg_X0_18_17 hX dX0_welcome_24 ?_
  refine JJ.iload_n hX 3 dX0_welcome_27 rfl ?_
  refine JJ.iconst (v := 0) hX dX0_welcome_28 (by decide) ?_
  refine JJ.callSNv hX (ct_put 20 3 (by decide) (fun _ _ _ => rfl) (fun _ _ _ _ _ => rfl) _ _ _ _ rfl) cal_yX5_put cas_yX5_put lm_RX0_45 rfl rfl (Nat.le_of_ble_eq_true rfl) ⟨by decide, by decide⟩ dX0_welcome_29 ?_
  refine JJ.aload_n hX 0 dX0_welcome_32 rfl ?_
  refine fg_X0_21_17 hX dX0_welcome_33 ?_
  refine JJ.iload_n hX 3 dX0_welcome_36 rfl ?_
  refine JJ.iconst (v := -1) hX dX0_welcome_37 (by decide) ?_
  refine JJ.callSNv hX (ct_put 21 3 (by decide) (fun _ _ _ => rfl) (fun _ _ _ _ _ => rfl) _ _ _ _ rfl) cal_yX5_put cas_yX5_put lm_RX0_45 rfl rfl (Nat.le_of_ble_eq_true rfl) ⟨by decide, by decide⟩ dX0_welcome_38 ?_
  refine JJ.aload_n hX 0 dX0_welcome_41 rfl ?_
  refine JJ.dup hX dX0_welcome_42 rfl ?_
  refine fg_X0_30_17 hX dX0_welcome_43 ?_
  refine JJ.iconst (v := 1) hX dX0_welcome_46 (by decide) ?_
  refine JJ.iadd hX dX0_welcome_47 ?_
  refine fp_X0_30_17 hX dX0_welcome_48 ?_
  refine JJ.iload_n hX 3 dX0_welcome_51 rfl ?_
  subst h
  exact JJ.iret hX hM dX0_welcome_52
set_option maxRecDepth 100000 in
theorem ct_LT_party (p1 : Int32) (σ : ST) (res : Int32 × ST) (h : f_LT_party p1 σ = res) : Ct 2 yX5_party cX5_party 2 (some .int) (fun ad => [.int p1, .ref (ad 0)]) σ (some (.int res.1)) res.2 := by
  refine Ct.of (ls := fun ad => [(0, .ref (ad 0)), (1, .int p1)]) (by decide +kernel) (fun ad => Nat.le_of_ble_eq_true rfl) (fun ad => rfl) (fun X hX hM => ?_)
  replace hX : Ok X RX5 cX5_party 2 2 := hX
  unfold f_LT_party at h
  refine JJ.aload_n hX 0 dX5_party_0 rfl ?_
  refine fg_X5_19_0 hX dX5_party_1 ?_
  refine JJ.iload_n hX 1 dX5_party_4 rfl ?_
  refine JJ.callVi hX (ct_Mine_has _ _ _ rfl) cal_yX1_has cav_yX1_has lm_RX5_76 rfl rfl rfl (Rcv.obj hX (ci := 1) rfl rfl) (Nat.le_of_ble_eq_true rfl) ⟨by decide, by decide⟩ dX5_party_5 ?_
  refine JJ.if_ne (tgt := 14) hX dX5_party_8 (by decide) (fun c1 => ?_) (fun c1 => ?_)
  · replace h := ineg c1 h
    refine JJ.aload_n hX 0 dX5_party_14 rfl ?_
    refine fg_X5_35_0 hX dX5_party_15 ?_
    refine fg_X5_101_17 hX dX5_party_18 ?_
    refine JJ.iconst (v := 3) hX dX5_party_21 (by decide) ?_
    refine JJ.icmp_lt (tgt := 28) hX dX5_party_22 (by decide) (fun c2 => ?_) (fun c2 => ?_)
    · replace h := ipos c2 h
      refine JJ.aload_n hX 0 dX5_party_28 rfl ?_
      refine fg_X5_35_0 hX dX5_party_29 ?_
      refine JJ.iload_n hX 1 dX5_party_32 rfl ?_
      refine JJ.aload_n hX 0 dX5_party_33 rfl ?_
      refine fg_X5_19_0 hX dX5_party_34 ?_
      refine fg_X5_104_3 hX dX5_party_37 ?_
      refine JJ.callVi hX (ct_Camp_welcome_17 _ _ _ _ rfl) cal_yX0_welcome cav_yX0_welcome lm_RX5_107 rfl rfl rfl (Rcv.obj hX (ci := 0) rfl rfl) (Nat.le_of_ble_eq_true rfl) ⟨by decide, by decide⟩ dX5_party_40 ?_
      subst h
      exact JJ.iret hX hM dX5_party_43
    · replace h := ineg c2 h
      refine JJ.bipush (v := -104) hX dX5_party_25 (by decide) ?_
      subst h
      exact JJ.iret hX hM dX5_party_27
  · replace h := ipos c1 h
    refine JJ.bipush (v := -101) hX dX5_party_11 (by decide) ?_
    subst h
    exact JJ.iret hX hM dX5_party_13
set_option maxRecDepth 100000 in
theorem ct_M_party (p1 : Int32) (σ : ST) (res : Int32 × ST) (h : f_M_party p1 σ = some res) : Ct 2 yX6_party cX6_party 2 (some .int) (fun ad => [.int p1, .ref (ad 31)]) σ (some (.int res.1)) res.2 := by
  refine Ct.of (ls := fun ad => [(0, .ref (ad 31)), (1, .int p1)]) (by decide +kernel) (fun ad => Nat.le_of_ble_eq_true rfl) (fun ad => rfl) (fun X hX hM => ?_)
  replace hX : Ok X RX6 cX6_party 2 2 := hX
  unfold f_M_party at h
  refine JJ.aload_n hX 0 dX6_party_0 rfl ?_
  refine JJ.iload_n hX 1 dX6_party_1 rfl ?_
  refine JJ.callVi hX (ct_M_isCrossing _ _ _ rfl) cal_yX6_isCrossing cav_yX6_isCrossing lm_RX6_108 rfl rfl rfl (Rcv.obj hX (ci := 6) rfl rfl) (Nat.le_of_ble_eq_true rfl) ⟨by decide, by decide⟩ dX6_party_2 ?_
  refine JJ.if_ne (tgt := 11) hX dX6_party_5 (by decide) (fun c1 => ?_) (fun c1 => ?_)
  · replace h := ineg c1 h
    refine JJ.aload_n hX 0 dX6_party_11 rfl ?_
    refine fg_X6_90_31 hX dX6_party_12 ?_
    refine JJ.iconst (v := 3) hX dX6_party_15 (by decide) ?_
    refine JJ.icmp_ne (tgt := 22) hX dX6_party_16 (by decide) (fun c2 => ?_) (fun c2 => ?_)
    · replace h := ineg c2 h
      refine JJ.aload_n hX 0 dX6_party_22 rfl ?_
      refine fg_X6_22_31 hX dX6_party_23 ?_
      refine JJ.iconst (v := 4) hX dX6_party_26 (by decide) ?_
      refine JJ.aload_n hX 0 dX6_party_27 rfl ?_
      refine fg_X6_90_31 hX dX6_party_28 ?_
      refine JJ.imul hX dX6_party_31 ?_
      refine JJ.iload_n hX 1 dX6_party_32 rfl ?_
      obtain ⟨c3, h⟩ := gte h
      refine ast_36 hX c3 dX6_party_33 ?_
      refine JJ.aload_n hX 0 dX6_party_34 rfl ?_
      refine fg_X6_22_31 hX dX6_party_35 ?_
      refine JJ.iconst (v := 4) hX dX6_party_38 (by decide) ?_
      refine JJ.aload_n hX 0 dX6_party_39 rfl ?_
      refine fg_X6_90_31 hX dX6_party_40 ?_
      refine JJ.imul hX dX6_party_43 ?_
      refine JJ.iconst (v := 1) hX dX6_party_44 (by decide) ?_
      refine JJ.iadd hX dX6_party_45 ?_
      refine JJ.aload_n hX 0 dX6_party_46 rfl ?_
      refine fg_X6_87_31 hX dX6_party_47 ?_
      obtain ⟨c4, h⟩ := gte h
      refine ast_36 hX c4 dX6_party_50 ?_
      refine JJ.aload_n hX 0 dX6_party_51 rfl ?_
      refine fg_X6_22_31 hX dX6_party_52 ?_
      refine JJ.iconst (v := 4) hX dX6_party_55 (by decide) ?_
      refine JJ.aload_n hX 0 dX6_party_56 rfl ?_
      refine fg_X6_90_31 hX dX6_party_57 ?_
      refine JJ.imul hX dX6_party_60 ?_
      refine JJ.iconst (v := 2) hX dX6_party_61 (by decide) ?_
      refine JJ.iadd hX dX6_party_62 ?_
      refine JJ.iconst (v := 0) hX dX6_party_63 (by decide) ?_
      obtain ⟨c5, h⟩ := gte h
      refine ast_36 hX c5 dX6_party_64 ?_
      refine JJ.aload_n hX 0 dX6_party_65 rfl ?_
      refine fg_X6_22_31 hX dX6_party_66 ?_
      refine JJ.iconst (v := 4) hX dX6_party_69 (by decide) ?_
      refine JJ.aload_n hX 0 dX6_party_70 rfl ?_
      refine fg_X6_90_31 hX dX6_party_71 ?_
      refine JJ.imul hX dX6_party_74 ?_
      refine JJ.iconst (v := 3) hX dX6_party_75 (by decide) ?_
      refine JJ.iadd hX dX6_party_76 ?_
      refine JJ.iconst (v := -1) hX dX6_party_77 (by decide) ?_
      obtain ⟨c6, h⟩ := gte h
      refine ast_36 hX c6 dX6_party_78 ?_
      refine JJ.aload_n hX 0 dX6_party_79 rfl ?_
      refine JJ.dup hX dX6_party_80 rfl ?_
      refine fg_X6_90_31 hX dX6_party_81 ?_
      refine JJ.iconst (v := 1) hX dX6_party_84 (by decide) ?_
      refine JJ.iadd hX dX6_party_85 ?_
      refine fp_X6_90_31 hX dX6_party_86 ?_
      refine JJ.aload_n hX 0 dX6_party_89 rfl ?_
      refine fg_X6_90_31 hX dX6_party_90 ?_
      refine JJ.iconst (v := 1) hX dX6_party_93 (by decide) ?_
      refine JJ.isub hX dX6_party_94 ?_
      obtain rfl := Option.some.inj h
      exact JJ.iret hX hM dX6_party_95
    · replace h := ipos c2 h
      refine JJ.bipush (v := -104) hX dX6_party_19 (by decide) ?_
      obtain rfl := Option.some.inj h
      exact JJ.iret hX hM dX6_party_21
  · replace h := ipos c1 h
    refine JJ.bipush (v := -101) hX dX6_party_8 (by decide) ?_
    obtain rfl := Option.some.inj h
    exact JJ.iret hX hM dX6_party_10
set_option maxRecDepth 100000 in
theorem ct_Camp_has_17 (p1 : Int32) (σ : ST) (res : Int32) (h : f_Camp_has_17 p1 σ = res) : Ct 0 yX0_has cX0_has 2 (some .boolean) (fun ad => [.int p1, .ref (ad 17)]) σ (some (.int res)) σ := by
  refine Ct.of (ls := fun ad => [(0, .ref (ad 17)), (1, .int p1)]) (by decide +kernel) (fun ad => Nat.le_of_ble_eq_true rfl) (fun ad => rfl) (fun X hX hM => ?_)
  replace hX : Ok X RX0 cX0_has 2 0 := hX
  unfold f_Camp_has_17 at h
  refine JJ.iload_n hX 1 dX0_has_0 rfl ?_
  refine JJ.if_lt (tgt := 16) hX dX0_has_1 (by decide) (fun c1 => ?_) (fun c1 => ?_)
  · replace h := ipos c1 h
    refine JJ.iconst (v := 0) hX dX0_has_16 (by decide) ?_
    subst h
    exact JJ.zret hX hM (by decide) dX0_has_17
  · replace h := ineg c1 h
    refine JJ.iload_n hX 1 dX0_has_4 rfl ?_
    refine JJ.aload_n hX 0 dX0_has_5 rfl ?_
    refine fg_X0_30_17 hX dX0_has_6 ?_
    refine JJ.icmp_ge (tgt := 16) hX dX0_has_9 (by decide) (fun c2 => ?_) (fun c2 => ?_)
    · replace h := ipos c2 h
      refine JJ.iconst (v := 0) hX dX0_has_16 (by decide) ?_
      subst h
      exact JJ.zret hX hM (by decide) dX0_has_17
    · replace h := ineg c2 h
      refine JJ.iconst (v := 1) hX dX0_has_12 (by decide) ?_
      refine JJ.goto (tgt := 17) hX dX0_has_13 (by decide) ?_
      subst h
      exact JJ.zret hX hM (by decide) dX0_has_17
set_option maxRecDepth 100000 in
theorem ct_Camp_stepsSinceSpoken_17 (p1 : Int32) (σ : ST) (res : Int32) (h : f_Camp_stepsSinceSpoken_17 p1 σ = res) : Ct 1 yX0_stepsSinceSpoken cX0_stepsSinceSpoken 3 (some .int) (fun ad => [.int p1, .ref (ad 17)]) σ (some (.int res)) σ := by
  refine Ct.of (ls := fun ad => [(0, .ref (ad 17)), (1, .int p1)]) (by decide +kernel) (fun ad => Nat.le_of_ble_eq_true rfl) (fun ad => rfl) (fun X hX hM => ?_)
  replace hX : Ok X RX0 cX0_stepsSinceSpoken 3 1 := hX
  unfold f_Camp_stepsSinceSpoken_17 at h
  refine JJ.aload_n hX 0 dX0_stepsSinceSpoken_0 rfl ?_
  refine fg_X0_21_17 hX dX0_stepsSinceSpoken_1 ?_
  refine JJ.iload_n hX 1 dX0_stepsSinceSpoken_4 rfl ?_
  refine JJ.callSNi hX (ct_cell 21 3 (by decide) (fun _ _ _ => rfl) _ _ _ rfl) cal_yX5_cell cas_yX5_cell lm_RX0_41 rfl rfl (Nat.le_of_ble_eq_true rfl) ⟨by decide, by decide⟩ dX0_stepsSinceSpoken_5 ?_
  refine JJ.istore_n (ls' := [(0, .ref (xad X 17)), (1, .int p1), (2, .int (cellF 3 21 p1 σ))]) hX dX0_stepsSinceSpoken_8 (by decide) rfl rfl ?_
  refine JJ.iload_n hX 2 dX0_stepsSinceSpoken_9 rfl ?_
  refine JJ.iconst (v := -1) hX dX0_stepsSinceSpoken_10 (by decide) ?_
  refine JJ.icmp_ne (tgt := 18) hX dX0_stepsSinceSpoken_11 (by decide) (fun c1 => ?_) (fun c1 => ?_)
  · replace h := ineg c1 h
    refine JJ.aload_n hX 0 dX0_stepsSinceSpoken_18 rfl ?_
    refine fg_X0_18_17 hX dX0_stepsSinceSpoken_19 ?_
    refine JJ.iload_n hX 1 dX0_stepsSinceSpoken_22 rfl ?_
    refine JJ.callSNi hX (ct_cell 20 3 (by decide) (fun _ _ _ => rfl) _ _ _ rfl) cal_yX5_cell cas_yX5_cell lm_RX0_41 rfl rfl (Nat.le_of_ble_eq_true rfl) ⟨by decide, by decide⟩ dX0_stepsSinceSpoken_23 ?_
    refine JJ.iload_n hX 2 dX0_stepsSinceSpoken_26 rfl ?_
    refine JJ.isub hX dX0_stepsSinceSpoken_27 ?_
    subst h
    exact JJ.iret hX hM dX0_stepsSinceSpoken_28
  · replace h := ipos c1 h
    refine JJ.iconst (v := -1) hX dX0_stepsSinceSpoken_14 (by decide) ?_
    refine JJ.goto (tgt := 28) hX dX0_stepsSinceSpoken_15 (by decide) ?_
    subst h
    exact JJ.iret hX hM dX0_stepsSinceSpoken_28
set_option maxRecDepth 100000 in
theorem ct_Camp_mayLook_17 (p1 : Int32) (σ : ST) (res : Int32) (h : f_Camp_mayLook_17 p1 σ = res) : Ct 2 yX0_mayLook cX0_mayLook 3 (some .boolean) (fun ad => [.int p1, .ref (ad 17)]) σ (some (.int res)) σ := by
  refine Ct.of (ls := fun ad => [(0, .ref (ad 17)), (1, .int p1)]) (by decide +kernel) (fun ad => Nat.le_of_ble_eq_true rfl) (fun ad => rfl) (fun X hX hM => ?_)
  replace hX : Ok X RX0 cX0_mayLook 3 2 := hX
  unfold f_Camp_mayLook_17 at h
  refine JJ.aload_n hX 0 dX0_mayLook_0 rfl ?_
  refine JJ.iload_n hX 1 dX0_mayLook_1 rfl ?_
  refine JJ.callVi hX (ct_Camp_stepsSinceSpoken_17 _ _ _ rfl) cal_yX0_stepsSinceSpoken cav_yX0_stepsSinceSpoken lm_RX0_49 rfl rfl rfl (Rcv.obj hX (ci := 0) rfl rfl) (Nat.le_of_ble_eq_true rfl) ⟨by decide, by decide⟩ dX0_mayLook_2 ?_
  refine JJ.istore_n (ls' := [(0, .ref (xad X 17)), (1, .int p1), (2, .int (f_Camp_stepsSinceSpoken_17 p1 σ))]) hX dX0_mayLook_5 (by decide) rfl rfl ?_
  refine JJ.aload_n hX 0 dX0_mayLook_6 rfl ?_
  refine fg_X0_15_17 hX dX0_mayLook_7 ?_
  refine JJ.iload_n hX 1 dX0_mayLook_10 rfl ?_
  refine JJ.callSNi hX (ct_cell 19 3 (by decide) (fun _ _ _ => rfl) _ _ _ rfl) cal_yX5_cell cas_yX5_cell lm_RX0_41 rfl rfl (Nat.le_of_ble_eq_true rfl) ⟨by decide, by decide⟩ dX0_mayLook_11 ?_
  refine JJ.if_le (tgt := 31) hX dX0_mayLook_14 (by decide) (fun c1 => ?_) (fun c1 => ?_)
  · replace h := ipos c1 h
    refine JJ.iconst (v := 0) hX dX0_mayLook_31 (by decide) ?_
    subst h
    exact JJ.zret hX hM (by decide) dX0_mayLook_32
  · replace h := ineg c1 h
    refine JJ.iload_n hX 2 dX0_mayLook_17 rfl ?_
    refine JJ.iconst (v := -1) hX dX0_mayLook_18 (by decide) ?_
    refine JJ.icmp_eq (tgt := 27) hX dX0_mayLook_19 (by decide) (fun c2 => ?_) (fun c2 => ?_)
    · replace h := ipos c2 h
      refine JJ.iconst (v := 1) hX dX0_mayLook_27 (by decide) ?_
      refine JJ.goto (tgt := 32) hX dX0_mayLook_28 (by decide) ?_
      subst h
      exact JJ.zret hX hM (by decide) dX0_mayLook_32
    · replace h := ineg c2 h
      refine JJ.iload_n hX 2 dX0_mayLook_22 rfl ?_
      refine JJ.iconst (v := 2) hX dX0_mayLook_23 (by decide) ?_
      refine JJ.icmp_lt (tgt := 31) hX dX0_mayLook_24 (by decide) (fun c3 => ?_) (fun c3 => ?_)
      · replace h := ipos c3 h
        refine JJ.iconst (v := 0) hX dX0_mayLook_31 (by decide) ?_
        subst h
        exact JJ.zret hX hM (by decide) dX0_mayLook_32
      · replace h := ineg c3 h
        refine JJ.iconst (v := 1) hX dX0_mayLook_27 (by decide) ?_
        refine JJ.goto (tgt := 32) hX dX0_mayLook_28 (by decide) ?_
        subst h
        exact JJ.zret hX hM (by decide) dX0_mayLook_32
set_option maxRecDepth 100000 in
theorem ct_LT_about (p1 : Int32) (p2 : Int32) (σ : ST) (res : Int32) (h : f_LT_about p1 p2 σ = res) : Ct 3 yX5_about cX5_about 3 (some .int) (fun ad => [.int p2, .int p1, .ref (ad 0)]) σ (some (.int res)) σ := by
  refine Ct.of (ls := fun ad => [(0, .ref (ad 0)), (1, .int p1), (2, .int p2)]) (by decide +kernel) (fun ad => Nat.le_of_ble_eq_true rfl) (fun ad => rfl) (fun X hX hM => ?_)
  replace hX : Ok X RX5 cX5_about 3 3 := hX
  unfold f_LT_about at h
  refine JJ.aload_n hX 0 dX5_about_0 rfl ?_
  refine fg_X5_35_0 hX dX5_about_1 ?_
  refine JJ.iload_n hX 1 dX5_about_4 rfl ?_
  refine JJ.callVi hX (ct_Camp_has_17 _ _ _ rfl) cal_yX0_has cav_yX0_has lm_RX5_110 rfl rfl rfl (Rcv.obj hX (ci := 0) rfl rfl) (Nat.le_of_ble_eq_true rfl) ⟨by decide, by decide⟩ dX5_about_5 ?_
  refine JJ.if_ne (tgt := 14) hX dX5_about_8 (by decide) (fun c1 => ?_) (fun c1 => ?_)
  · replace h := ineg c1 h
    refine JJ.iload_n hX 2 dX5_about_14 rfl ?_
    by_cases c2 : p2 = (0 : Int32)
    · replace h := ipos c2 h
      refine JJ.tableIn (v := 0) (tgt := 48) hX c2 dX5_about_15 (by decide) (by decide) rfl (by decide) ?_
      refine JJ.aload_n hX 0 dX5_about_48 rfl ?_
      refine fg_X5_35_0 hX dX5_about_49 ?_
      refine fg_X5_111_17 hX dX5_about_52 ?_
      refine JJ.iload_n hX 1 dX5_about_55 rfl ?_
      refine JJ.callSi hX (ct_cell 18 3 (by decide) (fun _ _ _ => rfl) _ _ _ rfl) cal_yX5_cell cas_yX5_cell lm_RX5_115 rfl rfl (Nat.le_of_ble_eq_true rfl) ⟨by decide, by decide⟩ dX5_about_56 ?_
      subst h
      exact JJ.iret hX hM dX5_about_59
    · replace h := ineg c2 h
      by_cases c3 : p2 = (1 : Int32)
      · replace h := ipos c3 h
        refine JJ.tableIn (v := 1) (tgt := 60) hX c3 dX5_about_15 (by decide) (by decide) rfl (by decide) ?_
        refine JJ.aload_n hX 0 dX5_about_60 rfl ?_
        refine fg_X5_35_0 hX dX5_about_61 ?_
        refine fg_X5_119_17 hX dX5_about_64 ?_
        refine JJ.iload_n hX 1 dX5_about_67 rfl ?_
        refine JJ.callSi hX (ct_cell 19 3 (by decide) (fun _ _ _ => rfl) _ _ _ rfl) cal_yX5_cell cas_yX5_cell lm_RX5_115 rfl rfl (Nat.le_of_ble_eq_true rfl) ⟨by decide, by decide⟩ dX5_about_68 ?_
        subst h
        exact JJ.iret hX hM dX5_about_71
      · replace h := ineg c3 h
        by_cases c4 : p2 = (2 : Int32)
        · replace h := ipos c4 h
          refine JJ.tableIn (v := 2) (tgt := 72) hX c4 dX5_about_15 (by decide) (by decide) rfl (by decide) ?_
          refine JJ.aload_n hX 0 dX5_about_72 rfl ?_
          refine fg_X5_35_0 hX dX5_about_73 ?_
          refine fg_X5_122_17 hX dX5_about_76 ?_
          refine JJ.iload_n hX 1 dX5_about_79 rfl ?_
          refine JJ.callSi hX (ct_cell 20 3 (by decide) (fun _ _ _ => rfl) _ _ _ rfl) cal_yX5_cell cas_yX5_cell lm_RX5_115 rfl rfl (Nat.le_of_ble_eq_true rfl) ⟨by decide, by decide⟩ dX5_about_80 ?_
          subst h
          exact JJ.iret hX hM dX5_about_83
        · replace h := ineg c4 h
          by_cases c5 : p2 = (3 : Int32)
          · replace h := ipos c5 h
            refine JJ.tableIn (v := 3) (tgt := 84) hX c5 dX5_about_15 (by decide) (by decide) rfl (by decide) ?_
            refine JJ.aload_n hX 0 dX5_about_84 rfl ?_
            refine fg_X5_35_0 hX dX5_about_85 ?_
            refine JJ.iload_n hX 1 dX5_about_88 rfl ?_
            refine JJ.callVi hX (ct_Camp_stepsSinceSpoken_17 _ _ _ rfl) cal_yX0_stepsSinceSpoken cav_yX0_stepsSinceSpoken lm_RX5_125 rfl rfl rfl (Rcv.obj hX (ci := 0) rfl rfl) (Nat.le_of_ble_eq_true rfl) ⟨by decide, by decide⟩ dX5_about_89 ?_
            subst h
            exact JJ.iret hX hM dX5_about_92
          · replace h := ineg c5 h
            by_cases c6 : p2 = (4 : Int32)
            · replace h := ipos c6 h
              refine JJ.tableIn (v := 4) (tgt := 93) hX c6 dX5_about_15 (by decide) (by decide) rfl (by decide) ?_
              refine JJ.aload_n hX 0 dX5_about_93 rfl ?_
              refine fg_X5_35_0 hX dX5_about_94 ?_
              refine JJ.iload_n hX 1 dX5_about_97 rfl ?_
              refine JJ.callVi hX (ct_Camp_mayLook_17 _ _ _ rfl) cal_yX0_mayLook cav_yX0_mayLook lm_RX5_128 rfl rfl rfl (Rcv.obj hX (ci := 0) rfl rfl) (Nat.le_of_ble_eq_true rfl) ⟨by decide, by decide⟩ dX5_about_98 ?_
              refine JJ.if_eq (tgt := 108) hX dX5_about_101 (by decide) (fun c7 => ?_) (fun c7 => ?_)
              · replace h := ipos c7 h
                refine JJ.iconst (v := 0) hX dX5_about_108 (by decide) ?_
                subst h
                exact JJ.iret hX hM dX5_about_109
              · replace h := ineg c7 h
                refine JJ.iconst (v := 1) hX dX5_about_104 (by decide) ?_
                refine JJ.goto (tgt := 109) hX dX5_about_105 (by decide) ?_
                subst h
                exact JJ.iret hX hM dX5_about_109
            · replace h := ineg c6 h
              refine JJ.tableOut (tgt := 110) hX dX5_about_15 (sw_out (n := 4) (fun k hk => by
                rcases k with _|_|_|_|_|k
                · exact c2
                · exact c3
                · exact c4
                · exact c5
                · exact c6
                · exact absurd hk (by omega)) (by decide)) (by decide) ?_
              refine JJ.bipush (v := -102) hX dX5_about_110 (by decide) ?_
              subst h
              exact JJ.iret hX hM dX5_about_112
  · replace h := ipos c1 h
    refine JJ.bipush (v := -101) hX dX5_about_11 (by decide) ?_
    subst h
    exact JJ.iret hX hM dX5_about_13
set_option maxRecDepth 100000 in
theorem ct_M_isParty (p1 : Int32) (σ : ST) (res : Int32) (h : f_M_isParty p1 σ = res) : Ct 1 yX6_isParty cX6_isParty 2 (some .boolean) (fun ad => [.int p1, .ref (ad 31)]) σ (some (.int res)) σ := by
  refine Ct.of (ls := fun ad => [(0, .ref (ad 31)), (1, .int p1)]) (by decide +kernel) (fun ad => Nat.le_of_ble_eq_true rfl) (fun ad => rfl) (fun X hX hM => ?_)
  replace hX : Ok X RX6 cX6_isParty 2 1 := hX
  unfold f_M_isParty at h
  refine JJ.iload_n hX 1 dX6_isParty_0 rfl ?_
  refine JJ.i2l hX dX6_isParty_1 ?_
  refine JJ.lconst (v := 0) hX dX6_isParty_2 (by decide) ?_
  refine JJ.aload_n hX 0 dX6_isParty_3 rfl ?_
  refine fg_X6_90_31 hX dX6_isParty_4 ?_
  refine JJ.iconst (v := 1) hX dX6_isParty_7 (by decide) ?_
  refine JJ.isub hX dX6_isParty_8 ?_
  refine JJ.i2l hX dX6_isParty_9 ?_
  refine JJ.callSi hX (ct_M_in _ _ _ _ _ rfl) cal_yX6_in cas_yX6_in lm_RX6_49 rfl rfl (Nat.le_of_ble_eq_true rfl) ⟨by decide, by decide⟩ dX6_isParty_10 ?_
  subst h
  exact JJ.bret hX hM dX6_isParty_13
set_option maxRecDepth 100000 in
theorem ct_M_sinceOf (p1 : Int32) (σ : ST) (res : Int32) (h : f_M_sinceOf p1 σ = some res) : Ct 0 yX6_sinceOf cX6_sinceOf 2 (some .int) (fun ad => [.int p1, .ref (ad 31)]) σ (some (.int res)) σ := by
  refine Ct.of (ls := fun ad => [(0, .ref (ad 31)), (1, .int p1)]) (by decide +kernel) (fun ad => Nat.le_of_ble_eq_true rfl) (fun ad => rfl) (fun X hX hM => ?_)
  replace hX : Ok X RX6 cX6_sinceOf 2 0 := hX
  unfold f_M_sinceOf at h
  refine JJ.aload_n hX 0 dX6_sinceOf_0 rfl ?_
  refine fg_X6_22_31 hX dX6_sinceOf_1 ?_
  refine JJ.iconst (v := 4) hX dX6_sinceOf_4 (by decide) ?_
  refine JJ.iload_n hX 1 dX6_sinceOf_5 rfl ?_
  refine JJ.imul hX dX6_sinceOf_6 ?_
  refine JJ.iconst (v := 3) hX dX6_sinceOf_7 (by decide) ?_
  refine JJ.iadd hX dX6_sinceOf_8 ?_
  obtain ⟨c1, h⟩ := gte h
  refine ald_36 hX c1 dX6_sinceOf_9 ?_
  refine JJ.iconst (v := -1) hX dX6_sinceOf_10 (by decide) ?_
  refine JJ.icmp_ne (tgt := 18) hX dX6_sinceOf_11 (by decide) (fun c2 => ?_) (fun c2 => ?_)
  · replace h := ineg c2 h
    refine JJ.aload_n hX 0 dX6_sinceOf_18 rfl ?_
    refine fg_X6_22_31 hX dX6_sinceOf_19 ?_
    refine JJ.iconst (v := 4) hX dX6_sinceOf_22 (by decide) ?_
    refine JJ.iload_n hX 1 dX6_sinceOf_23 rfl ?_
    refine JJ.imul hX dX6_sinceOf_24 ?_
    refine JJ.iconst (v := 2) hX dX6_sinceOf_25 (by decide) ?_
    refine JJ.iadd hX dX6_sinceOf_26 ?_
    obtain ⟨c3, h⟩ := gte h
    refine ald_36 hX c3 dX6_sinceOf_27 ?_
    refine JJ.aload_n hX 0 dX6_sinceOf_28 rfl ?_
    refine fg_X6_22_31 hX dX6_sinceOf_29 ?_
    refine JJ.iconst (v := 4) hX dX6_sinceOf_32 (by decide) ?_
    refine JJ.iload_n hX 1 dX6_sinceOf_33 rfl ?_
    refine JJ.imul hX dX6_sinceOf_34 ?_
    refine JJ.iconst (v := 3) hX dX6_sinceOf_35 (by decide) ?_
    refine JJ.iadd hX dX6_sinceOf_36 ?_
    obtain ⟨c4, h⟩ := gte h
    refine ald_36 hX c4 dX6_sinceOf_37 ?_
    refine JJ.isub hX dX6_sinceOf_38 ?_
    obtain rfl := Option.some.inj h
    exact JJ.iret hX hM dX6_sinceOf_39
  · replace h := ipos c2 h
    refine JJ.iconst (v := -1) hX dX6_sinceOf_14 (by decide) ?_
    refine JJ.goto (tgt := 39) hX dX6_sinceOf_15 (by decide) ?_
    obtain rfl := Option.some.inj h
    exact JJ.iret hX hM dX6_sinceOf_39
set_option maxRecDepth 100000 in
theorem ct_M_mayLook (p1 : Int32) (σ : ST) (res : Int32) (h : f_M_mayLook p1 σ = some res) : Ct 1 yX6_mayLook cX6_mayLook 2 (some .boolean) (fun ad => [.int p1, .ref (ad 31)]) σ (some (.int res)) σ := by
  refine Ct.of (ls := fun ad => [(0, .ref (ad 31)), (1, .int p1)]) (by decide +kernel) (fun ad => Nat.le_of_ble_eq_true rfl) (fun ad => rfl) (fun X hX hM => ?_)
  replace hX : Ok X RX6 cX6_mayLook 2 1 := hX
  unfold f_M_mayLook at h
  refine JJ.aload_n hX 0 dX6_mayLook_0 rfl ?_
  refine fg_X6_22_31 hX dX6_mayLook_1 ?_
  refine JJ.iconst (v := 4) hX dX6_mayLook_4 (by decide) ?_
  refine JJ.iload_n hX 1 dX6_mayLook_5 rfl ?_
  refine JJ.imul hX dX6_mayLook_6 ?_
  refine JJ.iconst (v := 1) hX dX6_mayLook_7 (by decide) ?_
  refine JJ.iadd hX dX6_mayLook_8 ?_
  obtain ⟨c1, h⟩ := gte h
  refine ald_36 hX c1 dX6_mayLook_9 ?_
  refine JJ.if_le (tgt := 35) hX dX6_mayLook_10 (by decide) (fun c2 => ?_) (fun c2 => ?_)
  · replace h := ipos c2 h
    refine JJ.iconst (v := 0) hX dX6_mayLook_35 (by decide) ?_
    obtain rfl := Option.some.inj h
    exact JJ.zret hX hM (by decide) dX6_mayLook_36
  · replace h := ineg c2 h
    refine JJ.aload_n hX 0 dX6_mayLook_13 rfl ?_
    refine JJ.iload_n hX 1 dX6_mayLook_14 rfl ?_
    obtain ⟨q3, h3, h⟩ := bnd h
    refine JJ.callVi hX (ct_M_sinceOf _ _ _ h3) cal_yX6_sinceOf cav_yX6_sinceOf lm_RX6_117 rfl rfl rfl (Rcv.obj hX (ci := 6) rfl rfl) (Nat.le_of_ble_eq_true rfl) ⟨by decide, by decide⟩ dX6_mayLook_15 ?_
    refine JJ.iconst (v := -1) hX dX6_mayLook_18 (by decide) ?_
    refine JJ.icmp_eq (tgt := 31) hX dX6_mayLook_19 (by decide) (fun c4 => ?_) (fun c4 => ?_)
    · replace h := ipos c4 h
      refine JJ.iconst (v := 1) hX dX6_mayLook_31 (by decide) ?_
      refine JJ.goto (tgt := 36) hX dX6_mayLook_32 (by decide) ?_
      obtain rfl := Option.some.inj h
      exact JJ.zret hX hM (by decide) dX6_mayLook_36
    · replace h := ineg c4 h
      refine JJ.aload_n hX 0 dX6_mayLook_22 rfl ?_
      refine JJ.iload_n hX 1 dX6_mayLook_23 rfl ?_
      obtain ⟨q5, h5, h⟩ := bnd h
      refine JJ.callVi hX (ct_M_sinceOf _ _ _ h5) cal_yX6_sinceOf cav_yX6_sinceOf lm_RX6_117 rfl rfl rfl (Rcv.obj hX (ci := 6) rfl rfl) (Nat.le_of_ble_eq_true rfl) ⟨by decide, by decide⟩ dX6_mayLook_24 ?_
      refine JJ.iconst (v := 2) hX dX6_mayLook_27 (by decide) ?_
      refine JJ.icmp_lt (tgt := 35) hX dX6_mayLook_28 (by decide) (fun c6 => ?_) (fun c6 => ?_)
      · replace h := ipos c6 h
        refine JJ.iconst (v := 0) hX dX6_mayLook_35 (by decide) ?_
        obtain rfl := Option.some.inj h
        exact JJ.zret hX hM (by decide) dX6_mayLook_36
      · replace h := ineg c6 h
        refine JJ.iconst (v := 1) hX dX6_mayLook_31 (by decide) ?_
        refine JJ.goto (tgt := 36) hX dX6_mayLook_32 (by decide) ?_
        obtain rfl := Option.some.inj h
        exact JJ.zret hX hM (by decide) dX6_mayLook_36
set_option maxRecDepth 100000 in
theorem ct_M_tell (p1 : Int32) (p2 : Int32) (σ : ST) (res : Int32) (h : f_M_tell p1 p2 σ = some res) : Ct 2 yX6_tell cX6_tell 3 (some .int) (fun ad => [.int p2, .int p1, .ref (ad 31)]) σ (some (.int res)) σ := by
  refine Ct.of (ls := fun ad => [(0, .ref (ad 31)), (1, .int p1), (2, .int p2)]) (by decide +kernel) (fun ad => Nat.le_of_ble_eq_true rfl) (fun ad => rfl) (fun X hX hM => ?_)
  replace hX : Ok X RX6 cX6_tell 3 2 := hX
  unfold f_M_tell at h
  refine JJ.iload_n hX 2 dX6_tell_0 rfl ?_
  by_cases c1 : p2 = (0 : Int32)
  · replace h := ipos c1 h
    refine JJ.tableIn (v := 0) (tgt := 36) hX c1 dX6_tell_1 (by decide) (by decide) rfl (by decide) ?_
    refine JJ.aload_n hX 0 dX6_tell_36 rfl ?_
    refine fg_X6_22_31 hX dX6_tell_37 ?_
    refine JJ.iconst (v := 4) hX dX6_tell_40 (by decide) ?_
    refine JJ.iload_n hX 1 dX6_tell_41 rfl ?_
    refine JJ.imul hX dX6_tell_42 ?_
    refine JJ.iload_n hX 2 dX6_tell_43 rfl ?_
    refine JJ.iadd hX dX6_tell_44 ?_
    obtain ⟨c2, h⟩ := gte h
    refine ald_36 hX c2 dX6_tell_45 ?_
    obtain rfl := Option.some.inj h
    exact JJ.iret hX hM dX6_tell_46
  · replace h := ineg c1 h
    by_cases c3 : p2 = (1 : Int32)
    · replace h := ipos c3 h
      refine JJ.tableIn (v := 1) (tgt := 36) hX c3 dX6_tell_1 (by decide) (by decide) rfl (by decide) ?_
      refine JJ.aload_n hX 0 dX6_tell_36 rfl ?_
      refine fg_X6_22_31 hX dX6_tell_37 ?_
      refine JJ.iconst (v := 4) hX dX6_tell_40 (by decide) ?_
      refine JJ.iload_n hX 1 dX6_tell_41 rfl ?_
      refine JJ.imul hX dX6_tell_42 ?_
      refine JJ.iload_n hX 2 dX6_tell_43 rfl ?_
      refine JJ.iadd hX dX6_tell_44 ?_
      obtain ⟨c4, h⟩ := gte h
      refine ald_36 hX c4 dX6_tell_45 ?_
      obtain rfl := Option.some.inj h
      exact JJ.iret hX hM dX6_tell_46
    · replace h := ineg c3 h
      by_cases c5 : p2 = (2 : Int32)
      · replace h := ipos c5 h
        refine JJ.tableIn (v := 2) (tgt := 36) hX c5 dX6_tell_1 (by decide) (by decide) rfl (by decide) ?_
        refine JJ.aload_n hX 0 dX6_tell_36 rfl ?_
        refine fg_X6_22_31 hX dX6_tell_37 ?_
        refine JJ.iconst (v := 4) hX dX6_tell_40 (by decide) ?_
        refine JJ.iload_n hX 1 dX6_tell_41 rfl ?_
        refine JJ.imul hX dX6_tell_42 ?_
        refine JJ.iload_n hX 2 dX6_tell_43 rfl ?_
        refine JJ.iadd hX dX6_tell_44 ?_
        obtain ⟨c6, h⟩ := gte h
        refine ald_36 hX c6 dX6_tell_45 ?_
        obtain rfl := Option.some.inj h
        exact JJ.iret hX hM dX6_tell_46
      · replace h := ineg c5 h
        by_cases c7 : p2 = (3 : Int32)
        · replace h := ipos c7 h
          refine JJ.tableIn (v := 3) (tgt := 47) hX c7 dX6_tell_1 (by decide) (by decide) rfl (by decide) ?_
          refine JJ.aload_n hX 0 dX6_tell_47 rfl ?_
          refine JJ.iload_n hX 1 dX6_tell_48 rfl ?_
          obtain ⟨q8, h8, h⟩ := bnd h
          refine JJ.callVi hX (ct_M_sinceOf _ _ _ h8) cal_yX6_sinceOf cav_yX6_sinceOf lm_RX6_117 rfl rfl rfl (Rcv.obj hX (ci := 6) rfl rfl) (Nat.le_of_ble_eq_true rfl) ⟨by decide, by decide⟩ dX6_tell_49 ?_
          obtain rfl := Option.some.inj h
          exact JJ.iret hX hM dX6_tell_52
        · replace h := ineg c7 h
          by_cases c9 : p2 = (4 : Int32)
          · replace h := ipos c9 h
            refine JJ.tableIn (v := 4) (tgt := 53) hX c9 dX6_tell_1 (by decide) (by decide) rfl (by decide) ?_
            refine JJ.aload_n hX 0 dX6_tell_53 rfl ?_
            refine JJ.iload_n hX 1 dX6_tell_54 rfl ?_
            obtain ⟨q10, h10, h⟩ := bnd h
            refine JJ.callVi hX (ct_M_mayLook _ _ _ h10) cal_yX6_mayLook cav_yX6_mayLook lm_RX6_120 rfl rfl rfl (Rcv.obj hX (ci := 6) rfl rfl) (Nat.le_of_ble_eq_true rfl) ⟨by decide, by decide⟩ dX6_tell_55 ?_
            refine JJ.if_eq (tgt := 65) hX dX6_tell_58 (by decide) (fun c11 => ?_) (fun c11 => ?_)
            · replace h := ipos c11 h
              refine JJ.iconst (v := 0) hX dX6_tell_65 (by decide) ?_
              obtain rfl := Option.some.inj h
              exact JJ.iret hX hM dX6_tell_66
            · replace h := ineg c11 h
              refine JJ.iconst (v := 1) hX dX6_tell_61 (by decide) ?_
              refine JJ.goto (tgt := 66) hX dX6_tell_62 (by decide) ?_
              obtain rfl := Option.some.inj h
              exact JJ.iret hX hM dX6_tell_66
          · replace h := ineg c9 h
            refine JJ.tableOut (tgt := 67) hX dX6_tell_1 (sw_out (n := 4) (fun k hk => by
              rcases k with _|_|_|_|_|k
              · exact c1
              · exact c3
              · exact c5
              · exact c7
              · exact c9
              · exact absurd hk (by omega)) (by decide)) (by decide) ?_
            refine JJ.bipush (v := -102) hX dX6_tell_67 (by decide) ?_
            obtain rfl := Option.some.inj h
            exact JJ.iret hX hM dX6_tell_69
set_option maxRecDepth 100000 in
theorem ct_M_about (p1 : Int32) (p2 : Int32) (σ : ST) (res : Int32) (h : f_M_about p1 p2 σ = some res) : Ct 3 yX6_about cX6_about 3 (some .int) (fun ad => [.int p2, .int p1, .ref (ad 31)]) σ (some (.int res)) σ := by
  refine Ct.of (ls := fun ad => [(0, .ref (ad 31)), (1, .int p1), (2, .int p2)]) (by decide +kernel) (fun ad => Nat.le_of_ble_eq_true rfl) (fun ad => rfl) (fun X hX hM => ?_)
  replace hX : Ok X RX6 cX6_about 3 3 := hX
  unfold f_M_about at h
  refine JJ.aload_n hX 0 dX6_about_0 rfl ?_
  refine JJ.iload_n hX 1 dX6_about_1 rfl ?_
  refine JJ.callVi hX (ct_M_isParty _ _ _ rfl) cal_yX6_isParty cav_yX6_isParty lm_RX6_123 rfl rfl rfl (Rcv.obj hX (ci := 6) rfl rfl) (Nat.le_of_ble_eq_true rfl) ⟨by decide, by decide⟩ dX6_about_2 ?_
  refine JJ.if_eq (tgt := 17) hX dX6_about_5 (by decide) (fun c1 => ?_) (fun c1 => ?_)
  · replace h := ipos c1 h
    refine JJ.bipush (v := -101) hX dX6_about_17 (by decide) ?_
    obtain rfl := Option.some.inj h
    exact JJ.iret hX hM dX6_about_19
  · replace h := ineg c1 h
    refine JJ.aload_n hX 0 dX6_about_8 rfl ?_
    refine JJ.iload_n hX 1 dX6_about_9 rfl ?_
    refine JJ.iload_n hX 2 dX6_about_10 rfl ?_
    obtain ⟨q2, h2, h⟩ := bnd h
    refine JJ.callVi hX (ct_M_tell _ _ _ _ h2) cal_yX6_tell cav_yX6_tell lm_RX6_126 rfl rfl rfl (Rcv.obj hX (ci := 6) rfl rfl) (Nat.le_of_ble_eq_true rfl) ⟨by decide, by decide⟩ dX6_about_11 ?_
    refine JJ.goto (tgt := 19) hX dX6_about_14 (by decide) ?_
    obtain rfl := Option.some.inj h
    exact JJ.iret hX hM dX6_about_19
set_option maxRecDepth 100000 in
theorem ct_LT_isWay (p0 : Int32) (σ : ST) (res : Int32) (h : f_LT_isWay p0 = res) : Ct 0 yX5_isWay cX5_isWay 1 (some .boolean) (fun ad => [.int p0]) σ (some (.int res)) σ := by
  refine Ct.of (ls := fun ad => [(0, .int p0)]) (by decide +kernel) (fun ad => Nat.le_of_ble_eq_true rfl) (fun ad => rfl) (fun X hX hM => ?_)
  replace hX : Ok X RX5 cX5_isWay 1 0 := hX
  unfold f_LT_isWay at h
  refine JJ.iload_n hX 0 dX5_isWay_0 rfl ?_
  refine JJ.if_eq (tgt := 9) hX dX5_isWay_1 (by decide) (fun c1 => ?_) (fun c1 => ?_)
  · replace h := ipos c1 h
    refine JJ.iconst (v := 1) hX dX5_isWay_9 (by decide) ?_
    refine JJ.goto (tgt := 14) hX dX5_isWay_10 (by decide) ?_
    subst h
    exact JJ.zret hX hM (by decide) dX5_isWay_14
  · replace h := ineg c1 h
    refine JJ.iload_n hX 0 dX5_isWay_4 rfl ?_
    refine JJ.iconst (v := 1) hX dX5_isWay_5 (by decide) ?_
    refine JJ.icmp_ne (tgt := 13) hX dX5_isWay_6 (by decide) (fun c2 => ?_) (fun c2 => ?_)
    · replace h := ineg c2 h
      refine JJ.iconst (v := 0) hX dX5_isWay_13 (by decide) ?_
      subst h
      exact JJ.zret hX hM (by decide) dX5_isWay_14
    · replace h := ipos c2 h
      refine JJ.iconst (v := 1) hX dX5_isWay_9 (by decide) ?_
      refine JJ.goto (tgt := 14) hX dX5_isWay_10 (by decide) ?_
      subst h
      exact JJ.zret hX hM (by decide) dX5_isWay_14
set_option maxRecDepth 100000 in
theorem ct_Camp_go_17 (p1 : Int32) (p2 : Int32) (p3 : Int32) (σ : ST) (res : ST) (h : f_Camp_go_17 p1 p2 p3 σ = res) : Ct 1 yX0_go cX0_go 4 none (fun ad => [.int p3, .int p2, .int p1, .ref (ad 17)]) σ none res := by
  refine Ct.of (ls := fun ad => [(0, .ref (ad 17)), (1, .int p1), (2, .int p2), (3, .int p3)]) (by decide +kernel) (fun ad => Nat.le_of_ble_eq_true rfl) (fun ad => rfl) (fun X hX hM => ?_)
  replace hX : Ok X RX0 cX0_go 4 1 := hX
  unfold f_Camp_go_17 at h
  refine JJ.aload_n hX 0 dX0_go_0 rfl ?_
  refine fg_X0_9_17 hX dX0_go_1 ?_
  refine JJ.iload_n hX 1 dX0_go_4 rfl ?_
  refine JJ.iload_n hX 2 dX0_go_5 rfl ?_
  refine JJ.callSNv hX (ct_put 18 3 (by decide) (fun _ _ _ => rfl) (fun _ _ _ _ _ => rfl) _ _ _ _ rfl) cal_yX5_put cas_yX5_put lm_RX0_45 rfl rfl (Nat.le_of_ble_eq_true rfl) ⟨by decide, by decide⟩ dX0_go_6 ?_
  refine JJ.aload_n hX 0 dX0_go_9 rfl ?_
  refine fg_X0_15_17 hX dX0_go_10 ?_
  refine JJ.iload_n hX 1 dX0_go_13 rfl ?_
  refine JJ.aload_n hX 0 dX0_go_14 rfl ?_
  refine fg_X0_15_17 hX dX0_go_15 ?_
  refine JJ.iload_n hX 1 dX0_go_18 rfl ?_
  refine JJ.callSNi hX (ct_cell 19 3 (by decide) (fun _ _ _ => rfl) _ _ _ rfl) cal_yX5_cell cas_yX5_cell lm_RX0_41 rfl rfl (Nat.le_of_ble_eq_true rfl) ⟨by decide, by decide⟩ dX0_go_19 ?_
  refine JJ.iload_n hX 3 dX0_go_22 rfl ?_
  refine JJ.isub hX dX0_go_23 ?_
  refine JJ.callSNv hX (ct_put 19 3 (by decide) (fun _ _ _ => rfl) (fun _ _ _ _ _ => rfl) _ _ _ _ rfl) cal_yX5_put cas_yX5_put lm_RX0_45 rfl rfl (Nat.le_of_ble_eq_true rfl) ⟨by decide, by decide⟩ dX0_go_24 ?_
  refine JJ.aload_n hX 0 dX0_go_27 rfl ?_
  refine fg_X0_18_17 hX dX0_go_28 ?_
  refine JJ.iload_n hX 1 dX0_go_31 rfl ?_
  refine JJ.aload_n hX 0 dX0_go_32 rfl ?_
  refine fg_X0_18_17 hX dX0_go_33 ?_
  refine JJ.iload_n hX 1 dX0_go_36 rfl ?_
  refine JJ.callSNi hX (ct_cell 20 3 (by decide) (fun _ _ _ => rfl) _ _ _ rfl) cal_yX5_cell cas_yX5_cell lm_RX0_41 rfl rfl (Nat.le_of_ble_eq_true rfl) ⟨by decide, by decide⟩ dX0_go_37 ?_
  refine JJ.iconst (v := 1) hX dX0_go_40 (by decide) ?_
  refine JJ.iadd hX dX0_go_41 ?_
  refine JJ.callSNv hX (ct_put 20 3 (by decide) (fun _ _ _ => rfl) (fun _ _ _ _ _ => rfl) _ _ _ _ rfl) cal_yX5_put cas_yX5_put lm_RX0_45 rfl rfl (Nat.le_of_ble_eq_true rfl) ⟨by decide, by decide⟩ dX0_go_42 ?_
  subst h
  exact JJ.vret hX hM dX0_go_45
set_option maxRecDepth 100000 in
theorem ct_LT_step (p1 : Int32) (p2 : Int32) (σ : ST) (res : Int32 × ST) (h : f_LT_step p1 p2 σ = res) : Ct 3 yX5_step cX5_step 5 (some .int) (fun ad => [.int p2, .int p1, .ref (ad 0)]) σ (some (.int res.1)) res.2 := by
  refine Ct.of (ls := fun ad => [(0, .ref (ad 0)), (1, .int p1), (2, .int p2)]) (by decide +kernel) (fun ad => Nat.le_of_ble_eq_true rfl) (fun ad => rfl) (fun X hX hM => ?_)
  replace hX : Ok X RX5 cX5_step 5 3 := hX
  unfold f_LT_step at h
  refine JJ.aload_n hX 0 dX5_step_0 rfl ?_
  refine fg_X5_35_0 hX dX5_step_1 ?_
  refine JJ.iload_n hX 1 dX5_step_4 rfl ?_
  refine JJ.callVi hX (ct_Camp_has_17 _ _ _ rfl) cal_yX0_has cav_yX0_has lm_RX5_110 rfl rfl rfl (Rcv.obj hX (ci := 0) rfl rfl) (Nat.le_of_ble_eq_true rfl) ⟨by decide, by decide⟩ dX5_step_5 ?_
  refine JJ.if_ne (tgt := 14) hX dX5_step_8 (by decide) (fun c1 => ?_) (fun c1 => ?_)
  · replace h := ineg c1 h
    refine JJ.iload_n hX 2 dX5_step_14 rfl ?_
    refine JJ.callSi hX (ct_LT_isWay _ _ _ rfl) cal_yX5_isWay cas_yX5_isWay lm_RX5_131 rfl rfl (Nat.le_of_ble_eq_true rfl) ⟨by decide, by decide⟩ dX5_step_15 ?_
    refine JJ.if_ne (tgt := 24) hX dX5_step_18 (by decide) (fun c2 => ?_) (fun c2 => ?_)
    · replace h := ineg c2 h
      refine JJ.aload_n hX 0 dX5_step_24 rfl ?_
      refine fg_X5_19_0 hX dX5_step_25 ?_
      refine JJ.aload_n hX 0 dX5_step_28 rfl ?_
      refine fg_X5_35_0 hX dX5_step_29 ?_
      refine fg_X5_111_17 hX dX5_step_32 ?_
      refine JJ.iload_n hX 1 dX5_step_35 rfl ?_
      refine JJ.callSi hX (ct_cell 18 3 (by decide) (fun _ _ _ => rfl) _ _ _ rfl) cal_yX5_cell cas_yX5_cell lm_RX5_115 rfl rfl (Nat.le_of_ble_eq_true rfl) ⟨by decide, by decide⟩ dX5_step_36 ?_
      refine JJ.iload_n hX 2 dX5_step_39 rfl ?_
      refine JJ.callVi hX (ct_Mine_leadsTo _ _ _ _ rfl) cal_yX1_leadsTo cav_yX1_leadsTo lm_RX5_84 rfl rfl rfl (Rcv.obj hX (ci := 1) rfl rfl) (Nat.le_of_ble_eq_true rfl) ⟨by decide, by decide⟩ dX5_step_40 ?_
      refine JJ.istore_n (ls' := [(0, .ref (xad X 0)), (1, .int p1), (2, .int p2), (3, .int (f_Mine_leadsTo (cellF 3 18 p1 σ) p2 σ))]) hX dX5_step_43 (by decide) rfl rfl ?_
      refine JJ.aload_n hX 0 dX5_step_44 rfl ?_
      refine fg_X5_19_0 hX dX5_step_45 ?_
      refine JJ.iload_n hX 3 dX5_step_48 rfl ?_
      refine JJ.callVi hX (ct_Mine_oilTo _ _ _ rfl) cal_yX1_oilTo cav_yX1_oilTo lm_RX5_91 rfl rfl rfl (Rcv.obj hX (ci := 1) rfl rfl) (Nat.le_of_ble_eq_true rfl) ⟨by decide, by decide⟩ dX5_step_49 ?_
      refine JJ.istore (ls' := [(0, .ref (xad X 0)), (1, .int p1), (2, .int p2), (3, .int (f_Mine_leadsTo (cellF 3 18 p1 σ) p2 σ)), (4, .int (f_Mine_oilTo (f_Mine_leadsTo (cellF 3 18 p1 σ) p2 σ) σ))]) hX dX5_step_52 (by decide) rfl rfl ?_
      refine JJ.aload_n hX 0 dX5_step_54 rfl ?_
      refine fg_X5_35_0 hX dX5_step_55 ?_
      refine fg_X5_119_17 hX dX5_step_58 ?_
      refine JJ.iload_n hX 1 dX5_step_61 rfl ?_
      refine JJ.callSi hX (ct_cell 19 3 (by decide) (fun _ _ _ => rfl) _ _ _ rfl) cal_yX5_cell cas_yX5_cell lm_RX5_115 rfl rfl (Nat.le_of_ble_eq_true rfl) ⟨by decide, by decide⟩ dX5_step_62 ?_
      refine JJ.iload hX 4 dX5_step_65 rfl ?_
      refine JJ.icmp_ge (tgt := 73) hX dX5_step_67 (by decide) (fun c3 => ?_) (fun c3 => ?_)
      · replace h := ipos c3 h
        refine JJ.aload_n hX 0 dX5_step_73 rfl ?_
        refine fg_X5_35_0 hX dX5_step_74 ?_
        refine JJ.iload_n hX 1 dX5_step_77 rfl ?_
        refine JJ.iload_n hX 3 dX5_step_78 rfl ?_
        refine JJ.iload hX 4 dX5_step_79 rfl ?_
        refine JJ.callVv hX (ct_Camp_go_17 _ _ _ _ _ rfl) cal_yX0_go cav_yX0_go lm_RX5_134 rfl rfl rfl (Rcv.obj hX (ci := 0) rfl rfl) (Nat.le_of_ble_eq_true rfl) ⟨by decide, by decide⟩ dX5_step_81 ?_
        refine JJ.iload_n hX 3 dX5_step_84 rfl ?_
        subst h
        exact JJ.iret hX hM dX5_step_85
      · replace h := ineg c3 h
        refine JJ.bipush (v := -103) hX dX5_step_70 (by decide) ?_
        subst h
        exact JJ.iret hX hM dX5_step_72
    · replace h := ipos c2 h
      refine JJ.bipush (v := -102) hX dX5_step_21 (by decide) ?_
      subst h
      exact JJ.iret hX hM dX5_step_23
  · replace h := ipos c1 h
    refine JJ.bipush (v := -101) hX dX5_step_11 (by decide) ?_
    subst h
    exact JJ.iret hX hM dX5_step_13
set_option maxRecDepth 100000 in
theorem ct_M_step (p1 : Int32) (p2 : Int32) (σ : ST) (res : Int32 × ST) (h : f_M_step p1 p2 σ = some res) : Ct 2 yX6_step cX6_step 4 (some .int) (fun ad => [.int p2, .int p1, .ref (ad 31)]) σ (some (.int res.1)) res.2 := by
  refine Ct.of (ls := fun ad => [(0, .ref (ad 31)), (1, .int p1), (2, .int p2)]) (by decide +kernel) (fun ad => Nat.le_of_ble_eq_true rfl) (fun ad => rfl) (fun X hX hM => ?_)
  replace hX : Ok X RX6 cX6_step 4 2 := hX
  unfold f_M_step at h
  refine JJ.aload_n hX 0 dX6_step_0 rfl ?_
  refine JJ.iload_n hX 1 dX6_step_1 rfl ?_
  refine JJ.callVi hX (ct_M_isParty _ _ _ rfl) cal_yX6_isParty cav_yX6_isParty lm_RX6_123 rfl rfl rfl (Rcv.obj hX (ci := 6) rfl rfl) (Nat.le_of_ble_eq_true rfl) ⟨by decide, by decide⟩ dX6_step_2 ?_
  refine JJ.if_ne (tgt := 11) hX dX6_step_5 (by decide) (fun c1 => ?_) (fun c1 => ?_)
  · replace h := ineg c1 h
    refine JJ.iload_n hX 2 dX6_step_11 rfl ?_
    refine JJ.i2l hX dX6_step_12 ?_
    refine JJ.lconst (v := 0) hX dX6_step_13 (by decide) ?_
    refine JJ.lconst (v := 1) hX dX6_step_14 (by decide) ?_
    refine JJ.callSi hX (ct_M_in _ _ _ _ _ rfl) cal_yX6_in cas_yX6_in lm_RX6_49 rfl rfl (Nat.le_of_ble_eq_true rfl) ⟨by decide, by decide⟩ dX6_step_15 ?_
    refine JJ.if_ne (tgt := 24) hX dX6_step_18 (by decide) (fun c2 => ?_) (fun c2 => ?_)
    · replace h := ineg c2 h
      refine JJ.aload_n hX 0 dX6_step_24 rfl ?_
      refine fg_X6_19_31 hX dX6_step_25 ?_
      refine JJ.iconst (v := 2) hX dX6_step_28 (by decide) ?_
      refine JJ.aload_n hX 0 dX6_step_29 rfl ?_
      refine fg_X6_22_31 hX dX6_step_30 ?_
      refine JJ.iconst (v := 4) hX dX6_step_33 (by decide) ?_
      refine JJ.iload_n hX 1 dX6_step_34 rfl ?_
      refine JJ.imul hX dX6_step_35 ?_
      obtain ⟨c3, h⟩ := gte h
      refine ald_36 hX c3 dX6_step_36 ?_
      refine JJ.imul hX dX6_step_37 ?_
      refine JJ.iload_n hX 2 dX6_step_38 rfl ?_
      refine JJ.iadd hX dX6_step_39 ?_
      obtain ⟨c4, h⟩ := gte h
      refine ald_35 hX c4 dX6_step_40 ?_
      refine JJ.istore_n (ls' := [(0, .ref (xad X 31)), (1, .int p1), (2, .int p2), (3, .int (gA σ 35 (((2 : Int32) * (gA σ 36 ((4 : Int32) * p1).toNatClampNeg)) + p2).toNatClampNeg))]) hX dX6_step_41 (by decide) rfl rfl ?_
      refine JJ.aload_n hX 0 dX6_step_42 rfl ?_
      refine fg_X6_22_31 hX dX6_step_43 ?_
      refine JJ.iconst (v := 4) hX dX6_step_46 (by decide) ?_
      refine JJ.iload_n hX 1 dX6_step_47 rfl ?_
      refine JJ.imul hX dX6_step_48 ?_
      refine JJ.iconst (v := 1) hX dX6_step_49 (by decide) ?_
      refine JJ.iadd hX dX6_step_50 ?_
      obtain ⟨c5, h⟩ := gte h
      refine ald_36 hX c5 dX6_step_51 ?_
      refine JJ.aload_n hX 0 dX6_step_52 rfl ?_
      refine JJ.iload_n hX 3 dX6_step_53 rfl ?_
      obtain ⟨q6, h6, h⟩ := bnd h
      refine JJ.callVi hX (ct_M_burnsAt _ _ _ h6) cal_yX6_burnsAt cav_yX6_burnsAt lm_RX6_102 rfl rfl rfl (Rcv.obj hX (ci := 6) rfl rfl) (Nat.le_of_ble_eq_true rfl) ⟨by decide, by decide⟩ dX6_step_54 ?_
      refine JJ.icmp_ge (tgt := 63) hX dX6_step_57 (by decide) (fun c7 => ?_) (fun c7 => ?_)
      · replace h := ipos c7 h
        refine JJ.aload_n hX 0 dX6_step_63 rfl ?_
        refine fg_X6_22_31 hX dX6_step_64 ?_
        refine JJ.iconst (v := 4) hX dX6_step_67 (by decide) ?_
        refine JJ.iload_n hX 1 dX6_step_68 rfl ?_
        refine JJ.imul hX dX6_step_69 ?_
        refine JJ.iload_n hX 3 dX6_step_70 rfl ?_
        obtain ⟨c8, h⟩ := gte h
        refine ast_36 hX c8 dX6_step_71 ?_
        refine JJ.aload_n hX 0 dX6_step_72 rfl ?_
        refine fg_X6_22_31 hX dX6_step_73 ?_
        refine JJ.iconst (v := 4) hX dX6_step_76 (by decide) ?_
        refine JJ.iload_n hX 1 dX6_step_77 rfl ?_
        refine JJ.imul hX dX6_step_78 ?_
        refine JJ.iconst (v := 1) hX dX6_step_79 (by decide) ?_
        refine JJ.iadd hX dX6_step_80 ?_
        refine JJ.dup2 hX dX6_step_81 rfl rfl ?_
        obtain ⟨c9, h⟩ := gte h
        refine ald_36 hX c9 dX6_step_82 ?_
        refine JJ.aload_n hX 0 dX6_step_83 rfl ?_
        refine JJ.iload_n hX 3 dX6_step_84 rfl ?_
        obtain ⟨q10, h10, h⟩ := bnd h
        refine JJ.callVi hX (ct_M_burnsAt _ _ _ h10) cal_yX6_burnsAt cav_yX6_burnsAt lm_RX6_102 rfl rfl rfl (Rcv.obj hX (ci := 6) rfl rfl) (Nat.le_of_ble_eq_true rfl) ⟨by decide, by decide⟩ dX6_step_85 ?_
        refine JJ.isub hX dX6_step_88 ?_
        obtain ⟨c11, h⟩ := gte h
        refine ast_36 hX c11 dX6_step_89 ?_
        refine JJ.aload_n hX 0 dX6_step_90 rfl ?_
        refine fg_X6_22_31 hX dX6_step_91 ?_
        refine JJ.iconst (v := 4) hX dX6_step_94 (by decide) ?_
        refine JJ.iload_n hX 1 dX6_step_95 rfl ?_
        refine JJ.imul hX dX6_step_96 ?_
        refine JJ.iconst (v := 2) hX dX6_step_97 (by decide) ?_
        refine JJ.iadd hX dX6_step_98 ?_
        refine JJ.dup2 hX dX6_step_99 rfl rfl ?_
        obtain ⟨c12, h⟩ := gte h
        refine ald_36 hX c12 dX6_step_100 ?_
        refine JJ.iconst (v := 1) hX dX6_step_101 (by decide) ?_
        refine JJ.iadd hX dX6_step_102 ?_
        obtain ⟨c13, h⟩ := gte h
        refine ast_36 hX c13 dX6_step_103 ?_
        refine JJ.iload_n hX 3 dX6_step_104 rfl ?_
        obtain rfl := Option.some.inj h
        exact JJ.iret hX hM dX6_step_105
      · replace h := ineg c7 h
        refine JJ.bipush (v := -103) hX dX6_step_60 (by decide) ?_
        obtain rfl := Option.some.inj h
        exact JJ.iret hX hM dX6_step_62
    · replace h := ipos c2 h
      refine JJ.bipush (v := -102) hX dX6_step_21 (by decide) ?_
      obtain rfl := Option.some.inj h
      exact JJ.iret hX hM dX6_step_23
  · replace h := ipos c1 h
    refine JJ.bipush (v := -101) hX dX6_step_8 (by decide) ?_
    obtain rfl := Option.some.inj h
    exact JJ.iret hX hM dX6_step_10
