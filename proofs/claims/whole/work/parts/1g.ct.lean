set_option maxRecDepth 100000 in
theorem ct_M_hear (p1 : Int32) (p2 : Int32) (σ : ST) (res : Int32 × ST) (h : f_M_hear p1 p2 σ = some res) : Ct 1 yX6_hear cX6_hear 4 (some .int) (fun ad => [.int p2, .int p1, .ref (ad 31)]) σ (some (.int res.1)) res.2 := by
  refine Ct.of (ls := fun ad => [(0, .ref (ad 31)), (1, .int p1), (2, .int p2)]) (by decide +kernel) (fun ad => Nat.le_of_ble_eq_true rfl) (fun ad => rfl) (fun X hX hM => ?_)
  replace hX : Ok X RX6 cX6_hear 4 1 := hX
  unfold f_M_hear at h
  refine JJ.aload_n hX 0 dX6_hear_0 rfl ?_
  refine fg_X6_93_31 hX dX6_hear_1 ?_
  refine JJ.if_ne (tgt := 20) hX dX6_hear_4 (by decide) (fun c1 => ?_) (fun c1 => ?_)
  · replace h := ineg c1 h
    refine JJ.iload_n hX 1 dX6_hear_20 rfl ?_
    refine JJ.i2l hX dX6_hear_21 ?_
    refine JJ.lconst (v := 0) hX dX6_hear_22 (by decide) ?_
    refine JJ.lconst (v := 1) hX dX6_hear_23 (by decide) ?_
    refine JJ.callSi hX (ct_M_in _ _ _ _ _ rfl) cal_yX6_in cas_yX6_in lm_RX6_49 rfl rfl (Nat.le_of_ble_eq_true rfl) ⟨by decide, by decide⟩ dX6_hear_24 ?_
    refine JJ.istore_n (ls' := [(0, .ref (xad X 31)), (1, .int p1), (2, .int p2), (3, .int (f_M_in ((p1).toInt64) (0 : Int64) (1 : Int64)))]) hX dX6_hear_27 (by decide) rfl rfl ?_
    refine JJ.iload_n hX 3 dX6_hear_28 rfl ?_
    refine JJ.if_eq (tgt := 44) hX dX6_hear_29 (by decide) (fun c2 => ?_) (fun c2 => ?_)
    · replace h := ipos c2 h
      refine JJ.bipush (v := -102) hX dX6_hear_44 (by decide) ?_
      obtain rfl := Option.some.inj h
      exact JJ.iret hX hM dX6_hear_46
    · replace h := ineg c2 h
      refine JJ.iload_n hX 2 dX6_hear_32 rfl ?_
      refine JJ.i2l hX dX6_hear_33 ?_
      refine JJ.lconst (v := 0) hX dX6_hear_34 (by decide) ?_
      refine JJ.ldc2 hX lc_RX6_136 dX6_hear_35 ?_
      refine JJ.callSi hX (ct_M_in _ _ _ _ _ rfl) cal_yX6_in cas_yX6_in lm_RX6_49 rfl rfl (Nat.le_of_ble_eq_true rfl) ⟨by decide, by decide⟩ dX6_hear_38 ?_
      refine JJ.if_ne (tgt := 47) hX dX6_hear_41 (by decide) (fun c3 => ?_) (fun c3 => ?_)
      · replace h := ineg c3 h
        refine JJ.aload_n hX 0 dX6_hear_47 rfl ?_
        refine fg_X6_93_31 hX dX6_hear_48 ?_
        refine JJ.bipush (v := 8) hX dX6_hear_51 (by decide) ?_
        refine JJ.icmp_ne (tgt := 59) hX dX6_hear_53 (by decide) (fun c4 => ?_) (fun c4 => ?_)
        · replace h := ineg c4 h
          refine JJ.aload_n hX 0 dX6_hear_59 rfl ?_
          refine fg_X6_34_31 hX dX6_hear_60 ?_
          refine JJ.iconst (v := 2) hX dX6_hear_63 (by decide) ?_
          refine JJ.aload_n hX 0 dX6_hear_64 rfl ?_
          refine fg_X6_93_31 hX dX6_hear_65 ?_
          refine JJ.imul hX dX6_hear_68 ?_
          refine JJ.iload_n hX 1 dX6_hear_69 rfl ?_
          obtain ⟨c5, h⟩ := gte h
          refine ast_40 hX c5 dX6_hear_70 ?_
          refine JJ.aload_n hX 0 dX6_hear_71 rfl ?_
          refine fg_X6_34_31 hX dX6_hear_72 ?_
          refine JJ.iconst (v := 2) hX dX6_hear_75 (by decide) ?_
          refine JJ.aload_n hX 0 dX6_hear_76 rfl ?_
          refine fg_X6_93_31 hX dX6_hear_77 ?_
          refine JJ.imul hX dX6_hear_80 ?_
          refine JJ.iconst (v := 1) hX dX6_hear_81 (by decide) ?_
          refine JJ.iadd hX dX6_hear_82 ?_
          refine JJ.iload_n hX 2 dX6_hear_83 rfl ?_
          obtain ⟨c6, h⟩ := gte h
          refine ast_40 hX c6 dX6_hear_84 ?_
          refine JJ.aload_n hX 0 dX6_hear_85 rfl ?_
          refine JJ.dup hX dX6_hear_86 rfl ?_
          refine fg_X6_93_31 hX dX6_hear_87 ?_
          refine JJ.iconst (v := 1) hX dX6_hear_90 (by decide) ?_
          refine JJ.iadd hX dX6_hear_91 ?_
          refine fp_X6_93_31 hX dX6_hear_92 ?_
          refine JJ.aload_n hX 0 dX6_hear_95 rfl ?_
          refine fg_X6_93_31 hX dX6_hear_96 ?_
          obtain rfl := Option.some.inj h
          exact JJ.iret hX hM dX6_hear_99
        · replace h := ipos c4 h
          refine JJ.bipush (v := -104) hX dX6_hear_56 (by decide) ?_
          obtain rfl := Option.some.inj h
          exact JJ.iret hX hM dX6_hear_58
      · replace h := ipos c3 h
        refine JJ.bipush (v := -102) hX dX6_hear_44 (by decide) ?_
        obtain rfl := Option.some.inj h
        exact JJ.iret hX hM dX6_hear_46
  · replace h := ipos c1 h
    refine JJ.iload_n hX 1 dX6_hear_7 rfl ?_
    refine JJ.iconst (v := -1) hX dX6_hear_8 (by decide) ?_
    refine JJ.icmp_ne (tgt := 16) hX dX6_hear_9 (by decide) (fun c7 => ?_) (fun c7 => ?_)
    · replace h := ineg c7 h
      refine JJ.iconst (v := 0) hX dX6_hear_16 (by decide) ?_
      refine JJ.goto (tgt := 27) hX dX6_hear_17 (by decide) ?_
      refine JJ.istore_n (ls' := [(0, .ref (xad X 31)), (1, .int p1), (2, .int p2), (3, .int (0 : Int32))]) hX dX6_hear_27 (by decide) rfl rfl ?_
      refine JJ.iload_n hX 3 dX6_hear_28 rfl ?_
      refine JJ.if_eq (tgt := 44) hX dX6_hear_29 (by decide) (fun _ => ?_) (fun c8 => absurd c8 (by decide))
      refine JJ.bipush (v := -102) hX dX6_hear_44 (by decide) ?_
      obtain rfl := Option.some.inj h
      exact JJ.iret hX hM dX6_hear_46
    · replace h := ipos c7 h
      refine JJ.iconst (v := 1) hX dX6_hear_12 (by decide) ?_
      refine JJ.goto (tgt := 27) hX dX6_hear_13 (by decide) ?_
      refine JJ.istore_n (ls' := [(0, .ref (xad X 31)), (1, .int p1), (2, .int p2), (3, .int (1 : Int32))]) hX dX6_hear_27 (by decide) rfl rfl ?_
      refine JJ.iload_n hX 3 dX6_hear_28 rfl ?_
      refine JJ.if_eq (tgt := 44) hX dX6_hear_29 (by decide) (fun c9 => absurd c9 (by decide)) (fun _ => ?_)
      refine JJ.iload_n hX 2 dX6_hear_32 rfl ?_
      refine JJ.i2l hX dX6_hear_33 ?_
      refine JJ.lconst (v := 0) hX dX6_hear_34 (by decide) ?_
      refine JJ.ldc2 hX lc_RX6_136 dX6_hear_35 ?_
      refine JJ.callSi hX (ct_M_in _ _ _ _ _ rfl) cal_yX6_in cas_yX6_in lm_RX6_49 rfl rfl (Nat.le_of_ble_eq_true rfl) ⟨by decide, by decide⟩ dX6_hear_38 ?_
      refine JJ.if_ne (tgt := 47) hX dX6_hear_41 (by decide) (fun c10 => ?_) (fun c10 => ?_)
      · replace h := ineg c10 h
        refine JJ.aload_n hX 0 dX6_hear_47 rfl ?_
        refine fg_X6_93_31 hX dX6_hear_48 ?_
        refine JJ.bipush (v := 8) hX dX6_hear_51 (by decide) ?_
        refine JJ.icmp_ne (tgt := 59) hX dX6_hear_53 (by decide) (fun c11 => ?_) (fun c11 => ?_)
        · replace h := ineg c11 h
          refine JJ.aload_n hX 0 dX6_hear_59 rfl ?_
          refine fg_X6_34_31 hX dX6_hear_60 ?_
          refine JJ.iconst (v := 2) hX dX6_hear_63 (by decide) ?_
          refine JJ.aload_n hX 0 dX6_hear_64 rfl ?_
          refine fg_X6_93_31 hX dX6_hear_65 ?_
          refine JJ.imul hX dX6_hear_68 ?_
          refine JJ.iload_n hX 1 dX6_hear_69 rfl ?_
          obtain ⟨c12, h⟩ := gte h
          refine ast_40 hX c12 dX6_hear_70 ?_
          refine JJ.aload_n hX 0 dX6_hear_71 rfl ?_
          refine fg_X6_34_31 hX dX6_hear_72 ?_
          refine JJ.iconst (v := 2) hX dX6_hear_75 (by decide) ?_
          refine JJ.aload_n hX 0 dX6_hear_76 rfl ?_
          refine fg_X6_93_31 hX dX6_hear_77 ?_
          refine JJ.imul hX dX6_hear_80 ?_
          refine JJ.iconst (v := 1) hX dX6_hear_81 (by decide) ?_
          refine JJ.iadd hX dX6_hear_82 ?_
          refine JJ.iload_n hX 2 dX6_hear_83 rfl ?_
          obtain ⟨c13, h⟩ := gte h
          refine ast_40 hX c13 dX6_hear_84 ?_
          refine JJ.aload_n hX 0 dX6_hear_85 rfl ?_
          refine JJ.dup hX dX6_hear_86 rfl ?_
          refine fg_X6_93_31 hX dX6_hear_87 ?_
          refine JJ.iconst (v := 1) hX dX6_hear_90 (by decide) ?_
          refine JJ.iadd hX dX6_hear_91 ?_
          refine fp_X6_93_31 hX dX6_hear_92 ?_
          refine JJ.aload_n hX 0 dX6_hear_95 rfl ?_
          refine fg_X6_93_31 hX dX6_hear_96 ?_
          obtain rfl := Option.some.inj h
          exact JJ.iret hX hM dX6_hear_99
        · replace h := ipos c11 h
          refine JJ.bipush (v := -104) hX dX6_hear_56 (by decide) ?_
          obtain rfl := Option.some.inj h
          exact JJ.iret hX hM dX6_hear_58
      · replace h := ipos c10 h
        refine JJ.bipush (v := -102) hX dX6_hear_44 (by decide) ?_
        obtain rfl := Option.some.inj h
        exact JJ.iret hX hM dX6_hear_46
set_option maxRecDepth 100000 in
theorem ct_LT_forget (σ : ST) (res : Int32 × ST) (h : f_LT_forget σ = res) : Ct 0 yX5_forget cX5_forget 2 (some .int) (fun ad => [.ref (ad 0)]) σ (some (.int res.1)) res.2 := by
  refine Ct.of (ls := fun ad => [(0, .ref (ad 0))]) (by decide +kernel) (fun ad => Nat.le_of_ble_eq_true rfl) (fun ad => rfl) (fun X hX hM => ?_)
  replace hX : Ok X RX5 cX5_forget 2 0 := hX
  unfold f_LT_forget at h
  refine JJ.aload_n hX 0 dX5_forget_0 rfl ?_
  refine fg_X5_35_0 hX dX5_forget_1 ?_
  refine fg_X5_176_17 hX dX5_forget_4 ?_
  refine JJ.istore_n (ls' := [(0, .ref (xad X 0)), (1, .int (gI σ 1705))]) hX dX5_forget_7 (by decide) rfl rfl ?_
  refine JJ.aload_n hX 0 dX5_forget_8 rfl ?_
  refine fg_X5_35_0 hX dX5_forget_9 ?_
  refine JJ.iconst (v := 0) hX dX5_forget_12 (by decide) ?_
  refine fp_X5_176_17 hX dX5_forget_13 ?_
  refine JJ.iload_n hX 1 dX5_forget_16 rfl ?_
  subst h
  exact JJ.iret hX hM dX5_forget_17
set_option maxRecDepth 100000 in
theorem ct_M_forget (σ : ST) (res : Int32 × ST) (h : f_M_forget σ = res) : Ct 0 yX6_forget cX6_forget 2 (some .int) (fun ad => [.ref (ad 31)]) σ (some (.int res.1)) res.2 := by
  refine Ct.of (ls := fun ad => [(0, .ref (ad 31))]) (by decide +kernel) (fun ad => Nat.le_of_ble_eq_true rfl) (fun ad => rfl) (fun X hX hM => ?_)
  replace hX : Ok X RX6 cX6_forget 2 0 := hX
  unfold f_M_forget at h
  refine JJ.aload_n hX 0 dX6_forget_0 rfl ?_
  refine fg_X6_93_31 hX dX6_forget_1 ?_
  refine JJ.istore_n (ls' := [(0, .ref (xad X 31)), (1, .int (gI σ 3116))]) hX dX6_forget_4 (by decide) rfl rfl ?_
  refine JJ.aload_n hX 0 dX6_forget_5 rfl ?_
  refine JJ.iconst (v := 0) hX dX6_forget_6 (by decide) ?_
  refine fp_X6_93_31 hX dX6_forget_7 ?_
  refine JJ.iload_n hX 1 dX6_forget_10 rfl ?_
  subst h
  exact JJ.iret hX hM dX6_forget_11
set_option maxRecDepth 100000 in
theorem ct_Mine_isThere (σ : ST) (res : Int32) (h : f_Mine_isThere σ = res) : Ct 0 yX1_isThere cX1_isThere 1 (some .boolean) (fun ad => [.ref (ad 3)]) σ (some (.int res)) σ := by
  refine Ct.of (ls := fun ad => [(0, .ref (ad 3))]) (by decide +kernel) (fun ad => Nat.le_of_ble_eq_true rfl) (fun ad => rfl) (fun X hX hM => ?_)
  replace hX : Ok X RX1 cX1_isThere 1 0 := hX
  unfold f_Mine_isThere at h
  refine JJ.aload_n hX 0 dX1_isThere_0 rfl ?_
  refine fg_X1_27_3 hX dX1_isThere_1 ?_
  refine JJ.if_le (tgt := 11) hX dX1_isThere_4 (by decide) (fun c1 => ?_) (fun c1 => ?_)
  · replace h := ipos c1 h
    refine JJ.iconst (v := 0) hX dX1_isThere_11 (by decide) ?_
    subst h
    exact JJ.zret hX hM (by decide) dX1_isThere_12
  · replace h := ineg c1 h
    refine JJ.iconst (v := 1) hX dX1_isThere_7 (by decide) ?_
    refine JJ.goto (tgt := 12) hX dX1_isThere_8 (by decide) ?_
    subst h
    exact JJ.zret hX hM (by decide) dX1_isThere_12
set_option maxRecDepth 100000 in
theorem lp_Mine_placesOfSound_5 {X : CX} {σ : ST} (hX : Ok X RX1 cX1_placesOfSound 5 3) : ∀ (n : Nat) (x1 : Int32) (x2 : Int32) (x3 : Int32) (x4 : Int32) (e : (Int32)), f_Mine_placesOfSound_L5 n x1 x2 x3 x4 σ = some e → JJ X 46 [(3, .int e)] [] σ → JJ X 5 [(0, .ref (xad X 3)), (1, .int x1), (2, .int x2), (3, .int x3), (4, .int x4)] [] σ := by
  intro n
  induction n with
  | zero =>
    intro x1 x2 x3 x4 e h
    rw [f_Mine_placesOfSound_L5] at h
    cases h
  | succ n ih =>
    intro x1 x2 x3 x4 e h K
    rw [f_Mine_placesOfSound_L5] at h
    refine JJ.iload hX 4 dX1_placesOfSound_5 rfl ?_
    refine JJ.aload_n hX 0 dX1_placesOfSound_7 rfl ?_
    refine fg_X1_27_3 hX dX1_placesOfSound_8 ?_
    refine JJ.icmp_ge (tgt := 46) hX dX1_placesOfSound_11 (by decide) (fun c1 => ?_) (fun c1 => ?_)
    · replace h := ipos c1 h
      obtain rfl := Option.some.inj h
      exact JJ.sub [3] rfl K
    · replace h := ineg c1 h
      refine JJ.iload_n hX 1 dX1_placesOfSound_14 rfl ?_
      refine JJ.iload hX 4 dX1_placesOfSound_15 rfl ?_
      refine JJ.callSi hX (ct_Mine_isIn _ _ _ _ rfl) cal_yX1_isIn cas_yX1_isIn lm_RX1_80 rfl rfl (Nat.le_of_ble_eq_true rfl) ⟨by decide, by decide⟩ dX1_placesOfSound_17 ?_
      refine JJ.if_eq (tgt := 40) hX dX1_placesOfSound_20 (by decide) (fun c2 => ?_) (fun c2 => ?_)
      · replace h := ipos c2 h
        refine JJ.iinc (v := 1) (ls' := [(0, .ref (xad X 3)), (1, .int x1), (2, .int x2), (3, .int x3), (4, .int (x4 + (1 : Int32)))]) hX 4 dX1_placesOfSound_40 rfl (by decide) (by decide) rfl rfl ?_
        refine JJ.goto (tgt := 5) hX dX1_placesOfSound_43 (by decide) ?_
        exact ih _ _ _ _ _ h K
      · replace h := ineg c2 h
        refine JJ.aload_n hX 0 dX1_placesOfSound_23 rfl ?_
        refine JJ.iload hX 4 dX1_placesOfSound_24 rfl ?_
        refine JJ.callVi hX (ct_Mine_soundOf _ _ _ rfl) cal_yX1_soundOf cav_yX1_soundOf lm_RX1_87 rfl rfl rfl (Rcv.obj hX (ci := 1) rfl rfl) (Nat.le_of_ble_eq_true rfl) ⟨by decide, by decide⟩ dX1_placesOfSound_26 ?_
        refine JJ.iload_n hX 2 dX1_placesOfSound_29 rfl ?_
        refine JJ.icmp_ne (tgt := 40) hX dX1_placesOfSound_30 (by decide) (fun c3 => ?_) (fun c3 => ?_)
        · replace h := ineg c3 h
          refine JJ.iinc (v := 1) (ls' := [(0, .ref (xad X 3)), (1, .int x1), (2, .int x2), (3, .int x3), (4, .int (x4 + (1 : Int32)))]) hX 4 dX1_placesOfSound_40 rfl (by decide) (by decide) rfl rfl ?_
          refine JJ.goto (tgt := 5) hX dX1_placesOfSound_43 (by decide) ?_
          exact ih _ _ _ _ _ h K
        · replace h := ipos c3 h
          refine JJ.iload_n hX 3 dX1_placesOfSound_33 rfl ?_
          refine JJ.iconst (v := 1) hX dX1_placesOfSound_34 (by decide) ?_
          refine JJ.iload hX 4 dX1_placesOfSound_35 rfl ?_
          refine JJ.ishl hX dX1_placesOfSound_37 ?_
          refine JJ.ior hX dX1_placesOfSound_38 ?_
          refine JJ.istore_n (ls' := [(0, .ref (xad X 3)), (1, .int x1), (2, .int x2), (3, .int (x3 ||| ((1 : Int32) <<< (x4 &&& 31)))), (4, .int x4)]) hX dX1_placesOfSound_39 (by decide) rfl rfl ?_
          refine JJ.iinc (v := 1) (ls' := [(0, .ref (xad X 3)), (1, .int x1), (2, .int x2), (3, .int (x3 ||| ((1 : Int32) <<< (x4 &&& 31)))), (4, .int (x4 + (1 : Int32)))]) hX 4 dX1_placesOfSound_40 rfl (by decide) (by decide) rfl rfl ?_
          refine JJ.goto (tgt := 5) hX dX1_placesOfSound_43 (by decide) ?_
          exact ih _ _ _ _ _ h K
set_option maxRecDepth 100000 in
theorem ct_Mine_placesOfSound (p1 : Int32) (p2 : Int32) (σ : ST) (res : Int32) (h : f_Mine_placesOfSound p1 p2 σ = some res) : Ct 3 yX1_placesOfSound cX1_placesOfSound 5 (some .int) (fun ad => [.int p2, .int p1, .ref (ad 3)]) σ (some (.int res)) σ := by
  refine Ct.of (ls := fun ad => [(0, .ref (ad 3)), (1, .int p1), (2, .int p2)]) (by decide +kernel) (fun ad => Nat.le_of_ble_eq_true rfl) (fun ad => rfl) (fun X hX hM => ?_)
  replace hX : Ok X RX1 cX1_placesOfSound 5 3 := hX
  unfold f_Mine_placesOfSound at h
  refine JJ.iconst (v := 0) hX dX1_placesOfSound_0 (by decide) ?_
  refine JJ.istore_n (ls' := [(0, .ref (xad X 3)), (1, .int p1), (2, .int p2), (3, .int (0 : Int32))]) hX dX1_placesOfSound_1 (by decide) rfl rfl ?_
  refine JJ.iconst (v := 0) hX dX1_placesOfSound_2 (by decide) ?_
  refine JJ.istore (ls' := [(0, .ref (xad X 3)), (1, .int p1), (2, .int p2), (3, .int (0 : Int32)), (4, .int (0 : Int32))]) hX dX1_placesOfSound_3 (by decide) rfl rfl ?_
  obtain ⟨e4, h4, h⟩ := bnd h
  refine lp_Mine_placesOfSound_5 hX 400 _ _ _ _ _ h4 ?_
  refine JJ.iload_n hX 0 dX1_placesOfSound_46 rfl ?_
  obtain rfl := Option.some.inj h
  exact JJ.iret hX hM dX1_placesOfSound_47
set_option maxRecDepth 100000 in
theorem lp_Mine_placesAfter_5 {X : CX} {σ : ST} (hX : Ok X RX1 cX1_placesAfter 5 2) : ∀ (n : Nat) (x1 : Int32) (x2 : Int32) (x3 : Int32) (x4 : Int32) (e : (Int32)), f_Mine_placesAfter_L5 n x1 x2 x3 x4 σ = some e → JJ X 41 [(3, .int e)] [] σ → JJ X 5 [(0, .ref (xad X 3)), (1, .int x1), (2, .int x2), (3, .int x3), (4, .int x4)] [] σ := by
  intro n
  induction n with
  | zero =>
    intro x1 x2 x3 x4 e h
    rw [f_Mine_placesAfter_L5] at h
    cases h
  | succ n ih =>
    intro x1 x2 x3 x4 e h K
    rw [f_Mine_placesAfter_L5] at h
    refine JJ.iload hX 4 dX1_placesAfter_5 rfl ?_
    refine JJ.aload_n hX 0 dX1_placesAfter_7 rfl ?_
    refine fg_X1_27_3 hX dX1_placesAfter_8 ?_
    refine JJ.icmp_ge (tgt := 41) hX dX1_placesAfter_11 (by decide) (fun c1 => ?_) (fun c1 => ?_)
    · replace h := ipos c1 h
      obtain rfl := Option.some.inj h
      exact JJ.sub [3] rfl K
    · replace h := ineg c1 h
      refine JJ.iload_n hX 1 dX1_placesAfter_14 rfl ?_
      refine JJ.iload hX 4 dX1_placesAfter_15 rfl ?_
      refine JJ.callSi hX (ct_Mine_isIn _ _ _ _ rfl) cal_yX1_isIn cas_yX1_isIn lm_RX1_80 rfl rfl (Nat.le_of_ble_eq_true rfl) ⟨by decide, by decide⟩ dX1_placesAfter_17 ?_
      refine JJ.if_eq (tgt := 35) hX dX1_placesAfter_20 (by decide) (fun c2 => ?_) (fun c2 => ?_)
      · replace h := ipos c2 h
        refine JJ.iinc (v := 1) (ls' := [(0, .ref (xad X 3)), (1, .int x1), (2, .int x2), (3, .int x3), (4, .int (x4 + (1 : Int32)))]) hX 4 dX1_placesAfter_35 rfl (by decide) (by decide) rfl rfl ?_
        refine JJ.goto (tgt := 5) hX dX1_placesAfter_38 (by decide) ?_
        exact ih _ _ _ _ _ h K
      · replace h := ineg c2 h
        refine JJ.iload_n hX 3 dX1_placesAfter_23 rfl ?_
        refine JJ.iconst (v := 1) hX dX1_placesAfter_24 (by decide) ?_
        refine JJ.aload_n hX 0 dX1_placesAfter_25 rfl ?_
        refine JJ.iload hX 4 dX1_placesAfter_26 rfl ?_
        refine JJ.iload_n hX 2 dX1_placesAfter_28 rfl ?_
        refine JJ.callVi hX (ct_Mine_leadsTo _ _ _ _ rfl) cal_yX1_leadsTo cav_yX1_leadsTo lm_RX1_84 rfl rfl rfl (Rcv.obj hX (ci := 1) rfl rfl) (Nat.le_of_ble_eq_true rfl) ⟨by decide, by decide⟩ dX1_placesAfter_29 ?_
        refine JJ.ishl hX dX1_placesAfter_32 ?_
        refine JJ.ior hX dX1_placesAfter_33 ?_
        refine JJ.istore_n (ls' := [(0, .ref (xad X 3)), (1, .int x1), (2, .int x2), (3, .int (x3 ||| ((1 : Int32) <<< ((f_Mine_leadsTo x4 x2 σ) &&& 31)))), (4, .int x4)]) hX dX1_placesAfter_34 (by decide) rfl rfl ?_
        refine JJ.iinc (v := 1) (ls' := [(0, .ref (xad X 3)), (1, .int x1), (2, .int x2), (3, .int (x3 ||| ((1 : Int32) <<< ((f_Mine_leadsTo x4 x2 σ) &&& 31)))), (4, .int (x4 + (1 : Int32)))]) hX 4 dX1_placesAfter_35 rfl (by decide) (by decide) rfl rfl ?_
        refine JJ.goto (tgt := 5) hX dX1_placesAfter_38 (by decide) ?_
        exact ih _ _ _ _ _ h K
set_option maxRecDepth 100000 in
theorem ct_Mine_placesAfter (p1 : Int32) (p2 : Int32) (σ : ST) (res : Int32) (h : f_Mine_placesAfter p1 p2 σ = some res) : Ct 2 yX1_placesAfter cX1_placesAfter 5 (some .int) (fun ad => [.int p2, .int p1, .ref (ad 3)]) σ (some (.int res)) σ := by
  refine Ct.of (ls := fun ad => [(0, .ref (ad 3)), (1, .int p1), (2, .int p2)]) (by decide +kernel) (fun ad => Nat.le_of_ble_eq_true rfl) (fun ad => rfl) (fun X hX hM => ?_)
  replace hX : Ok X RX1 cX1_placesAfter 5 2 := hX
  unfold f_Mine_placesAfter at h
  refine JJ.iconst (v := 0) hX dX1_placesAfter_0 (by decide) ?_
  refine JJ.istore_n (ls' := [(0, .ref (xad X 3)), (1, .int p1), (2, .int p2), (3, .int (0 : Int32))]) hX dX1_placesAfter_1 (by decide) rfl rfl ?_
  refine JJ.iconst (v := 0) hX dX1_placesAfter_2 (by decide) ?_
  refine JJ.istore (ls' := [(0, .ref (xad X 3)), (1, .int p1), (2, .int p2), (3, .int (0 : Int32)), (4, .int (0 : Int32))]) hX dX1_placesAfter_3 (by decide) rfl rfl ?_
  obtain ⟨e3, h3, h⟩ := bnd h
  refine lp_Mine_placesAfter_5 hX 400 _ _ _ _ _ h3 ?_
  refine JJ.iload_n hX 0 dX1_placesAfter_41 rfl ?_
  obtain rfl := Option.some.inj h
  exact JJ.iret hX hM dX1_placesAfter_42
set_option maxRecDepth 100000 in
theorem lp_Mine_placesBy_17_11 {X : CX} {σ : ST} (hX : Ok X RX1 cX1_placesBy 4 4) : ∀ (n : Nat) (x2 : Int32) (x3 : Int32) (e : (Int32)), f_Mine_placesBy_17_L11 n x2 x3 σ = some e → JJ X 57 [(2, .int e)] [] σ → JJ X 11 [(0, .ref (xad X 3)), (1, .ref (xad X 17)), (2, .int x2), (3, .int x3)] [] σ := by
  intro n
  induction n with
  | zero =>
    intro x2 x3 e h
    rw [f_Mine_placesBy_17_L11] at h
    cases h
  | succ n ih =>
    intro x2 x3 e h K
    rw [f_Mine_placesBy_17_L11] at h
    refine JJ.iload_n hX 3 dX1_placesBy_11 rfl ?_
    refine JJ.aload_n hX 1 dX1_placesBy_12 rfl ?_
    refine fg_X1_52_17 hX dX1_placesBy_13 ?_
    refine JJ.icmp_ge (tgt := 57) hX dX1_placesBy_16 (by decide) (fun c1 => ?_) (fun c1 => ?_)
    · replace h := ipos c1 h
      obtain rfl := Option.some.inj h
      exact JJ.sub [2] rfl K
    · replace h := ineg c1 h
      refine JJ.iload_n hX 3 dX1_placesBy_19 rfl ?_
      refine JJ.if_le (tgt := 37) hX dX1_placesBy_20 (by decide) (fun c2 => ?_) (fun c2 => ?_)
      · replace h := ipos c2 h
        refine JJ.aload_n hX 0 dX1_placesBy_37 rfl ?_
        refine JJ.iload_n hX 2 dX1_placesBy_38 rfl ?_
        refine JJ.aload_n hX 1 dX1_placesBy_39 rfl ?_
        refine fg_X1_64_17 hX dX1_placesBy_40 ?_
        refine JJ.iload_n hX 3 dX1_placesBy_43 rfl ?_
        refine JJ.callSNi hX (ct_cell 23 8 (by decide) (fun _ _ _ => rfl) _ _ _ rfl) cal_yX5_cell cas_yX5_cell lm_RX1_48 rfl rfl (Nat.le_of_ble_eq_true rfl) ⟨by decide, by decide⟩ dX1_placesBy_44 ?_
        obtain ⟨q3, h3, h⟩ := bnd h
        refine JJ.callVi hX (ct_Mine_placesOfSound _ _ _ _ h3) cal_yX1_placesOfSound cav_yX1_placesOfSound lm_RX1_67 rfl rfl rfl (Rcv.obj hX (ci := 1) rfl rfl) (Nat.le_of_ble_eq_true rfl) ⟨by decide, by decide⟩ dX1_placesBy_47 ?_
        refine JJ.istore_n (ls' := [(0, .ref (xad X 3)), (1, .ref (xad X 17)), (2, .int q3), (3, .int x3)]) hX dX1_placesBy_50 (by decide) rfl rfl ?_
        refine JJ.iinc (v := 1) (ls' := [(0, .ref (xad X 3)), (1, .ref (xad X 17)), (2, .int q3), (3, .int (x3 + (1 : Int32)))]) hX 3 dX1_placesBy_51 rfl (by decide) (by decide) rfl rfl ?_
        refine JJ.goto (tgt := 11) hX dX1_placesBy_54 (by decide) ?_
        exact ih _ _ _ h K
      · replace h := ineg c2 h
        refine JJ.aload_n hX 0 dX1_placesBy_23 rfl ?_
        refine JJ.iload_n hX 2 dX1_placesBy_24 rfl ?_
        refine JJ.aload_n hX 1 dX1_placesBy_25 rfl ?_
        refine fg_X1_57_17 hX dX1_placesBy_26 ?_
        refine JJ.iload_n hX 3 dX1_placesBy_29 rfl ?_
        refine JJ.callSNi hX (ct_cell 22 8 (by decide) (fun _ _ _ => rfl) _ _ _ rfl) cal_yX5_cell cas_yX5_cell lm_RX1_48 rfl rfl (Nat.le_of_ble_eq_true rfl) ⟨by decide, by decide⟩ dX1_placesBy_30 ?_
        obtain ⟨q4, h4, h⟩ := bnd h
        refine JJ.callVi hX (ct_Mine_placesAfter _ _ _ _ h4) cal_yX1_placesAfter cav_yX1_placesAfter lm_RX1_60 rfl rfl rfl (Rcv.obj hX (ci := 1) rfl rfl) (Nat.le_of_ble_eq_true rfl) ⟨by decide, by decide⟩ dX1_placesBy_33 ?_
        refine JJ.istore_n (ls' := [(0, .ref (xad X 3)), (1, .ref (xad X 17)), (2, .int q4), (3, .int x3)]) hX dX1_placesBy_36 (by decide) rfl rfl ?_
        refine JJ.aload_n hX 0 dX1_placesBy_37 rfl ?_
        refine JJ.iload_n hX 2 dX1_placesBy_38 rfl ?_
        refine JJ.aload_n hX 1 dX1_placesBy_39 rfl ?_
        refine fg_X1_64_17 hX dX1_placesBy_40 ?_
        refine JJ.iload_n hX 3 dX1_placesBy_43 rfl ?_
        refine JJ.callSNi hX (ct_cell 23 8 (by decide) (fun _ _ _ => rfl) _ _ _ rfl) cal_yX5_cell cas_yX5_cell lm_RX1_48 rfl rfl (Nat.le_of_ble_eq_true rfl) ⟨by decide, by decide⟩ dX1_placesBy_44 ?_
        obtain ⟨q5, h5, h⟩ := bnd h
        refine JJ.callVi hX (ct_Mine_placesOfSound _ _ _ _ h5) cal_yX1_placesOfSound cav_yX1_placesOfSound lm_RX1_67 rfl rfl rfl (Rcv.obj hX (ci := 1) rfl rfl) (Nat.le_of_ble_eq_true rfl) ⟨by decide, by decide⟩ dX1_placesBy_47 ?_
        refine JJ.istore_n (ls' := [(0, .ref (xad X 3)), (1, .ref (xad X 17)), (2, .int q5), (3, .int x3)]) hX dX1_placesBy_50 (by decide) rfl rfl ?_
        refine JJ.iinc (v := 1) (ls' := [(0, .ref (xad X 3)), (1, .ref (xad X 17)), (2, .int q5), (3, .int (x3 + (1 : Int32)))]) hX 3 dX1_placesBy_51 rfl (by decide) (by decide) rfl rfl ?_
        refine JJ.goto (tgt := 11) hX dX1_placesBy_54 (by decide) ?_
        exact ih _ _ _ h K
set_option maxRecDepth 100000 in
theorem ct_Mine_placesBy_17 (σ : ST) (res : Int32) (h : f_Mine_placesBy_17 σ = some res) : Ct 4 yX1_placesBy cX1_placesBy 4 (some .int) (fun ad => [.ref (ad 17), .ref (ad 3)]) σ (some (.int res)) σ := by
  refine Ct.of (ls := fun ad => [(0, .ref (ad 3)), (1, .ref (ad 17))]) (by decide +kernel) (fun ad => Nat.le_of_ble_eq_true rfl) (fun ad => rfl) (fun X hX hM => ?_)
  replace hX : Ok X RX1 cX1_placesBy 4 4 := hX
  unfold f_Mine_placesBy_17 at h
  refine JJ.iconst (v := 1) hX dX1_placesBy_0 (by decide) ?_
  refine JJ.aload_n hX 0 dX1_placesBy_1 rfl ?_
  refine fg_X1_27_3 hX dX1_placesBy_2 ?_
  refine JJ.ishl hX dX1_placesBy_5 ?_
  refine JJ.iconst (v := 1) hX dX1_placesBy_6 (by decide) ?_
  refine JJ.isub hX dX1_placesBy_7 ?_
  refine JJ.istore_n (ls' := [(0, .ref (xad X 3)), (1, .ref (xad X 17)), (2, .int (((1 : Int32) <<< ((gI σ 300) &&& 31)) - (1 : Int32)))]) hX dX1_placesBy_8 (by decide) rfl rfl ?_
  refine JJ.iconst (v := 0) hX dX1_placesBy_9 (by decide) ?_
  refine JJ.istore_n (ls' := [(0, .ref (xad X 3)), (1, .ref (xad X 17)), (2, .int (((1 : Int32) <<< ((gI σ 300) &&& 31)) - (1 : Int32))), (3, .int (0 : Int32))]) hX dX1_placesBy_10 (by decide) rfl rfl ?_
  obtain ⟨e6, h6, h⟩ := bnd h
  refine lp_Mine_placesBy_17_11 hX 400 _ _ _ h6 ?_
  refine JJ.iload_n hX 0 dX1_placesBy_57 rfl ?_
  obtain rfl := Option.some.inj h
  exact JJ.iret hX hM dX1_placesBy_58
set_option maxRecDepth 100000 in
theorem ct_LT_where (σ : ST) (res : Int32) (h : f_LT_where σ = some res) : Ct 5 yX5_where cX5_where 1 (some .int) (fun ad => [.ref (ad 0)]) σ (some (.int res)) σ := by
  refine Ct.of (ls := fun ad => [(0, .ref (ad 0))]) (by decide +kernel) (fun ad => Nat.le_of_ble_eq_true rfl) (fun ad => rfl) (fun X hX hM => ?_)
  replace hX : Ok X RX5 cX5_where 1 5 := hX
  unfold f_LT_where at h
  refine JJ.aload_n hX 0 dX5_where_0 rfl ?_
  refine fg_X5_19_0 hX dX5_where_1 ?_
  refine JJ.callVi hX (ct_Mine_isThere  _ _ rfl) cal_yX1_isThere cav_yX1_isThere lm_RX5_183 rfl rfl rfl (Rcv.obj hX (ci := 1) rfl rfl) (Nat.le_of_ble_eq_true rfl) ⟨by decide, by decide⟩ dX5_where_4 ?_
  refine JJ.if_ne (tgt := 13) hX dX5_where_7 (by decide) (fun c1 => ?_) (fun c1 => ?_)
  · replace h := ineg c1 h
    refine JJ.aload_n hX 0 dX5_where_13 rfl ?_
    refine fg_X5_19_0 hX dX5_where_14 ?_
    refine JJ.aload_n hX 0 dX5_where_17 rfl ?_
    refine fg_X5_35_0 hX dX5_where_18 ?_
    obtain ⟨q2, h2, h⟩ := bnd h
    refine JJ.callVi hX (ct_Mine_placesBy_17  _ _ h2) cal_yX1_placesBy cav_yX1_placesBy lm_RX5_186 rfl rfl rfl (Rcv.obj hX (ci := 1) rfl rfl) (Nat.le_of_ble_eq_true rfl) ⟨by decide, by decide⟩ dX5_where_21 ?_
    obtain rfl := Option.some.inj h
    exact JJ.iret hX hM dX5_where_24
  · replace h := ipos c1 h
    refine JJ.bipush (v := -103) hX dX5_where_10 (by decide) ?_
    obtain rfl := Option.some.inj h
    exact JJ.iret hX hM dX5_where_12
set_option maxRecDepth 100000 in
theorem ct_M_lacks (σ : ST) (res : Int32) (h : f_M_lacks σ = res) : Ct 0 yX6_lacks cX6_lacks 1 (some .boolean) (fun ad => [.ref (ad 31)]) σ (some (.int res)) σ := by
  refine Ct.of (ls := fun ad => [(0, .ref (ad 31))]) (by decide +kernel) (fun ad => Nat.le_of_ble_eq_true rfl) (fun ad => rfl) (fun X hX hM => ?_)
  replace hX : Ok X RX6 cX6_lacks 1 0 := hX
  unfold f_M_lacks at h
  refine JJ.aload_n hX 0 dX6_lacks_0 rfl ?_
  refine fg_X6_84_31 hX dX6_lacks_1 ?_
  refine JJ.if_ne (tgt := 11) hX dX6_lacks_4 (by decide) (fun c1 => ?_) (fun c1 => ?_)
  · replace h := ineg c1 h
    refine JJ.iconst (v := 0) hX dX6_lacks_11 (by decide) ?_
    subst h
    exact JJ.zret hX hM (by decide) dX6_lacks_12
  · replace h := ipos c1 h
    refine JJ.iconst (v := 1) hX dX6_lacks_7 (by decide) ?_
    refine JJ.goto (tgt := 12) hX dX6_lacks_8 (by decide) ?_
    subst h
    exact JJ.zret hX hM (by decide) dX6_lacks_12
set_option maxRecDepth 100000 in
theorem lp_M_steppedFrom_5 {X : CX} {σ : ST} (hX : Ok X RX6 cX6_steppedFrom 5 0) : ∀ (n : Nat) (x1 : Int32) (x2 : Int32) (x3 : Int32) (x4 : Int32) (e : (Int32)), f_M_steppedFrom_L5 n x1 x2 x3 x4 σ = some e → JJ X 50 [(3, .int e)] [] σ → JJ X 5 [(0, .ref (xad X 31)), (1, .int x1), (2, .int x2), (3, .int x3), (4, .int x4)] [] σ := by
  intro n
  induction n with
  | zero =>
    intro x1 x2 x3 x4 e h
    rw [f_M_steppedFrom_L5] at h
    cases h
  | succ n ih =>
    intro x1 x2 x3 x4 e h K
    rw [f_M_steppedFrom_L5] at h
    refine JJ.iload hX 4 dX6_steppedFrom_5 rfl ?_
    refine JJ.aload_n hX 0 dX6_steppedFrom_7 rfl ?_
    refine fg_X6_84_31 hX dX6_steppedFrom_8 ?_
    refine JJ.icmp_ge (tgt := 50) hX dX6_steppedFrom_11 (by decide) (fun c1 => ?_) (fun c1 => ?_)
    · replace h := ipos c1 h
      obtain rfl := Option.some.inj h
      exact JJ.sub [3] rfl K
    · replace h := ineg c1 h
      refine JJ.iload_n hX 3 dX6_steppedFrom_14 rfl ?_
      refine JJ.iload_n hX 1 dX6_steppedFrom_15 rfl ?_
      refine JJ.iload hX 4 dX6_steppedFrom_16 rfl ?_
      refine JJ.ishr hX dX6_steppedFrom_18 ?_
      refine JJ.iconst (v := 1) hX dX6_steppedFrom_19 (by decide) ?_
      refine JJ.iand hX dX6_steppedFrom_20 ?_
      refine JJ.iconst (v := 1) hX dX6_steppedFrom_21 (by decide) ?_
      refine JJ.icmp_ne (tgt := 41) hX dX6_steppedFrom_22 (by decide) (fun c2 => ?_) (fun c2 => ?_)
      · replace h := ineg c2 h
        refine JJ.iconst (v := 0) hX dX6_steppedFrom_41 (by decide) ?_
        refine JJ.ior hX dX6_steppedFrom_42 ?_
        refine JJ.istore_n (ls' := [(0, .ref (xad X 31)), (1, .int x1), (2, .int x2), (3, .int (x3 ||| (0 : Int32))), (4, .int x4)]) hX dX6_steppedFrom_43 (by decide) rfl rfl ?_
        refine JJ.iinc (v := 1) (ls' := [(0, .ref (xad X 31)), (1, .int x1), (2, .int x2), (3, .int (x3 ||| (0 : Int32))), (4, .int (x4 + (1 : Int32)))]) hX 4 dX6_steppedFrom_44 rfl (by decide) (by decide) rfl rfl ?_
        refine JJ.goto (tgt := 5) hX dX6_steppedFrom_47 (by decide) ?_
        exact ih _ _ _ _ _ h K
      · replace h := ipos c2 h
        refine JJ.iconst (v := 1) hX dX6_steppedFrom_25 (by decide) ?_
        refine JJ.aload_n hX 0 dX6_steppedFrom_26 rfl ?_
        refine fg_X6_19_31 hX dX6_steppedFrom_27 ?_
        refine JJ.iconst (v := 2) hX dX6_steppedFrom_30 (by decide) ?_
        refine JJ.iload hX 4 dX6_steppedFrom_31 rfl ?_
        refine JJ.imul hX dX6_steppedFrom_33 ?_
        refine JJ.iload_n hX 2 dX6_steppedFrom_34 rfl ?_
        refine JJ.iadd hX dX6_steppedFrom_35 ?_
        obtain ⟨c3, h⟩ := gte h
        refine ald_35 hX c3 dX6_steppedFrom_36 ?_
        refine JJ.ishl hX dX6_steppedFrom_37 ?_
        refine JJ.goto (tgt := 42) hX dX6_steppedFrom_38 (by decide) ?_
        refine JJ.ior hX dX6_steppedFrom_42 ?_
        refine JJ.istore_n (ls' := [(0, .ref (xad X 31)), (1, .int x1), (2, .int x2), (3, .int (x3 ||| ((1 : Int32) <<< ((gA σ 35 (((2 : Int32) * x4) + x2).toNatClampNeg) &&& 31)))), (4, .int x4)]) hX dX6_steppedFrom_43 (by decide) rfl rfl ?_
        refine JJ.iinc (v := 1) (ls' := [(0, .ref (xad X 31)), (1, .int x1), (2, .int x2), (3, .int (x3 ||| ((1 : Int32) <<< ((gA σ 35 (((2 : Int32) * x4) + x2).toNatClampNeg) &&& 31)))), (4, .int (x4 + (1 : Int32)))]) hX 4 dX6_steppedFrom_44 rfl (by decide) (by decide) rfl rfl ?_
        refine JJ.goto (tgt := 5) hX dX6_steppedFrom_47 (by decide) ?_
        exact ih _ _ _ _ _ h K
set_option maxRecDepth 100000 in
theorem ct_M_steppedFrom (p1 : Int32) (p2 : Int32) (σ : ST) (res : Int32) (h : f_M_steppedFrom p1 p2 σ = some res) : Ct 0 yX6_steppedFrom cX6_steppedFrom 5 (some .int) (fun ad => [.int p2, .int p1, .ref (ad 31)]) σ (some (.int res)) σ := by
  refine Ct.of (ls := fun ad => [(0, .ref (ad 31)), (1, .int p1), (2, .int p2)]) (by decide +kernel) (fun ad => Nat.le_of_ble_eq_true rfl) (fun ad => rfl) (fun X hX hM => ?_)
  replace hX : Ok X RX6 cX6_steppedFrom 5 0 := hX
  unfold f_M_steppedFrom at h
  refine JJ.iconst (v := 0) hX dX6_steppedFrom_0 (by decide) ?_
  refine JJ.istore_n (ls' := [(0, .ref (xad X 31)), (1, .int p1), (2, .int p2), (3, .int (0 : Int32))]) hX dX6_steppedFrom_1 (by decide) rfl rfl ?_
  refine JJ.iconst (v := 0) hX dX6_steppedFrom_2 (by decide) ?_
  refine JJ.istore (ls' := [(0, .ref (xad X 31)), (1, .int p1), (2, .int p2), (3, .int (0 : Int32)), (4, .int (0 : Int32))]) hX dX6_steppedFrom_3 (by decide) rfl rfl ?_
  obtain ⟨e4, h4, h⟩ := bnd h
  refine lp_M_steppedFrom_5 hX 400 _ _ _ _ _ h4 ?_
  refine JJ.iload_n hX 0 dX6_steppedFrom_50 rfl ?_
  obtain rfl := Option.some.inj h
  exact JJ.iret hX hM dX6_steppedFrom_51
set_option maxRecDepth 100000 in
theorem lp_M_soundingIn_5 {X : CX} {σ : ST} (hX : Ok X RX6 cX6_soundingIn 5 1) : ∀ (n : Nat) (x1 : Int32) (x2 : Int32) (x3 : Int32) (x4 : Int32) (e : (Int32)), f_M_soundingIn_L5 n x1 x2 x3 x4 σ = some e → JJ X 51 [(3, .int e)] [] σ → JJ X 5 [(0, .ref (xad X 31)), (1, .int x1), (2, .int x2), (3, .int x3), (4, .int x4)] [] σ := by
  intro n
  induction n with
  | zero =>
    intro x1 x2 x3 x4 e h
    rw [f_M_soundingIn_L5] at h
    cases h
  | succ n ih =>
    intro x1 x2 x3 x4 e h K
    rw [f_M_soundingIn_L5] at h
    refine JJ.iload hX 4 dX6_soundingIn_5 rfl ?_
    refine JJ.aload_n hX 0 dX6_soundingIn_7 rfl ?_
    refine fg_X6_84_31 hX dX6_soundingIn_8 ?_
    refine JJ.icmp_ge (tgt := 51) hX dX6_soundingIn_11 (by decide) (fun c1 => ?_) (fun c1 => ?_)
    · replace h := ipos c1 h
      obtain rfl := Option.some.inj h
      exact JJ.sub [3] rfl K
    · replace h := ineg c1 h
      refine JJ.iload_n hX 3 dX6_soundingIn_14 rfl ?_
      refine JJ.iload_n hX 1 dX6_soundingIn_15 rfl ?_
      refine JJ.iload hX 4 dX6_soundingIn_16 rfl ?_
      refine JJ.ishr hX dX6_soundingIn_18 ?_
      refine JJ.iconst (v := 1) hX dX6_soundingIn_19 (by decide) ?_
      refine JJ.iand hX dX6_soundingIn_20 ?_
      refine JJ.iconst (v := 1) hX dX6_soundingIn_21 (by decide) ?_
      refine JJ.icmp_ne (tgt := 42) hX dX6_soundingIn_22 (by decide) (fun c2 => ?_) (fun c2 => ?_)
      · replace h := ineg c2 h
        refine JJ.iconst (v := 0) hX dX6_soundingIn_42 (by decide) ?_
        refine JJ.ior hX dX6_soundingIn_43 ?_
        refine JJ.istore_n (ls' := [(0, .ref (xad X 31)), (1, .int x1), (2, .int x2), (3, .int (x3 ||| (0 : Int32))), (4, .int x4)]) hX dX6_soundingIn_44 (by decide) rfl rfl ?_
        refine JJ.iinc (v := 1) (ls' := [(0, .ref (xad X 31)), (1, .int x1), (2, .int x2), (3, .int (x3 ||| (0 : Int32))), (4, .int (x4 + (1 : Int32)))]) hX 4 dX6_soundingIn_45 rfl (by decide) (by decide) rfl rfl ?_
        refine JJ.goto (tgt := 5) hX dX6_soundingIn_48 (by decide) ?_
        exact ih _ _ _ _ _ h K
      · replace h := ipos c2 h
        refine JJ.aload_n hX 0 dX6_soundingIn_25 rfl ?_
        refine JJ.iload hX 4 dX6_soundingIn_26 rfl ?_
        obtain ⟨q3, h3, h⟩ := bnd h
        refine JJ.callVi hX (ct_M_soundOf _ _ _ h3) cal_yX6_soundOf cav_yX6_soundOf lm_RX6_99 rfl rfl rfl (Rcv.obj hX (ci := 6) rfl rfl) (Nat.le_of_ble_eq_true rfl) ⟨by decide, by decide⟩ dX6_soundingIn_28 ?_
        refine JJ.iload_n hX 2 dX6_soundingIn_31 rfl ?_
        refine JJ.icmp_ne (tgt := 42) hX dX6_soundingIn_32 (by decide) (fun c4 => ?_) (fun c4 => ?_)
        · replace h := ineg c4 h
          refine JJ.iconst (v := 0) hX dX6_soundingIn_42 (by decide) ?_
          refine JJ.ior hX dX6_soundingIn_43 ?_
          refine JJ.istore_n (ls' := [(0, .ref (xad X 31)), (1, .int x1), (2, .int x2), (3, .int (x3 ||| (0 : Int32))), (4, .int x4)]) hX dX6_soundingIn_44 (by decide) rfl rfl ?_
          refine JJ.iinc (v := 1) (ls' := [(0, .ref (xad X 31)), (1, .int x1), (2, .int x2), (3, .int (x3 ||| (0 : Int32))), (4, .int (x4 + (1 : Int32)))]) hX 4 dX6_soundingIn_45 rfl (by decide) (by decide) rfl rfl ?_
          refine JJ.goto (tgt := 5) hX dX6_soundingIn_48 (by decide) ?_
          exact ih _ _ _ _ _ h K
        · replace h := ipos c4 h
          refine JJ.iconst (v := 1) hX dX6_soundingIn_35 (by decide) ?_
          refine JJ.iload hX 4 dX6_soundingIn_36 rfl ?_
          refine JJ.ishl hX dX6_soundingIn_38 ?_
          refine JJ.goto (tgt := 43) hX dX6_soundingIn_39 (by decide) ?_
          refine JJ.ior hX dX6_soundingIn_43 ?_
          refine JJ.istore_n (ls' := [(0, .ref (xad X 31)), (1, .int x1), (2, .int x2), (3, .int (x3 ||| ((1 : Int32) <<< (x4 &&& 31)))), (4, .int x4)]) hX dX6_soundingIn_44 (by decide) rfl rfl ?_
          refine JJ.iinc (v := 1) (ls' := [(0, .ref (xad X 31)), (1, .int x1), (2, .int x2), (3, .int (x3 ||| ((1 : Int32) <<< (x4 &&& 31)))), (4, .int (x4 + (1 : Int32)))]) hX 4 dX6_soundingIn_45 rfl (by decide) (by decide) rfl rfl ?_
          refine JJ.goto (tgt := 5) hX dX6_soundingIn_48 (by decide) ?_
          exact ih _ _ _ _ _ h K
set_option maxRecDepth 100000 in
theorem ct_M_soundingIn (p1 : Int32) (p2 : Int32) (σ : ST) (res : Int32) (h : f_M_soundingIn p1 p2 σ = some res) : Ct 1 yX6_soundingIn cX6_soundingIn 5 (some .int) (fun ad => [.int p2, .int p1, .ref (ad 31)]) σ (some (.int res)) σ := by
  refine Ct.of (ls := fun ad => [(0, .ref (ad 31)), (1, .int p1), (2, .int p2)]) (by decide +kernel) (fun ad => Nat.le_of_ble_eq_true rfl) (fun ad => rfl) (fun X hX hM => ?_)
  replace hX : Ok X RX6 cX6_soundingIn 5 1 := hX
  unfold f_M_soundingIn at h
  refine JJ.iconst (v := 0) hX dX6_soundingIn_0 (by decide) ?_
  refine JJ.istore_n (ls' := [(0, .ref (xad X 31)), (1, .int p1), (2, .int p2), (3, .int (0 : Int32))]) hX dX6_soundingIn_1 (by decide) rfl rfl ?_
  refine JJ.iconst (v := 0) hX dX6_soundingIn_2 (by decide) ?_
  refine JJ.istore (ls' := [(0, .ref (xad X 31)), (1, .int p1), (2, .int p2), (3, .int (0 : Int32)), (4, .int (0 : Int32))]) hX dX6_soundingIn_3 (by decide) rfl rfl ?_
  obtain ⟨e5, h5, h⟩ := bnd h
  refine lp_M_soundingIn_5 hX 400 _ _ _ _ _ h5 ?_
  refine JJ.iload_n hX 0 dX6_soundingIn_51 rfl ?_
  obtain rfl := Option.some.inj h
  exact JJ.iret hX hM dX6_soundingIn_52
set_option maxRecDepth 100000 in
theorem lp_M_whereOf_11 {X : CX} {σ : ST} (hX : Ok X RX6 cX6_whereOf 3 2) : ∀ (n : Nat) (x1 : Int32) (x2 : Int32) (e : (Int32)), f_M_whereOf_L11 n x1 x2 σ = some e → JJ X 63 [(1, .int e)] [] σ → JJ X 11 [(0, .ref (xad X 31)), (1, .int x1), (2, .int x2)] [] σ := by
  intro n
  induction n with
  | zero =>
    intro x1 x2 e h
    rw [f_M_whereOf_L11] at h
    cases h
  | succ n ih =>
    intro x1 x2 e h K
    rw [f_M_whereOf_L11] at h
    refine JJ.iload_n hX 2 dX6_whereOf_11 rfl ?_
    refine JJ.aload_n hX 0 dX6_whereOf_12 rfl ?_
    refine fg_X6_93_31 hX dX6_whereOf_13 ?_
    refine JJ.icmp_ge (tgt := 63) hX dX6_whereOf_16 (by decide) (fun c1 => ?_) (fun c1 => ?_)
    · replace h := ipos c1 h
      obtain rfl := Option.some.inj h
      exact JJ.sub [1] rfl K
    · replace h := ineg c1 h
      refine JJ.iload_n hX 2 dX6_whereOf_19 rfl ?_
      refine JJ.if_ne (tgt := 27) hX dX6_whereOf_20 (by decide) (fun c2 => ?_) (fun c2 => ?_)
      · replace h := ineg c2 h
        refine JJ.aload_n hX 0 dX6_whereOf_27 rfl ?_
        refine JJ.iload_n hX 1 dX6_whereOf_28 rfl ?_
        refine JJ.aload_n hX 0 dX6_whereOf_29 rfl ?_
        refine fg_X6_34_31 hX dX6_whereOf_30 ?_
        refine JJ.iconst (v := 2) hX dX6_whereOf_33 (by decide) ?_
        refine JJ.iload_n hX 2 dX6_whereOf_34 rfl ?_
        refine JJ.imul hX dX6_whereOf_35 ?_
        obtain ⟨c3, h⟩ := gte h
        refine ald_40 hX c3 dX6_whereOf_36 ?_
        obtain ⟨q4, h4, h⟩ := bnd h
        refine JJ.callVi hX (ct_M_steppedFrom _ _ _ _ h4) cal_yX6_steppedFrom cav_yX6_steppedFrom lm_RX6_161 rfl rfl rfl (Rcv.obj hX (ci := 6) rfl rfl) (Nat.le_of_ble_eq_true rfl) ⟨by decide, by decide⟩ dX6_whereOf_37 ?_
        refine JJ.istore_n (ls' := [(0, .ref (xad X 31)), (1, .int q4), (2, .int x2)]) hX dX6_whereOf_40 (by decide) rfl rfl ?_
        refine JJ.aload_n hX 0 dX6_whereOf_41 rfl ?_
        refine JJ.iload_n hX 1 dX6_whereOf_42 rfl ?_
        refine JJ.aload_n hX 0 dX6_whereOf_43 rfl ?_
        refine fg_X6_34_31 hX dX6_whereOf_44 ?_
        refine JJ.iconst (v := 2) hX dX6_whereOf_47 (by decide) ?_
        refine JJ.iload_n hX 2 dX6_whereOf_48 rfl ?_
        refine JJ.imul hX dX6_whereOf_49 ?_
        refine JJ.iconst (v := 1) hX dX6_whereOf_50 (by decide) ?_
        refine JJ.iadd hX dX6_whereOf_51 ?_
        obtain ⟨c5, h⟩ := gte h
        refine ald_40 hX c5 dX6_whereOf_52 ?_
        obtain ⟨q6, h6, h⟩ := bnd h
        refine JJ.callVi hX (ct_M_soundingIn _ _ _ _ h6) cal_yX6_soundingIn cav_yX6_soundingIn lm_RX6_164 rfl rfl rfl (Rcv.obj hX (ci := 6) rfl rfl) (Nat.le_of_ble_eq_true rfl) ⟨by decide, by decide⟩ dX6_whereOf_53 ?_
        refine JJ.istore_n (ls' := [(0, .ref (xad X 31)), (1, .int q6), (2, .int x2)]) hX dX6_whereOf_56 (by decide) rfl rfl ?_
        refine JJ.iinc (v := 1) (ls' := [(0, .ref (xad X 31)), (1, .int q6), (2, .int (x2 + (1 : Int32)))]) hX 2 dX6_whereOf_57 rfl (by decide) (by decide) rfl rfl ?_
        refine JJ.goto (tgt := 11) hX dX6_whereOf_60 (by decide) ?_
        exact ih _ _ _ h K
      · replace h := ipos c2 h
        refine JJ.iload_n hX 1 dX6_whereOf_23 rfl ?_
        refine JJ.goto (tgt := 40) hX dX6_whereOf_24 (by decide) ?_
        refine JJ.istore_n (ls' := [(0, .ref (xad X 31)), (1, .int x1), (2, .int x2)]) hX dX6_whereOf_40 (by decide) rfl rfl ?_
        refine JJ.aload_n hX 0 dX6_whereOf_41 rfl ?_
        refine JJ.iload_n hX 1 dX6_whereOf_42 rfl ?_
        refine JJ.aload_n hX 0 dX6_whereOf_43 rfl ?_
        refine fg_X6_34_31 hX dX6_whereOf_44 ?_
        refine JJ.iconst (v := 2) hX dX6_whereOf_47 (by decide) ?_
        refine JJ.iload_n hX 2 dX6_whereOf_48 rfl ?_
        refine JJ.imul hX dX6_whereOf_49 ?_
        refine JJ.iconst (v := 1) hX dX6_whereOf_50 (by decide) ?_
        refine JJ.iadd hX dX6_whereOf_51 ?_
        obtain ⟨c7, h⟩ := gte h
        refine ald_40 hX c7 dX6_whereOf_52 ?_
        obtain ⟨q8, h8, h⟩ := bnd h
        refine JJ.callVi hX (ct_M_soundingIn _ _ _ _ h8) cal_yX6_soundingIn cav_yX6_soundingIn lm_RX6_164 rfl rfl rfl (Rcv.obj hX (ci := 6) rfl rfl) (Nat.le_of_ble_eq_true rfl) ⟨by decide, by decide⟩ dX6_whereOf_53 ?_
        refine JJ.istore_n (ls' := [(0, .ref (xad X 31)), (1, .int q8), (2, .int x2)]) hX dX6_whereOf_56 (by decide) rfl rfl ?_
        refine JJ.iinc (v := 1) (ls' := [(0, .ref (xad X 31)), (1, .int q8), (2, .int (x2 + (1 : Int32)))]) hX 2 dX6_whereOf_57 rfl (by decide) (by decide) rfl rfl ?_
        refine JJ.goto (tgt := 11) hX dX6_whereOf_60 (by decide) ?_
        exact ih _ _ _ h K
set_option maxRecDepth 100000 in
theorem ct_M_whereOf (σ : ST) (res : Int32) (h : f_M_whereOf σ = some res) : Ct 2 yX6_whereOf cX6_whereOf 3 (some .int) (fun ad => [.ref (ad 31)]) σ (some (.int res)) σ := by
  refine Ct.of (ls := fun ad => [(0, .ref (ad 31))]) (by decide +kernel) (fun ad => Nat.le_of_ble_eq_true rfl) (fun ad => rfl) (fun X hX hM => ?_)
  replace hX : Ok X RX6 cX6_whereOf 3 2 := hX
  unfold f_M_whereOf at h
  refine JJ.iconst (v := 1) hX dX6_whereOf_0 (by decide) ?_
  refine JJ.aload_n hX 0 dX6_whereOf_1 rfl ?_
  refine fg_X6_84_31 hX dX6_whereOf_2 ?_
  refine JJ.ishl hX dX6_whereOf_5 ?_
  refine JJ.iconst (v := 1) hX dX6_whereOf_6 (by decide) ?_
  refine JJ.isub hX dX6_whereOf_7 ?_
  refine JJ.istore_n (ls' := [(0, .ref (xad X 31)), (1, .int (((1 : Int32) <<< ((gI σ 3106) &&& 31)) - (1 : Int32)))]) hX dX6_whereOf_8 (by decide) rfl rfl ?_
  refine JJ.iconst (v := 0) hX dX6_whereOf_9 (by decide) ?_
  refine JJ.istore_n (ls' := [(0, .ref (xad X 31)), (1, .int (((1 : Int32) <<< ((gI σ 3106) &&& 31)) - (1 : Int32))), (2, .int (0 : Int32))]) hX dX6_whereOf_10 (by decide) rfl rfl ?_
  obtain ⟨e9, h9, h⟩ := bnd h
  refine lp_M_whereOf_11 hX 400 _ _ _ h9 ?_
  refine JJ.iload_n hX 0 dX6_whereOf_63 rfl ?_
  obtain rfl := Option.some.inj h
  exact JJ.iret hX hM dX6_whereOf_64
set_option maxRecDepth 100000 in
theorem ct_M_where (σ : ST) (res : Int32) (h : f_M_where σ = some res) : Ct 3 yX6_where cX6_where 1 (some .int) (fun ad => [.ref (ad 31)]) σ (some (.int res)) σ := by
  refine Ct.of (ls := fun ad => [(0, .ref (ad 31))]) (by decide +kernel) (fun ad => Nat.le_of_ble_eq_true rfl) (fun ad => rfl) (fun X hX hM => ?_)
  replace hX : Ok X RX6 cX6_where 1 3 := hX
  unfold f_M_where at h
  refine JJ.aload_n hX 0 dX6_where_0 rfl ?_
  refine JJ.callVi hX (ct_M_lacks  _ _ rfl) cal_yX6_lacks cav_yX6_lacks lm_RX6_167 rfl rfl rfl (Rcv.obj hX (ci := 6) rfl rfl) (Nat.le_of_ble_eq_true rfl) ⟨by decide, by decide⟩ dX6_where_1 ?_
  refine JJ.if_eq (tgt := 12) hX dX6_where_4 (by decide) (fun c1 => ?_) (fun c1 => ?_)
  · replace h := ipos c1 h
    refine JJ.aload_n hX 0 dX6_where_12 rfl ?_
    obtain ⟨q2, h2, h⟩ := bnd h
    refine JJ.callVi hX (ct_M_whereOf  _ _ h2) cal_yX6_whereOf cav_yX6_whereOf lm_RX6_171 rfl rfl rfl (Rcv.obj hX (ci := 6) rfl rfl) (Nat.le_of_ble_eq_true rfl) ⟨by decide, by decide⟩ dX6_where_13 ?_
    obtain rfl := Option.some.inj h
    exact JJ.iret hX hM dX6_where_16
  · replace h := ineg c1 h
    refine JJ.bipush (v := -103) hX dX6_where_7 (by decide) ?_
    refine JJ.goto (tgt := 16) hX dX6_where_9 (by decide) ?_
    obtain rfl := Option.some.inj h
    exact JJ.iret hX hM dX6_where_16
set_option maxRecDepth 100000 in
theorem ct_Integer_bitCount (p0 : Int32) (σ : ST) (res : Int32) (h : f_Integer_bitCount p0 = res) : Ct 0 yJ6_bitCount_0f7a4 cJ6_bitCount_0f7a4 1 (some .int) (fun ad => [.int p0]) σ (some (.int res)) σ := by
  refine Ct.of (ls := fun ad => [(0, .int p0)]) (by decide +kernel) (fun ad => Nat.le_of_ble_eq_true rfl) (fun ad => rfl) (fun X hX hM => ?_)
  replace hX : Ok X RJ6 cJ6_bitCount_0f7a4 1 0 := hX
  unfold f_Integer_bitCount at h
  refine JJ.iload_n hX 0 dJ6_bitCount_0f7a4_0 rfl ?_
  refine JJ.iload_n hX 0 dJ6_bitCount_0f7a4_1 rfl ?_
  refine JJ.iconst (v := 1) hX dJ6_bitCount_0f7a4_2 (by decide) ?_
  refine JJ.iushr hX dJ6_bitCount_0f7a4_3 ?_
  refine JJ.ldcw hX lc_RJ6_265 dJ6_bitCount_0f7a4_4 ?_
  refine JJ.iand hX dJ6_bitCount_0f7a4_7 ?_
  refine JJ.isub hX dJ6_bitCount_0f7a4_8 ?_
  refine JJ.istore_n (ls' := [(0, .int (p0 - ((((p0).toUInt32 >>> (((1 : Int32)).toUInt32 &&& Int32.toUInt32 31)).toInt32) &&& (1431655765 : Int32))))]) hX dJ6_bitCount_0f7a4_9 (by decide) rfl rfl ?_
  refine JJ.iload_n hX 0 dJ6_bitCount_0f7a4_10 rfl ?_
  refine JJ.ldcw hX lc_RJ6_266 dJ6_bitCount_0f7a4_11 ?_
  refine JJ.iand hX dJ6_bitCount_0f7a4_14 ?_
  refine JJ.iload_n hX 0 dJ6_bitCount_0f7a4_15 rfl ?_
  refine JJ.iconst (v := 2) hX dJ6_bitCount_0f7a4_16 (by decide) ?_
  refine JJ.iushr hX dJ6_bitCount_0f7a4_17 ?_
  refine JJ.ldcw hX lc_RJ6_266 dJ6_bitCount_0f7a4_18 ?_
  refine JJ.iand hX dJ6_bitCount_0f7a4_21 ?_
  refine JJ.iadd hX dJ6_bitCount_0f7a4_22 ?_
  refine JJ.istore_n (ls' := [(0, .int (((p0 - ((((p0).toUInt32 >>> (((1 : Int32)).toUInt32 &&& Int32.toUInt32 31)).toInt32) &&& (1431655765 : Int32))) &&& (858993459 : Int32)) + (((((p0 - ((((p0).toUInt32 >>> (((1 : Int32)).toUInt32 &&& Int32.toUInt32 31)).toInt32) &&& (1431655765 : Int32)))).toUInt32 >>> (((2 : Int32)).toUInt32 &&& Int32.toUInt32 31)).toInt32) &&& (858993459 : Int32))))]) hX dJ6_bitCount_0f7a4_23 (by decide) rfl rfl ?_
  refine JJ.iload_n hX 0 dJ6_bitCount_0f7a4_24 rfl ?_
  refine JJ.iload_n hX 0 dJ6_bitCount_0f7a4_25 rfl ?_
  refine JJ.iconst (v := 4) hX dJ6_bitCount_0f7a4_26 (by decide) ?_
  refine JJ.iushr hX dJ6_bitCount_0f7a4_27 ?_
  refine JJ.iadd hX dJ6_bitCount_0f7a4_28 ?_
  refine JJ.ldcw hX lc_RJ6_267 dJ6_bitCount_0f7a4_29 ?_
  refine JJ.iand hX dJ6_bitCount_0f7a4_32 ?_
  refine JJ.istore_n (ls' := [(0, .int (((((p0 - ((((p0).toUInt32 >>> (((1 : Int32)).toUInt32 &&& Int32.toUInt32 31)).toInt32) &&& (1431655765 : Int32))) &&& (858993459 : Int32)) + (((((p0 - ((((p0).toUInt32 >>> (((1 : Int32)).toUInt32 &&& Int32.toUInt32 31)).toInt32) &&& (1431655765 : Int32)))).toUInt32 >>> (((2 : Int32)).toUInt32 &&& Int32.toUInt32 31)).toInt32) &&& (858993459 : Int32))) + ((((((p0 - ((((p0).toUInt32 >>> (((1 : Int32)).toUInt32 &&& Int32.toUInt32 31)).toInt32) &&& (1431655765 : Int32))) &&& (858993459 : Int32)) + (((((p0 - ((((p0).toUInt32 >>> (((1 : Int32)).toUInt32 &&& Int32.toUInt32 31)).toInt32) &&& (1431655765 : Int32)))).toUInt32 >>> (((2 : Int32)).toUInt32 &&& Int32.toUInt32 31)).toInt32) &&& (858993459 : Int32)))).toUInt32 >>> (((4 : Int32)).toUInt32 &&& Int32.toUInt32 31)).toInt32)) &&& (252645135 : Int32)))]) hX dJ6_bitCount_0f7a4_33 (by decide) rfl rfl ?_
  refine JJ.iload_n hX 0 dJ6_bitCount_0f7a4_34 rfl ?_
  refine JJ.iload_n hX 0 dJ6_bitCount_0f7a4_35 rfl ?_
  refine JJ.bipush (v := 8) hX dJ6_bitCount_0f7a4_36 (by decide) ?_
  refine JJ.iushr hX dJ6_bitCount_0f7a4_38 ?_
  refine JJ.iadd hX dJ6_bitCount_0f7a4_39 ?_
  refine JJ.istore_n (ls' := [(0, .int ((((((p0 - ((((p0).toUInt32 >>> (((1 : Int32)).toUInt32 &&& Int32.toUInt32 31)).toInt32) &&& (1431655765 : Int32))) &&& (858993459 : Int32)) + (((((p0 - ((((p0).toUInt32 >>> (((1 : Int32)).toUInt32 &&& Int32.toUInt32 31)).toInt32) &&& (1431655765 : Int32)))).toUInt32 >>> (((2 : Int32)).toUInt32 &&& Int32.toUInt32 31)).toInt32) &&& (858993459 : Int32))) + ((((((p0 - ((((p0).toUInt32 >>> (((1 : Int32)).toUInt32 &&& Int32.toUInt32 31)).toInt32) &&& (1431655765 : Int32))) &&& (858993459 : Int32)) + (((((p0 - ((((p0).toUInt32 >>> (((1 : Int32)).toUInt32 &&& Int32.toUInt32 31)).toInt32) &&& (1431655765 : Int32)))).toUInt32 >>> (((2 : Int32)).toUInt32 &&& Int32.toUInt32 31)).toInt32) &&& (858993459 : Int32)))).toUInt32 >>> (((4 : Int32)).toUInt32 &&& Int32.toUInt32 31)).toInt32)) &&& (252645135 : Int32)) + ((((((((p0 - ((((p0).toUInt32 >>> (((1 : Int32)).toUInt32 &&& Int32.toUInt32 31)).toInt32) &&& (1431655765 : Int32))) &&& (858993459 : Int32)) + (((((p0 - ((((p0).toUInt32 >>> (((1 : Int32)).toUInt32 &&& Int32.toUInt32 31)).toInt32) &&& (1431655765 : Int32)))).toUInt32 >>> (((2 : Int32)).toUInt32 &&& Int32.toUInt32 31)).toInt32) &&& (858993459 : Int32))) + ((((((p0 - ((((p0).toUInt32 >>> (((1 : Int32)).toUInt32 &&& Int32.toUInt32 31)).toInt32) &&& (1431655765 : Int32))) &&& (858993459 : Int32)) + (((((p0 - ((((p0).toUInt32 >>> (((1 : Int32)).toUInt32 &&& Int32.toUInt32 31)).toInt32) &&& (1431655765 : Int32)))).toUInt32 >>> (((2 : Int32)).toUInt32 &&& Int32.toUInt32 31)).toInt32) &&& (858993459 : Int32)))).toUInt32 >>> (((4 : Int32)).toUInt32 &&& Int32.toUInt32 31)).toInt32)) &&& (252645135 : Int32))).toUInt32 >>> (((8 : Int32)).toUInt32 &&& Int32.toUInt32 31)).toInt32)))]) hX dJ6_bitCount_0f7a4_40 (by decide) rfl rfl ?_
  refine JJ.iload_n hX 0 dJ6_bitCount_0f7a4_41 rfl ?_
  refine JJ.iload_n hX 0 dJ6_bitCount_0f7a4_42 rfl ?_
  refine JJ.bipush (v := 16) hX dJ6_bitCount_0f7a4_43 (by decide) ?_
  refine JJ.iushr hX dJ6_bitCount_0f7a4_45 ?_
  refine JJ.iadd hX dJ6_bitCount_0f7a4_46 ?_
  refine JJ.istore_n (ls' := [(0, .int (((((((p0 - ((((p0).toUInt32 >>> (((1 : Int32)).toUInt32 &&& Int32.toUInt32 31)).toInt32) &&& (1431655765 : Int32))) &&& (858993459 : Int32)) + (((((p0 - ((((p0).toUInt32 >>> (((1 : Int32)).toUInt32 &&& Int32.toUInt32 31)).toInt32) &&& (1431655765 : Int32)))).toUInt32 >>> (((2 : Int32)).toUInt32 &&& Int32.toUInt32 31)).toInt32) &&& (858993459 : Int32))) + ((((((p0 - ((((p0).toUInt32 >>> (((1 : Int32)).toUInt32 &&& Int32.toUInt32 31)).toInt32) &&& (1431655765 : Int32))) &&& (858993459 : Int32)) + (((((p0 - ((((p0).toUInt32 >>> (((1 : Int32)).toUInt32 &&& Int32.toUInt32 31)).toInt32) &&& (1431655765 : Int32)))).toUInt32 >>> (((2 : Int32)).toUInt32 &&& Int32.toUInt32 31)).toInt32) &&& (858993459 : Int32)))).toUInt32 >>> (((4 : Int32)).toUInt32 &&& Int32.toUInt32 31)).toInt32)) &&& (252645135 : Int32)) + ((((((((p0 - ((((p0).toUInt32 >>> (((1 : Int32)).toUInt32 &&& Int32.toUInt32 31)).toInt32) &&& (1431655765 : Int32))) &&& (858993459 : Int32)) + (((((p0 - ((((p0).toUInt32 >>> (((1 : Int32)).toUInt32 &&& Int32.toUInt32 31)).toInt32) &&& (1431655765 : Int32)))).toUInt32 >>> (((2 : Int32)).toUInt32 &&& Int32.toUInt32 31)).toInt32) &&& (858993459 : Int32))) + ((((((p0 - ((((p0).toUInt32 >>> (((1 : Int32)).toUInt32 &&& Int32.toUInt32 31)).toInt32) &&& (1431655765 : Int32))) &&& (858993459 : Int32)) + (((((p0 - ((((p0).toUInt32 >>> (((1 : Int32)).toUInt32 &&& Int32.toUInt32 31)).toInt32) &&& (1431655765 : Int32)))).toUInt32 >>> (((2 : Int32)).toUInt32 &&& Int32.toUInt32 31)).toInt32) &&& (858993459 : Int32)))).toUInt32 >>> (((4 : Int32)).toUInt32 &&& Int32.toUInt32 31)).toInt32)) &&& (252645135 : Int32))).toUInt32 >>> (((8 : Int32)).toUInt32 &&& Int32.toUInt32 31)).toInt32)) + (((((((((p0 - ((((p0).toUInt32 >>> (((1 : Int32)).toUInt32 &&& Int32.toUInt32 31)).toInt32) &&& (1431655765 : Int32))) &&& (858993459 : Int32)) + (((((p0 - ((((p0).toUInt32 >>> (((1 : Int32)).toUInt32 &&& Int32.toUInt32 31)).toInt32) &&& (1431655765 : Int32)))).toUInt32 >>> (((2 : Int32)).toUInt32 &&& Int32.toUInt32 31)).toInt32) &&& (858993459 : Int32))) + ((((((p0 - ((((p0).toUInt32 >>> (((1 : Int32)).toUInt32 &&& Int32.toUInt32 31)).toInt32) &&& (1431655765 : Int32))) &&& (858993459 : Int32)) + (((((p0 - ((((p0).toUInt32 >>> (((1 : Int32)).toUInt32 &&& Int32.toUInt32 31)).toInt32) &&& (1431655765 : Int32)))).toUInt32 >>> (((2 : Int32)).toUInt32 &&& Int32.toUInt32 31)).toInt32) &&& (858993459 : Int32)))).toUInt32 >>> (((4 : Int32)).toUInt32 &&& Int32.toUInt32 31)).toInt32)) &&& (252645135 : Int32)) + ((((((((p0 - ((((p0).toUInt32 >>> (((1 : Int32)).toUInt32 &&& Int32.toUInt32 31)).toInt32) &&& (1431655765 : Int32))) &&& (858993459 : Int32)) + (((((p0 - ((((p0).toUInt32 >>> (((1 : Int32)).toUInt32 &&& Int32.toUInt32 31)).toInt32) &&& (1431655765 : Int32)))).toUInt32 >>> (((2 : Int32)).toUInt32 &&& Int32.toUInt32 31)).toInt32) &&& (858993459 : Int32))) + ((((((p0 - ((((p0).toUInt32 >>> (((1 : Int32)).toUInt32 &&& Int32.toUInt32 31)).toInt32) &&& (1431655765 : Int32))) &&& (858993459 : Int32)) + (((((p0 - ((((p0).toUInt32 >>> (((1 : Int32)).toUInt32 &&& Int32.toUInt32 31)).toInt32) &&& (1431655765 : Int32)))).toUInt32 >>> (((2 : Int32)).toUInt32 &&& Int32.toUInt32 31)).toInt32) &&& (858993459 : Int32)))).toUInt32 >>> (((4 : Int32)).toUInt32 &&& Int32.toUInt32 31)).toInt32)) &&& (252645135 : Int32))).toUInt32 >>> (((8 : Int32)).toUInt32 &&& Int32.toUInt32 31)).toInt32))).toUInt32 >>> (((16 : Int32)).toUInt32 &&& Int32.toUInt32 31)).toInt32)))]) hX dJ6_bitCount_0f7a4_47 (by decide) rfl rfl ?_
  refine JJ.iload_n hX 0 dJ6_bitCount_0f7a4_48 rfl ?_
  refine JJ.bipush (v := 63) hX dJ6_bitCount_0f7a4_49 (by decide) ?_
  refine JJ.iand hX dJ6_bitCount_0f7a4_51 ?_
  subst h
  exact JJ.iret hX hM dJ6_bitCount_0f7a4_52
set_option maxRecDepth 100000 in
theorem lp_Mine_mostLeft_13 {X : CX} {σ : ST} (hX : Ok X RX1 cX1_mostLeft 6 4) : ∀ (n : Nat) (x3 : Int32) (x4 : Int32) (x5 : Int32) (e : (Int32)), f_Mine_mostLeft_L13 n x3 x4 x5 σ = some e → JJ X 42 [(4, .int e)] [] σ → JJ X 13 [(0, .ref (xad X 3)), (3, .int x3), (4, .int x4), (5, .int x5)] [] σ := by
  intro n
  induction n with
  | zero =>
    intro x3 x4 x5 e h
    rw [f_Mine_mostLeft_L13] at h
    cases h
  | succ n ih =>
    intro x3 x4 x5 e h K
    rw [f_Mine_mostLeft_L13] at h
    refine JJ.iload hX 3 dX1_mostLeft_13 rfl ?_
    refine JJ.iconst (v := 3) hX dX1_mostLeft_15 (by decide) ?_
    refine JJ.icmp_ge (tgt := 42) hX dX1_mostLeft_16 (by decide) (fun c2 => ?_) (fun c2 => ?_)
    · replace h := ipos c2 h
      obtain rfl := Option.some.inj h
      exact JJ.sub [2] rfl K
    · replace h := ineg c2 h
      refine JJ.iload hX 2 dX1_mostLeft_19 rfl ?_
      refine JJ.aload_n hX 0 dX1_mostLeft_21 rfl ?_
      refine JJ.iload_n hX 1 dX1_mostLeft_22 rfl ?_
      refine JJ.iload hX 3 dX1_mostLeft_23 rfl ?_
      obtain ⟨q3, h3, h⟩ := bnd h
      refine JJ.callVi hX (ct_Mine_placesOfSound _ _ _ _ h3) cal_yX1_placesOfSound cav_yX1_placesOfSound lm_RX1_67 rfl rfl rfl (Rcv.obj hX (ci := 1) rfl rfl) (Nat.le_of_ble_eq_true rfl) ⟨by decide, by decide⟩ dX1_mostLeft_25 ?_
      refine JJ.callSi hX (ct_Integer_bitCount _ _ _ rfl) cal_yJ6_bitCount_0f7a4 cas_yJ6_bitCount_0f7a4 lm_RX1_70 rfl rfl (Nat.le_of_ble_eq_true rfl) ⟨by decide, by decide⟩ dX1_mostLeft_28 ?_
      refine JJ.mmax hX lm_RX1_75 cas_math_max ini_math cod_math_max (Nat.le_of_ble_eq_true rfl) (by decide) dX1_mostLeft_31 ?_
      refine JJ.istore (ls' := [(0, .ref (xad X 3)), (3, .int x3), (4, .int (if x4 < (f_Integer_bitCount q3) then (f_Integer_bitCount q3) else x4)), (5, .int x5)]) hX dX1_mostLeft_34 (by decide) rfl rfl ?_
      refine JJ.iinc (v := 1) (ls' := [(0, .ref (xad X 3)), (3, .int x3), (4, .int (if x4 < (f_Integer_bitCount q3) then (f_Integer_bitCount q3) else x4)), (5, .int (x5 + (1 : Int32)))]) hX 3 dX1_mostLeft_36 rfl (by decide) (by decide) rfl rfl ?_
      refine JJ.goto (tgt := 13) hX dX1_mostLeft_39 (by decide) ?_
      exact ih _ _ _ _ h K
set_option maxRecDepth 100000 in
theorem ct_Mine_mostLeft (p1 : Int32) (p2 : Int32) (σ : ST) (res : Int32) (h : f_Mine_mostLeft p1 p2 σ = some res) : Ct 4 yX1_mostLeft cX1_mostLeft 6 (some .int) (fun ad => [.int p2, .int p1, .ref (ad 3)]) σ (some (.int res)) σ := by
  refine Ct.of (ls := fun ad => [(0, .ref (ad 3)), (1, .int p1), (2, .int p2)]) (by decide +kernel) (fun ad => Nat.le_of_ble_eq_true rfl) (fun ad => rfl) (fun X hX hM => ?_)
  replace hX : Ok X RX1 cX1_mostLeft 6 4 := hX
  unfold f_Mine_mostLeft at h
  refine JJ.aload_n hX 0 dX1_mostLeft_0 rfl ?_
  refine JJ.iload_n hX 1 dX1_mostLeft_1 rfl ?_
  refine JJ.iload_n hX 2 dX1_mostLeft_2 rfl ?_
  obtain ⟨q1, h1, h⟩ := bnd h
  refine JJ.callVi hX (ct_Mine_placesAfter _ _ _ _ h1) cal_yX1_placesAfter cav_yX1_placesAfter lm_RX1_60 rfl rfl rfl (Rcv.obj hX (ci := 1) rfl rfl) (Nat.le_of_ble_eq_true rfl) ⟨by decide, by decide⟩ dX1_mostLeft_3 ?_
  refine JJ.istore_n (ls' := [(0, .ref (xad X 3)), (1, .int p1), (2, .int p2), (3, .int q1)]) hX dX1_mostLeft_6 (by decide) rfl rfl ?_
  refine JJ.iconst (v := 0) hX dX1_mostLeft_7 (by decide) ?_
  refine JJ.istore (ls' := [(0, .ref (xad X 3)), (1, .int p1), (2, .int p2), (3, .int q1), (4, .int (0 : Int32))]) hX dX1_mostLeft_8 (by decide) rfl rfl ?_
  refine JJ.iconst (v := 0) hX dX1_mostLeft_10 (by decide) ?_
  refine JJ.istore (ls' := [(0, .ref (xad X 3)), (1, .int p1), (2, .int p2), (3, .int q1), (4, .int (0 : Int32)), (5, .int (0 : Int32))]) hX dX1_mostLeft_11 (by decide) rfl rfl ?_
  obtain ⟨e4, h4, h⟩ := bnd h
  refine JJ.sub (ls' := [(0, .ref (xad X 3)), (3, .int q1), (4, .int (0 : Int32)), (5, .int (0 : Int32))]) [0, 3, 4, 5] rfl ?_
  refine lp_Mine_mostLeft_13 hX 400 _ _ _ _ h4 ?_
  refine JJ.iload hX 0 dX1_mostLeft_42 rfl ?_
  obtain rfl := Option.some.inj h
  exact JJ.iret hX hM dX1_mostLeft_44
set_option maxRecDepth 100000 in
theorem ct_LT_next (σ : ST) (res : Int32) (h : f_LT_next σ = some res) : Ct 5 yX5_next cX5_next 2 (some .int) (fun ad => [.ref (ad 0)]) σ (some (.int res)) σ := by
  refine Ct.of (ls := fun ad => [(0, .ref (ad 0))]) (by decide +kernel) (fun ad => Nat.le_of_ble_eq_true rfl) (fun ad => rfl) (fun X hX hM => ?_)
  replace hX : Ok X RX5 cX5_next 2 5 := hX
  unfold f_LT_next at h
  refine JJ.aload_n hX 0 dX5_next_0 rfl ?_
  refine fg_X5_19_0 hX dX5_next_1 ?_
  refine JJ.callVi hX (ct_Mine_isThere  _ _ rfl) cal_yX1_isThere cav_yX1_isThere lm_RX5_183 rfl rfl rfl (Rcv.obj hX (ci := 1) rfl rfl) (Nat.le_of_ble_eq_true rfl) ⟨by decide, by decide⟩ dX5_next_4 ?_
  refine JJ.if_ne (tgt := 13) hX dX5_next_7 (by decide) (fun c1 => ?_) (fun c1 => ?_)
  · replace h := ineg c1 h
    refine JJ.aload_n hX 0 dX5_next_13 rfl ?_
    refine fg_X5_19_0 hX dX5_next_14 ?_
    refine JJ.aload_n hX 0 dX5_next_17 rfl ?_
    refine fg_X5_35_0 hX dX5_next_18 ?_
    obtain ⟨q2, h2, h⟩ := bnd h
    refine JJ.callVi hX (ct_Mine_placesBy_17  _ _ h2) cal_yX1_placesBy cav_yX1_placesBy lm_RX5_186 rfl rfl rfl (Rcv.obj hX (ci := 1) rfl rfl) (Nat.le_of_ble_eq_true rfl) ⟨by decide, by decide⟩ dX5_next_21 ?_
    refine JJ.istore_n (ls' := [(0, .ref (xad X 0)), (1, .int q2)]) hX dX5_next_24 (by decide) rfl rfl ?_
    refine JJ.iload_n hX 1 dX5_next_25 rfl ?_
    refine JJ.if_ne (tgt := 31) hX dX5_next_26 (by decide) (fun c3 => ?_) (fun c3 => ?_)
    · replace h := ineg c3 h
      refine JJ.aload_n hX 0 dX5_next_31 rfl ?_
      refine fg_X5_19_0 hX dX5_next_32 ?_
      refine JJ.iload_n hX 1 dX5_next_35 rfl ?_
      refine JJ.iconst (v := 1) hX dX5_next_36 (by decide) ?_
      obtain ⟨q4, h4, h⟩ := bnd h
      refine JJ.callVi hX (ct_Mine_mostLeft _ _ _ _ h4) cal_yX1_mostLeft cav_yX1_mostLeft lm_RX5_190 rfl rfl rfl (Rcv.obj hX (ci := 1) rfl rfl) (Nat.le_of_ble_eq_true rfl) ⟨by decide, by decide⟩ dX5_next_37 ?_
      refine JJ.aload_n hX 0 dX5_next_40 rfl ?_
      refine fg_X5_19_0 hX dX5_next_41 ?_
      refine JJ.iload_n hX 1 dX5_next_44 rfl ?_
      refine JJ.iconst (v := 0) hX dX5_next_45 (by decide) ?_
      obtain ⟨q5, h5, h⟩ := bnd h
      refine JJ.callVi hX (ct_Mine_mostLeft _ _ _ _ h5) cal_yX1_mostLeft cav_yX1_mostLeft lm_RX5_190 rfl rfl rfl (Rcv.obj hX (ci := 1) rfl rfl) (Nat.le_of_ble_eq_true rfl) ⟨by decide, by decide⟩ dX5_next_46 ?_
      refine JJ.icmp_ge (tgt := 56) hX dX5_next_49 (by decide) (fun c6 => ?_) (fun c6 => ?_)
      · replace h := ipos c6 h
        refine JJ.iconst (v := 0) hX dX5_next_56 (by decide) ?_
        obtain rfl := Option.some.inj h
        exact JJ.iret hX hM dX5_next_57
      · replace h := ineg c6 h
        refine JJ.iconst (v := 1) hX dX5_next_52 (by decide) ?_
        refine JJ.goto (tgt := 57) hX dX5_next_53 (by decide) ?_
        obtain rfl := Option.some.inj h
        exact JJ.iret hX hM dX5_next_57
    · replace h := ipos c3 h
      refine JJ.iconst (v := -1) hX dX5_next_29 (by decide) ?_
      obtain rfl := Option.some.inj h
      exact JJ.iret hX hM dX5_next_30
  · replace h := ipos c1 h
    refine JJ.bipush (v := -103) hX dX5_next_10 (by decide) ?_
    obtain rfl := Option.some.inj h
    exact JJ.iret hX hM dX5_next_12
set_option maxRecDepth 100000 in
theorem lp_M_ones_4 {X : CX} {σ : ST} (hX : Ok X RX6 cX6_ones 3 0) : ∀ (n : Nat) (x0 : Int32) (x1 : Int32) (x2 : Int32) (e : (Int32)), f_M_ones_L4 n x0 x1 x2 σ = some e → JJ X 24 [(1, .int e)] [] σ → JJ X 4 [(0, .int x0), (1, .int x1), (2, .int x2)] [] σ := by
  intro n
  induction n with
  | zero =>
    intro x0 x1 x2 e h
    rw [f_M_ones_L4] at h
    cases h
  | succ n ih =>
    intro x0 x1 x2 e h K
    rw [f_M_ones_L4] at h
    refine JJ.iload_n hX 2 dX6_ones_4 rfl ?_
    refine JJ.bipush (v := 6) hX dX6_ones_5 (by decide) ?_
    refine JJ.icmp_ge (tgt := 24) hX dX6_ones_7 (by decide) (fun c1 => ?_) (fun c1 => ?_)
    · replace h := ipos c1 h
      obtain rfl := Option.some.inj h
      exact JJ.sub [1] rfl K
    · replace h := ineg c1 h
      refine JJ.iload_n hX 1 dX6_ones_10 rfl ?_
      refine JJ.iload_n hX 0 dX6_ones_11 rfl ?_
      refine JJ.iload_n hX 2 dX6_ones_12 rfl ?_
      refine JJ.ishr hX dX6_ones_13 ?_
      refine JJ.iconst (v := 1) hX dX6_ones_14 (by decide) ?_
      refine JJ.iand hX dX6_ones_15 ?_
      refine JJ.iadd hX dX6_ones_16 ?_
      refine JJ.istore_n (ls' := [(0, .int x0), (1, .int (x1 + ((x0 >>> (x2 &&& 31)) &&& (1 : Int32)))), (2, .int x2)]) hX dX6_ones_17 (by decide) rfl rfl ?_
      refine JJ.iinc (v := 1) (ls' := [(0, .int x0), (1, .int (x1 + ((x0 >>> (x2 &&& 31)) &&& (1 : Int32)))), (2, .int (x2 + (1 : Int32)))]) hX 2 dX6_ones_18 rfl (by decide) (by decide) rfl rfl ?_
      refine JJ.goto (tgt := 4) hX dX6_ones_21 (by decide) ?_
      exact ih _ _ _ _ h K
set_option maxRecDepth 100000 in
theorem ct_M_ones (p0 : Int32) (σ : ST) (res : Int32) (h : f_M_ones p0 σ = some res) : Ct 0 yX6_ones cX6_ones 3 (some .int) (fun ad => [.int p0]) σ (some (.int res)) σ := by
  refine Ct.of (ls := fun ad => [(0, .int p0)]) (by decide +kernel) (fun ad => Nat.le_of_ble_eq_true rfl) (fun ad => rfl) (fun X hX hM => ?_)
  replace hX : Ok X RX6 cX6_ones 3 0 := hX
  unfold f_M_ones at h
  refine JJ.iconst (v := 0) hX dX6_ones_0 (by decide) ?_
  refine JJ.istore_n (ls' := [(0, .int p0), (1, .int (0 : Int32))]) hX dX6_ones_1 (by decide) rfl rfl ?_
  refine JJ.iconst (v := 0) hX dX6_ones_2 (by decide) ?_
  refine JJ.istore_n (ls' := [(0, .int p0), (1, .int (0 : Int32)), (2, .int (0 : Int32))]) hX dX6_ones_3 (by decide) rfl rfl ?_
  obtain ⟨e2, h2, h⟩ := bnd h
  refine lp_M_ones_4 hX 400 _ _ _ _ h2 ?_
  refine JJ.iload_n hX 0 dX6_ones_24 rfl ?_
  obtain rfl := Option.some.inj h
  exact JJ.iret hX hM dX6_ones_25
set_option maxRecDepth 100000 in
theorem lp_M_worstBy_5 {X : CX} {σ : ST} (hX : Ok X RX6 cX6_worstBy 6 2) : ∀ (n : Nat) (x1 : Int32) (x2 : Int32) (x3 : Int32) (x4 : Int32) (e : (Int32)), f_M_worstBy_L5 n x1 x2 x3 x4 σ = some e → JJ X 47 [(3, .int e)] [] σ → JJ X 5 [(0, .ref (xad X 31)), (1, .int x1), (2, .int x2), (3, .int x3), (4, .int x4)] [] σ := by
  intro n
  induction n with
  | zero =>
    intro x1 x2 x3 x4 e h
    rw [f_M_worstBy_L5] at h
    cases h
  | succ n ih =>
    intro x1 x2 x3 x4 e h K
    rw [f_M_worstBy_L5] at h
    refine JJ.iload hX 4 dX6_worstBy_5 rfl ?_
    refine JJ.iconst (v := 3) hX dX6_worstBy_7 (by decide) ?_
    refine JJ.icmp_ge (tgt := 47) hX dX6_worstBy_8 (by decide) (fun c1 => ?_) (fun c1 => ?_)
    · replace h := ipos c1 h
      obtain rfl := Option.some.inj h
      exact JJ.sub [3] rfl K
    · replace h := ineg c1 h
      refine JJ.aload_n hX 0 dX6_worstBy_11 rfl ?_
      refine JJ.aload_n hX 0 dX6_worstBy_12 rfl ?_
      refine JJ.iload_n hX 1 dX6_worstBy_13 rfl ?_
      refine JJ.iload_n hX 2 dX6_worstBy_14 rfl ?_
      obtain ⟨q2, h2, h⟩ := bnd h
      refine JJ.callVi hX (ct_M_steppedFrom _ _ _ _ h2) cal_yX6_steppedFrom cav_yX6_steppedFrom lm_RX6_161 rfl rfl rfl (Rcv.obj hX (ci := 6) rfl rfl) (Nat.le_of_ble_eq_true rfl) ⟨by decide, by decide⟩ dX6_worstBy_15 ?_
      refine JJ.iload hX 4 dX6_worstBy_18 rfl ?_
      obtain ⟨q3, h3, h⟩ := bnd h
      refine JJ.callVi hX (ct_M_soundingIn _ _ _ _ h3) cal_yX6_soundingIn cav_yX6_soundingIn lm_RX6_164 rfl rfl rfl (Rcv.obj hX (ci := 6) rfl rfl) (Nat.le_of_ble_eq_true rfl) ⟨by decide, by decide⟩ dX6_worstBy_20 ?_
      obtain ⟨q4, h4, h⟩ := bnd h
      refine JJ.callSi hX (ct_M_ones _ _ _ h4) cal_yX6_ones cas_yX6_ones lm_RX6_174 rfl rfl (Nat.le_of_ble_eq_true rfl) ⟨by decide, by decide⟩ dX6_worstBy_23 ?_
      refine JJ.istore (ls' := [(0, .ref (xad X 31)), (1, .int x1), (2, .int x2), (3, .int x3), (4, .int x4), (5, .int q4)]) hX dX6_worstBy_26 (by decide) rfl rfl ?_
      refine JJ.iload hX 5 dX6_worstBy_28 rfl ?_
      refine JJ.iload_n hX 3 dX6_worstBy_30 rfl ?_
      refine JJ.icmp_le (tgt := 39) hX dX6_worstBy_31 (by decide) (fun c5 => ?_) (fun c5 => ?_)
      · replace h := ipos c5 h
        refine JJ.iload_n hX 3 dX6_worstBy_39 rfl ?_
        refine JJ.istore_n (ls' := [(0, .ref (xad X 31)), (1, .int x1), (2, .int x2), (3, .int x3), (4, .int x4), (5, .int q4)]) hX dX6_worstBy_40 (by decide) rfl rfl ?_
        refine JJ.iinc (v := 1) (ls' := [(0, .ref (xad X 31)), (1, .int x1), (2, .int x2), (3, .int x3), (4, .int (x4 + (1 : Int32))), (5, .int q4)]) hX 4 dX6_worstBy_41 rfl (by decide) (by decide) rfl rfl ?_
        refine JJ.goto (tgt := 5) hX dX6_worstBy_44 (by decide) ?_
        refine JJ.sub (ls' := [(0, .ref (xad X 31)), (1, .int x1), (2, .int x2), (3, .int x3), (4, .int (x4 + (1 : Int32)))]) [0, 1, 2, 3, 4] rfl ?_
        exact ih _ _ _ _ _ h K
      · replace h := ineg c5 h
        refine JJ.iload hX 5 dX6_worstBy_34 rfl ?_
        refine JJ.goto (tgt := 40) hX dX6_worstBy_36 (by decide) ?_
        refine JJ.istore_n (ls' := [(0, .ref (xad X 31)), (1, .int x1), (2, .int x2), (3, .int q4), (4, .int x4), (5, .int q4)]) hX dX6_worstBy_40 (by decide) rfl rfl ?_
        refine JJ.iinc (v := 1) (ls' := [(0, .ref (xad X 31)), (1, .int x1), (2, .int x2), (3, .int q4), (4, .int (x4 + (1 : Int32))), (5, .int q4)]) hX 4 dX6_worstBy_41 rfl (by decide) (by decide) rfl rfl ?_
        refine JJ.goto (tgt := 5) hX dX6_worstBy_44 (by decide) ?_
        refine JJ.sub (ls' := [(0, .ref (xad X 31)), (1, .int x1), (2, .int x2), (3, .int q4), (4, .int (x4 + (1 : Int32)))]) [0, 1, 2, 3, 4] rfl ?_
        exact ih _ _ _ _ _ h K
set_option maxRecDepth 100000 in
theorem ct_M_worstBy (p1 : Int32) (p2 : Int32) (σ : ST) (res : Int32) (h : f_M_worstBy p1 p2 σ = some res) : Ct 2 yX6_worstBy cX6_worstBy 6 (some .int) (fun ad => [.int p2, .int p1, .ref (ad 31)]) σ (some (.int res)) σ := by
  refine Ct.of (ls := fun ad => [(0, .ref (ad 31)), (1, .int p1), (2, .int p2)]) (by decide +kernel) (fun ad => Nat.le_of_ble_eq_true rfl) (fun ad => rfl) (fun X hX hM => ?_)
  replace hX : Ok X RX6 cX6_worstBy 6 2 := hX
  unfold f_M_worstBy at h
  refine JJ.iconst (v := 0) hX dX6_worstBy_0 (by decide) ?_
  refine JJ.istore_n (ls' := [(0, .ref (xad X 31)), (1, .int p1), (2, .int p2), (3, .int (0 : Int32))]) hX dX6_worstBy_1 (by decide) rfl rfl ?_
  refine JJ.iconst (v := 0) hX dX6_worstBy_2 (by decide) ?_
  refine JJ.istore (ls' := [(0, .ref (xad X 31)), (1, .int p1), (2, .int p2), (3, .int (0 : Int32)), (4, .int (0 : Int32))]) hX dX6_worstBy_3 (by decide) rfl rfl ?_
  obtain ⟨e6, h6, h⟩ := bnd h
  refine lp_M_worstBy_5 hX 400 _ _ _ _ _ h6 ?_
  refine JJ.iload_n hX 0 dX6_worstBy_47 rfl ?_
  obtain rfl := Option.some.inj h
  exact JJ.iret hX hM dX6_worstBy_48
