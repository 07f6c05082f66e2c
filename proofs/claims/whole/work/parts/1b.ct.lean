set_option maxRecDepth 100000 in
theorem lp_M_strayDigit_9 {X : CX} {σ : ST} (hX : Ok X RX6 cX6_strayDigit 3 0) : ∀ (n : Nat) (x1 : Int32) (x2 : Int32) (e : (Int32)), f_M_strayDigit_L9 n x1 x2 σ = some e → JJ X 73 [(1, .int e)] [] σ → JJ X 9 [(0, .ref (xad X 31)), (1, .int x1), (2, .int x2)] [] σ := by
  intro n
  induction n with
  | zero =>
    intro x1 x2 e h
    rw [f_M_strayDigit_L9] at h
    cases h
  | succ n ih =>
    intro x1 x2 e h K
    rw [f_M_strayDigit_L9] at h
    refine JJ.iload_n hX 2 dX6_strayDigit_9 rfl ?_
    refine JJ.if_lt (tgt := 73) hX dX6_strayDigit_10 (by decide) (fun c1 => ?_) (fun c1 => ?_)
    · replace h := ipos c1 h
      obtain rfl := Option.some.inj h
      exact JJ.sub [1] rfl K
    · replace h := ineg c1 h
      refine JJ.aload_n hX 0 dX6_strayDigit_13 rfl ?_
      refine fg_X6_13_31 hX dX6_strayDigit_14 ?_
      refine JJ.iconst (v := 3) hX dX6_strayDigit_17 (by decide) ?_
      refine JJ.iload_n hX 2 dX6_strayDigit_18 rfl ?_
      refine JJ.imul hX dX6_strayDigit_19 ?_
      refine JJ.iconst (v := 2) hX dX6_strayDigit_20 (by decide) ?_
      refine JJ.iadd hX dX6_strayDigit_21 ?_
      obtain ⟨c2, h⟩ := gte h
      refine ald_33 hX c2 dX6_strayDigit_22 ?_
      refine JJ.aload_n hX 0 dX6_strayDigit_23 rfl ?_
      refine fg_X6_59_31 hX dX6_strayDigit_24 ?_
      refine JJ.icmp_lt (tgt := 38) hX dX6_strayDigit_27 (by decide) (fun c3 => ?_) (fun c3 => ?_)
      · replace h := ipos c3 h
        refine JJ.iload_n hX 1 dX6_strayDigit_38 rfl ?_
        refine JJ.istore_n (ls' := [(0, .ref (xad X 31)), (1, .int x1), (2, .int x2)]) hX dX6_strayDigit_39 (by decide) rfl rfl ?_
        refine JJ.aload_n hX 0 dX6_strayDigit_40 rfl ?_
        refine fg_X6_13_31 hX dX6_strayDigit_41 ?_
        refine JJ.iconst (v := 3) hX dX6_strayDigit_44 (by decide) ?_
        refine JJ.iload_n hX 2 dX6_strayDigit_45 rfl ?_
        refine JJ.imul hX dX6_strayDigit_46 ?_
        refine JJ.iconst (v := 1) hX dX6_strayDigit_47 (by decide) ?_
        refine JJ.iadd hX dX6_strayDigit_48 ?_
        obtain ⟨c4, h⟩ := gte h
        refine ald_33 hX c4 dX6_strayDigit_49 ?_
        refine JJ.aload_n hX 0 dX6_strayDigit_50 rfl ?_
        refine fg_X6_59_31 hX dX6_strayDigit_51 ?_
        refine JJ.icmp_lt (tgt := 65) hX dX6_strayDigit_54 (by decide) (fun c5 => ?_) (fun c5 => ?_)
        · replace h := ipos c5 h
          refine JJ.iload_n hX 1 dX6_strayDigit_65 rfl ?_
          refine JJ.istore_n (ls' := [(0, .ref (xad X 31)), (1, .int x1), (2, .int x2)]) hX dX6_strayDigit_66 (by decide) rfl rfl ?_
          refine JJ.iinc (v := -1) (ls' := [(0, .ref (xad X 31)), (1, .int x1), (2, .int (x2 + (-1 : Int32)))]) hX 2 dX6_strayDigit_67 rfl (by decide) (by decide) rfl rfl ?_
          refine JJ.goto (tgt := 9) hX dX6_strayDigit_70 (by decide) ?_
          exact ih _ _ _ h K
        · replace h := ineg c5 h
          refine JJ.iconst (v := 4) hX dX6_strayDigit_57 (by decide) ?_
          refine JJ.iload_n hX 2 dX6_strayDigit_58 rfl ?_
          refine JJ.imul hX dX6_strayDigit_59 ?_
          refine JJ.iconst (v := 1) hX dX6_strayDigit_60 (by decide) ?_
          refine JJ.iadd hX dX6_strayDigit_61 ?_
          refine JJ.goto (tgt := 66) hX dX6_strayDigit_62 (by decide) ?_
          refine JJ.istore_n (ls' := [(0, .ref (xad X 31)), (1, .int (((4 : Int32) * x2) + (1 : Int32))), (2, .int x2)]) hX dX6_strayDigit_66 (by decide) rfl rfl ?_
          refine JJ.iinc (v := -1) (ls' := [(0, .ref (xad X 31)), (1, .int (((4 : Int32) * x2) + (1 : Int32))), (2, .int (x2 + (-1 : Int32)))]) hX 2 dX6_strayDigit_67 rfl (by decide) (by decide) rfl rfl ?_
          refine JJ.goto (tgt := 9) hX dX6_strayDigit_70 (by decide) ?_
          exact ih _ _ _ h K
      · replace h := ineg c3 h
        refine JJ.iconst (v := 4) hX dX6_strayDigit_30 (by decide) ?_
        refine JJ.iload_n hX 2 dX6_strayDigit_31 rfl ?_
        refine JJ.imul hX dX6_strayDigit_32 ?_
        refine JJ.iconst (v := 2) hX dX6_strayDigit_33 (by decide) ?_
        refine JJ.iadd hX dX6_strayDigit_34 ?_
        refine JJ.goto (tgt := 39) hX dX6_strayDigit_35 (by decide) ?_
        refine JJ.istore_n (ls' := [(0, .ref (xad X 31)), (1, .int (((4 : Int32) * x2) + (2 : Int32))), (2, .int x2)]) hX dX6_strayDigit_39 (by decide) rfl rfl ?_
        refine JJ.aload_n hX 0 dX6_strayDigit_40 rfl ?_
        refine fg_X6_13_31 hX dX6_strayDigit_41 ?_
        refine JJ.iconst (v := 3) hX dX6_strayDigit_44 (by decide) ?_
        refine JJ.iload_n hX 2 dX6_strayDigit_45 rfl ?_
        refine JJ.imul hX dX6_strayDigit_46 ?_
        refine JJ.iconst (v := 1) hX dX6_strayDigit_47 (by decide) ?_
        refine JJ.iadd hX dX6_strayDigit_48 ?_
        obtain ⟨c6, h⟩ := gte h
        refine ald_33 hX c6 dX6_strayDigit_49 ?_
        refine JJ.aload_n hX 0 dX6_strayDigit_50 rfl ?_
        refine fg_X6_59_31 hX dX6_strayDigit_51 ?_
        refine JJ.icmp_lt (tgt := 65) hX dX6_strayDigit_54 (by decide) (fun c7 => ?_) (fun c7 => ?_)
        · replace h := ipos c7 h
          refine JJ.iload_n hX 1 dX6_strayDigit_65 rfl ?_
          refine JJ.istore_n (ls' := [(0, .ref (xad X 31)), (1, .int (((4 : Int32) * x2) + (2 : Int32))), (2, .int x2)]) hX dX6_strayDigit_66 (by decide) rfl rfl ?_
          refine JJ.iinc (v := -1) (ls' := [(0, .ref (xad X 31)), (1, .int (((4 : Int32) * x2) + (2 : Int32))), (2, .int (x2 + (-1 : Int32)))]) hX 2 dX6_strayDigit_67 rfl (by decide) (by decide) rfl rfl ?_
          refine JJ.goto (tgt := 9) hX dX6_strayDigit_70 (by decide) ?_
          exact ih _ _ _ h K
        · replace h := ineg c7 h
          refine JJ.iconst (v := 4) hX dX6_strayDigit_57 (by decide) ?_
          refine JJ.iload_n hX 2 dX6_strayDigit_58 rfl ?_
          refine JJ.imul hX dX6_strayDigit_59 ?_
          refine JJ.iconst (v := 1) hX dX6_strayDigit_60 (by decide) ?_
          refine JJ.iadd hX dX6_strayDigit_61 ?_
          refine JJ.goto (tgt := 66) hX dX6_strayDigit_62 (by decide) ?_
          refine JJ.istore_n (ls' := [(0, .ref (xad X 31)), (1, .int (((4 : Int32) * x2) + (1 : Int32))), (2, .int x2)]) hX dX6_strayDigit_66 (by decide) rfl rfl ?_
          refine JJ.iinc (v := -1) (ls' := [(0, .ref (xad X 31)), (1, .int (((4 : Int32) * x2) + (1 : Int32))), (2, .int (x2 + (-1 : Int32)))]) hX 2 dX6_strayDigit_67 rfl (by decide) (by decide) rfl rfl ?_
          refine JJ.goto (tgt := 9) hX dX6_strayDigit_70 (by decide) ?_
          exact ih _ _ _ h K
set_option maxRecDepth 100000 in
theorem ct_M_strayDigit (σ : ST) (res : Int32) (h : f_M_strayDigit σ = some res) : Ct 0 yX6_strayDigit cX6_strayDigit 3 (some .int) (fun ad => [.ref (ad 31)]) σ (some (.int res)) σ := by
  refine Ct.of (ls := fun ad => [(0, .ref (ad 31))]) (by decide +kernel) (fun ad => Nat.le_of_ble_eq_true rfl) (fun ad => rfl) (fun X hX hM => ?_)
  replace hX : Ok X RX6 cX6_strayDigit 3 0 := hX
  unfold f_M_strayDigit at h
  refine JJ.iconst (v := -1) hX dX6_strayDigit_0 (by decide) ?_
  refine JJ.istore_n (ls' := [(0, .ref (xad X 31)), (1, .int (-1 : Int32))]) hX dX6_strayDigit_1 (by decide) rfl rfl ?_
  refine JJ.aload_n hX 0 dX6_strayDigit_2 rfl ?_
  refine fg_X6_59_31 hX dX6_strayDigit_3 ?_
  refine JJ.iconst (v := 1) hX dX6_strayDigit_6 (by decide) ?_
  refine JJ.isub hX dX6_strayDigit_7 ?_
  refine JJ.istore_n (ls' := [(0, .ref (xad X 31)), (1, .int (-1 : Int32)), (2, .int ((gI σ 3103) - (1 : Int32)))]) hX dX6_strayDigit_8 (by decide) rfl rfl ?_
  obtain ⟨e8, h8, h⟩ := bnd h
  refine lp_M_strayDigit_9 hX 400 _ _ _ h8 ?_
  refine JJ.iload_n hX 0 dX6_strayDigit_73 rfl ?_
  obtain rfl := Option.some.inj h
  exact JJ.iret hX hM dX6_strayDigit_74
set_option maxRecDepth 100000 in
theorem lp_M_faultOf_12 {X : CX} (hX : Ok X RX6 cX6_faultOf 3 2) : ∀ (n : Nat) (x1 : Int32) (σ : ST) (e : (Int32 × ST)), f_M_faultOf_L12 n x1 σ = some e → JJ X 39 [(0, .ref (xad X 31)), (1, .int e.1)] [] e.2 → JJ X 12 [(0, .ref (xad X 31)), (1, .int x1)] [] σ := by
  intro n
  induction n with
  | zero =>
    intro x1 σ e h
    rw [f_M_faultOf_L12] at h
    cases h
  | succ n ih =>
    intro x1 σ e h K
    rw [f_M_faultOf_L12] at h
    refine JJ.iload_n hX 1 dX6_faultOf_12 rfl ?_
    refine JJ.aload_n hX 0 dX6_faultOf_13 rfl ?_
    refine fg_X6_53_31 hX dX6_faultOf_14 ?_
    refine JJ.icmp_ge (tgt := 39) hX dX6_faultOf_17 (by decide) (fun c1 => ?_) (fun c1 => ?_)
    · replace h := ipos c1 h
      obtain rfl := Option.some.inj h
      exact K
    · replace h := ineg c1 h
      refine JJ.aload_n hX 0 dX6_faultOf_20 rfl ?_
      refine JJ.aload_n hX 0 dX6_faultOf_21 rfl ?_
      refine fg_X6_7_31 hX dX6_faultOf_22 ?_
      refine JJ.iload_n hX 1 dX6_faultOf_25 rfl ?_
      obtain ⟨c2, h⟩ := gte h
      refine ald_32 hX c2 dX6_faultOf_26 ?_
      obtain ⟨q3, h3, h⟩ := bnd h
      refine JJ.callVi hX (ct_M_go _ _ _ h3) cal_yX6_go cav_yX6_go lm_RX6_73 rfl rfl rfl (Rcv.obj hX (ci := 6) rfl rfl) (Nat.le_of_ble_eq_true rfl) ⟨by decide, by decide⟩ dX6_faultOf_27 ?_
      refine JJ.if_eq (tgt := 39) hX dX6_faultOf_30 (by decide) (fun c4 => ?_) (fun c4 => ?_)
      · replace h := ipos c4 h
        obtain rfl := Option.some.inj h
        exact K
      · replace h := ineg c4 h
        refine JJ.iinc (v := 1) (ls' := [(0, .ref (xad X 31)), (1, .int (x1 + (1 : Int32)))]) hX 1 dX6_faultOf_33 rfl (by decide) (by decide) rfl rfl ?_
        refine JJ.goto (tgt := 12) hX dX6_faultOf_36 (by decide) ?_
        exact ih _ _ _ h K
set_option maxRecDepth 100000 in
theorem ct_M_faultOf (σ : ST) (res : Int32 × ST) (h : f_M_faultOf σ = some res) : Ct 2 yX6_faultOf cX6_faultOf 3 (some .int) (fun ad => [.ref (ad 31)]) σ (some (.int res.1)) res.2 := by
  refine Ct.of (ls := fun ad => [(0, .ref (ad 31))]) (by decide +kernel) (fun ad => Nat.le_of_ble_eq_true rfl) (fun ad => rfl) (fun X hX hM => ?_)
  replace hX : Ok X RX6 cX6_faultOf 3 2 := hX
  unfold f_M_faultOf at h
  refine JJ.aload_n hX 0 dX6_faultOf_0 rfl ?_
  refine JJ.iconst (v := 0) hX dX6_faultOf_1 (by decide) ?_
  refine fp_X6_59_31 hX dX6_faultOf_2 ?_
  refine JJ.aload_n hX 0 dX6_faultOf_5 rfl ?_
  refine JJ.iconst (v := 0) hX dX6_faultOf_6 (by decide) ?_
  refine fp_X6_56_31 hX dX6_faultOf_7 ?_
  refine JJ.iconst (v := 0) hX dX6_faultOf_10 (by decide) ?_
  refine JJ.istore_n (ls' := [(0, .ref (xad X 31)), (1, .int (0 : Int32))]) hX dX6_faultOf_11 (by decide) rfl rfl ?_
  obtain ⟨e5, h5, h⟩ := bnd h
  refine lp_M_faultOf_12 hX 400 _ _ _ h5 ?_
  refine JJ.iload_n hX 1 dX6_faultOf_39 rfl ?_
  refine JJ.aload_n hX 0 dX6_faultOf_40 rfl ?_
  refine fg_X6_53_31 hX dX6_faultOf_41 ?_
  refine JJ.icmp_ne (tgt := 59) hX dX6_faultOf_44 (by decide) (fun c6 => ?_) (fun c6 => ?_)
  · replace h := ineg c6 h
    refine JJ.iconst (v := 0) hX dX6_faultOf_59 (by decide) ?_
    refine JJ.istore_n (ls' := [(0, .ref (xad X 31)), (1, .int e5.1), (2, .int (0 : Int32))]) hX dX6_faultOf_60 (by decide) rfl rfl ?_
    refine JJ.iload_n hX 2 dX6_faultOf_61 rfl ?_
    refine JJ.if_eq (tgt := 80) hX dX6_faultOf_62 (by decide) (fun _ => ?_) (fun c7 => absurd c7 (by decide))
    refine JJ.iload_n hX 1 dX6_faultOf_80 rfl ?_
    obtain rfl := Option.some.inj h
    exact JJ.iret hX hM dX6_faultOf_81
  · replace h := ipos c6 h
    refine JJ.aload_n hX 0 dX6_faultOf_47 rfl ?_
    refine fg_X6_56_31 hX dX6_faultOf_48 ?_
    refine JJ.iconst (v := 5) hX dX6_faultOf_51 (by decide) ?_
    refine JJ.icmp_ne (tgt := 59) hX dX6_faultOf_52 (by decide) (fun c8 => ?_) (fun c8 => ?_)
    · replace h := ineg c8 h
      refine JJ.iconst (v := 0) hX dX6_faultOf_59 (by decide) ?_
      refine JJ.istore_n (ls' := [(0, .ref (xad X 31)), (1, .int e5.1), (2, .int (0 : Int32))]) hX dX6_faultOf_60 (by decide) rfl rfl ?_
      refine JJ.iload_n hX 2 dX6_faultOf_61 rfl ?_
      refine JJ.if_eq (tgt := 80) hX dX6_faultOf_62 (by decide) (fun _ => ?_) (fun c9 => absurd c9 (by decide))
      refine JJ.iload_n hX 1 dX6_faultOf_80 rfl ?_
      obtain rfl := Option.some.inj h
      exact JJ.iret hX hM dX6_faultOf_81
    · replace h := ipos c8 h
      refine JJ.iconst (v := 1) hX dX6_faultOf_55 (by decide) ?_
      refine JJ.goto (tgt := 60) hX dX6_faultOf_56 (by decide) ?_
      refine JJ.istore_n (ls' := [(0, .ref (xad X 31)), (1, .int e5.1), (2, .int (1 : Int32))]) hX dX6_faultOf_60 (by decide) rfl rfl ?_
      refine JJ.iload_n hX 2 dX6_faultOf_61 rfl ?_
      refine JJ.if_eq (tgt := 80) hX dX6_faultOf_62 (by decide) (fun c10 => absurd c10 (by decide)) (fun _ => ?_)
      refine JJ.aload_n hX 0 dX6_faultOf_65 rfl ?_
      obtain ⟨q11, h11, h⟩ := bnd h
      refine JJ.callVi hX (ct_M_strayDigit  _ _ h11) cal_yX6_strayDigit cav_yX6_strayDigit lm_RX6_77 rfl rfl rfl (Rcv.obj hX (ci := 6) rfl rfl) (Nat.le_of_ble_eq_true rfl) ⟨by decide, by decide⟩ dX6_faultOf_66 ?_
      refine JJ.iconst (v := -1) hX dX6_faultOf_69 (by decide) ?_
      refine JJ.icmp_eq (tgt := 80) hX dX6_faultOf_70 (by decide) (fun c12 => ?_) (fun c12 => ?_)
      · replace h := ipos c12 h
        refine JJ.iload_n hX 1 dX6_faultOf_80 rfl ?_
        obtain rfl := Option.some.inj h
        exact JJ.iret hX hM dX6_faultOf_81
      · replace h := ineg c12 h
        refine JJ.aload_n hX 0 dX6_faultOf_73 rfl ?_
        obtain ⟨q13, h13, h⟩ := bnd h
        refine JJ.callVi hX (ct_M_strayDigit  _ _ h13) cal_yX6_strayDigit cav_yX6_strayDigit lm_RX6_77 rfl rfl rfl (Rcv.obj hX (ci := 6) rfl rfl) (Nat.le_of_ble_eq_true rfl) ⟨by decide, by decide⟩ dX6_faultOf_74 ?_
        refine JJ.goto (tgt := 81) hX dX6_faultOf_77 (by decide) ?_
        obtain rfl := Option.some.inj h
        exact JJ.iret hX hM dX6_faultOf_81
set_option maxRecDepth 100000 in
theorem ct_M_fault (σ : ST) (res : Int32 × ST) (h : f_M_fault σ = some res) : Ct 3 yX6_fault cX6_fault 1 (some .int) (fun ad => [.ref (ad 31)]) σ (some (.int res.1)) res.2 := by
  refine Ct.of (ls := fun ad => [(0, .ref (ad 31))]) (by decide +kernel) (fun ad => Nat.le_of_ble_eq_true rfl) (fun ad => rfl) (fun X hX hM => ?_)
  replace hX : Ok X RX6 cX6_fault 1 3 := hX
  unfold f_M_fault at h
  refine JJ.aload_n hX 0 dX6_fault_0 rfl ?_
  obtain ⟨q1, h1, h⟩ := bnd h
  refine JJ.callVi hX (ct_M_faultOf  _ _ h1) cal_yX6_faultOf cav_yX6_faultOf lm_RX6_81 rfl rfl rfl (Rcv.obj hX (ci := 6) rfl rfl) (Nat.le_of_ble_eq_true rfl) ⟨by decide, by decide⟩ dX6_fault_1 ?_
  obtain rfl := Option.some.inj h
  exact JJ.iret hX hM dX6_fault_4
set_option maxRecDepth 100000 in
theorem ct_Page_isMine (σ : ST) (res : Int32) (h : f_Page_isMine σ = some res) : Ct 8 yX2_isMine cX2_isMine 1 (some .boolean) (fun ad => [.ref (ad 1)]) σ (some (.int res)) σ := by
  refine Ct.of (ls := fun ad => [(0, .ref (ad 1))]) (by decide +kernel) (fun ad => Nat.le_of_ble_eq_true rfl) (fun ad => rfl) (fun X hX hM => ?_)
  replace hX : Ok X RX2 cX2_isMine 1 8 := hX
  unfold f_Page_isMine at h
  refine JJ.aload_n hX 0 dX2_isMine_0 rfl ?_
  refine JJ.callVi hX (ct_Page_isClosed  _ _ rfl) cal_yX2_isClosed cav_yX2_isClosed lm_RX2_27 rfl rfl rfl (Rcv.obj hX (ci := 2) rfl rfl) (Nat.le_of_ble_eq_true rfl) ⟨by decide, by decide⟩ dX2_isMine_1 ?_
  refine JJ.if_eq (tgt := 22) hX dX2_isMine_4 (by decide) (fun c1 => ?_) (fun c1 => ?_)
  · replace h := ipos c1 h
    refine JJ.iconst (v := 0) hX dX2_isMine_22 (by decide) ?_
    obtain rfl := Option.some.inj h
    exact JJ.zret hX hM (by decide) dX2_isMine_23
  · replace h := ineg c1 h
    refine JJ.aload_n hX 0 dX2_isMine_7 rfl ?_
    obtain ⟨q2, h2, h⟩ := bnd h
    refine JJ.callVi hX (ct_Page_faultPlace  _ _ h2) cal_yX2_faultPlace cav_yX2_faultPlace lm_RX2_31 rfl rfl rfl (Rcv.obj hX (ci := 2) rfl rfl) (Nat.le_of_ble_eq_true rfl) ⟨by decide, by decide⟩ dX2_isMine_8 ?_
    refine JJ.aload_n hX 0 dX2_isMine_11 rfl ?_
    refine fg_X2_15_1 hX dX2_isMine_12 ?_
    refine JJ.icmp_ne (tgt := 22) hX dX2_isMine_15 (by decide) (fun c3 => ?_) (fun c3 => ?_)
    · replace h := ineg c3 h
      refine JJ.iconst (v := 0) hX dX2_isMine_22 (by decide) ?_
      obtain rfl := Option.some.inj h
      exact JJ.zret hX hM (by decide) dX2_isMine_23
    · replace h := ipos c3 h
      refine JJ.iconst (v := 1) hX dX2_isMine_18 (by decide) ?_
      refine JJ.goto (tgt := 23) hX dX2_isMine_19 (by decide) ?_
      obtain rfl := Option.some.inj h
      exact JJ.zret hX hM (by decide) dX2_isMine_23
set_option maxRecDepth 100000 in
theorem ct_Mine_kindOf (p1 : Int32) (σ : ST) (res : Int32) (h : f_Mine_kindOf p1 σ = res) : Ct 1 yX1_kindOf cX1_kindOf 2 (some .int) (fun ad => [.int p1, .ref (ad 3)]) σ (some (.int res)) σ := by
  refine Ct.of (ls := fun ad => [(0, .ref (ad 3)), (1, .int p1)]) (by decide +kernel) (fun ad => Nat.le_of_ble_eq_true rfl) (fun ad => rfl) (fun X hX hM => ?_)
  replace hX : Ok X RX1 cX1_kindOf 2 1 := hX
  unfold f_Mine_kindOf at h
  refine JJ.aload_n hX 0 dX1_kindOf_0 rfl ?_
  refine fg_X1_9_3 hX dX1_kindOf_1 ?_
  refine JJ.iload_n hX 1 dX1_kindOf_4 rfl ?_
  refine JJ.callSNi hX (ct_cell 4 6 (by decide) (fun _ _ _ => rfl) _ _ _ rfl) cal_yX5_cell cas_yX5_cell lm_RX1_48 rfl rfl (Nat.le_of_ble_eq_true rfl) ⟨by decide, by decide⟩ dX1_kindOf_5 ?_
  subst h
  exact JJ.iret hX hM dX1_kindOf_8
set_option maxRecDepth 100000 in
theorem lp_Mine_readFrom_1_26 {X : CX} (hX : Ok X RX1 cX1_readFrom 4 5) : ∀ (n : Nat) (x2 : Int32) (σ : ST) (e : (ST)), f_Mine_readFrom_1_L26 n x2 σ = some e → JJ X 129 [] [] e → JJ X 26 [(0, .ref (xad X 3)), (1, .ref (xad X 1)), (2, .int x2)] [] σ := by
  intro n
  induction n with
  | zero =>
    intro x2 σ e h
    rw [f_Mine_readFrom_1_L26] at h
    cases h
  | succ n ih =>
    intro x2 σ e h K
    rw [f_Mine_readFrom_1_L26] at h
    refine JJ.iload_n hX 2 dX1_readFrom_26 rfl ?_
    refine JJ.aload_n hX 0 dX1_readFrom_27 rfl ?_
    refine fg_X1_27_3 hX dX1_readFrom_28 ?_
    refine JJ.icmp_ge (tgt := 129) hX dX1_readFrom_31 (by decide) (fun c1 => ?_) (fun c1 => ?_)
    · replace h := ipos c1 h
      obtain rfl := Option.some.inj h
      exact JJ.sub [] rfl K
    · replace h := ineg c1 h
      refine JJ.aload_n hX 0 dX1_readFrom_34 rfl ?_
      refine fg_X1_9_3 hX dX1_readFrom_35 ?_
      refine JJ.iload_n hX 2 dX1_readFrom_38 rfl ?_
      refine JJ.aload_n hX 1 dX1_readFrom_39 rfl ?_
      refine JJ.iconst (v := 4) hX dX1_readFrom_40 (by decide) ?_
      refine JJ.iload_n hX 2 dX1_readFrom_41 rfl ?_
      refine JJ.imul hX dX1_readFrom_42 ?_
      refine JJ.callVi hX (ct_Page_codeAt _ _ _ rfl) cal_yX2_codeAt cav_yX2_codeAt lm_RX1_35 rfl rfl rfl (Rcv.obj hX (ci := 2) rfl rfl) (Nat.le_of_ble_eq_true rfl) ⟨by decide, by decide⟩ dX1_readFrom_43 ?_
      obtain ⟨q2, h2, h⟩ := bnd h
      refine JJ.callSNi hX (ct_Page_kindOfSign _ _ _ h2) cal_yX2_kindOfSign cas_yX2_kindOfSign lm_RX1_38 rfl rfl (Nat.le_of_ble_eq_true rfl) ⟨by decide, by decide⟩ dX1_readFrom_46 ?_
      refine JJ.callSNv hX (ct_put 4 6 (by decide) (fun _ _ _ => rfl) (fun _ _ _ _ _ => rfl) _ _ _ _ rfl) cal_yX5_put cas_yX5_put lm_RX1_41 rfl rfl (Nat.le_of_ble_eq_true rfl) ⟨by decide, by decide⟩ dX1_readFrom_49 ?_
      refine JJ.aload_n hX 0 dX1_readFrom_52 rfl ?_
      refine JJ.iload_n hX 2 dX1_readFrom_53 rfl ?_
      refine JJ.callVi hX (ct_Mine_kindOf _ _ _ rfl) cal_yX1_kindOf cav_yX1_kindOf lm_RX1_45 rfl rfl rfl (Rcv.obj hX (ci := 1) rfl rfl) (Nat.le_of_ble_eq_true rfl) ⟨by decide, by decide⟩ dX1_readFrom_54 ?_
      refine JJ.iconst (v := 2) hX dX1_readFrom_57 (by decide) ?_
      refine JJ.icmp_ne (tgt := 65) hX dX1_readFrom_58 (by decide) (fun c3 => ?_) (fun c3 => ?_)
      · replace h := ineg c3 h
        refine JJ.iconst (v := 0) hX dX1_readFrom_65 (by decide) ?_
        refine JJ.istore_n (ls' := [(0, .ref (xad X 3)), (1, .ref (xad X 1)), (2, .int x2), (3, .int (0 : Int32))]) hX dX1_readFrom_66 (by decide) rfl rfl ?_
        refine JJ.iload_n hX 3 dX1_readFrom_67 rfl ?_
        refine JJ.if_eq (tgt := 78) hX dX1_readFrom_68 (by decide) (fun _ => ?_) (fun c4 => absurd c4 (by decide))
        refine JJ.aload_n hX 0 dX1_readFrom_78 rfl ?_
        refine fg_X1_15_3 hX dX1_readFrom_79 ?_
        refine JJ.iload_n hX 2 dX1_readFrom_82 rfl ?_
        refine JJ.aload_n hX 1 dX1_readFrom_83 rfl ?_
        refine JJ.iconst (v := 4) hX dX1_readFrom_84 (by decide) ?_
        refine JJ.iload_n hX 2 dX1_readFrom_85 rfl ?_
        refine JJ.imul hX dX1_readFrom_86 ?_
        refine JJ.iconst (v := 1) hX dX1_readFrom_87 (by decide) ?_
        refine JJ.iadd hX dX1_readFrom_88 ?_
        refine JJ.callVi hX (ct_Page_digitAt _ _ _ rfl) cal_yX2_digitAt cav_yX2_digitAt lm_RX1_28 rfl rfl rfl (Rcv.obj hX (ci := 2) rfl rfl) (Nat.le_of_ble_eq_true rfl) ⟨by decide, by decide⟩ dX1_readFrom_89 ?_
        refine JJ.callSNv hX (ct_put 5 6 (by decide) (fun _ _ _ => rfl) (fun _ _ _ _ _ => rfl) _ _ _ _ rfl) cal_yX5_put cas_yX5_put lm_RX1_41 rfl rfl (Nat.le_of_ble_eq_true rfl) ⟨by decide, by decide⟩ dX1_readFrom_92 ?_
        refine JJ.iload_n hX 3 dX1_readFrom_95 rfl ?_
        refine JJ.if_eq (tgt := 106) hX dX1_readFrom_96 (by decide) (fun _ => ?_) (fun c5 => absurd c5 (by decide))
        refine JJ.aload_n hX 0 dX1_readFrom_106 rfl ?_
        refine fg_X1_18_3 hX dX1_readFrom_107 ?_
        refine JJ.iload_n hX 2 dX1_readFrom_110 rfl ?_
        refine JJ.aload_n hX 1 dX1_readFrom_111 rfl ?_
        refine JJ.iconst (v := 4) hX dX1_readFrom_112 (by decide) ?_
        refine JJ.iload_n hX 2 dX1_readFrom_113 rfl ?_
        refine JJ.imul hX dX1_readFrom_114 ?_
        refine JJ.iconst (v := 2) hX dX1_readFrom_115 (by decide) ?_
        refine JJ.iadd hX dX1_readFrom_116 ?_
        refine JJ.callVi hX (ct_Page_digitAt _ _ _ rfl) cal_yX2_digitAt cav_yX2_digitAt lm_RX1_28 rfl rfl rfl (Rcv.obj hX (ci := 2) rfl rfl) (Nat.le_of_ble_eq_true rfl) ⟨by decide, by decide⟩ dX1_readFrom_117 ?_
        refine JJ.callSNv hX (ct_put 6 6 (by decide) (fun _ _ _ => rfl) (fun _ _ _ _ _ => rfl) _ _ _ _ rfl) cal_yX5_put cas_yX5_put lm_RX1_41 rfl rfl (Nat.le_of_ble_eq_true rfl) ⟨by decide, by decide⟩ dX1_readFrom_120 ?_
        refine JJ.iinc (v := 1) (ls' := [(0, .ref (xad X 3)), (1, .ref (xad X 1)), (2, .int (x2 + (1 : Int32))), (3, .int (0 : Int32))]) hX 2 dX1_readFrom_123 rfl (by decide) (by decide) rfl rfl ?_
        refine JJ.goto (tgt := 26) hX dX1_readFrom_126 (by decide) ?_
        refine JJ.sub (ls' := [(0, .ref (xad X 3)), (1, .ref (xad X 1)), (2, .int (x2 + (1 : Int32)))]) [0, 1, 2] rfl ?_
        exact ih _ _ _ h K
      · replace h := ipos c3 h
        refine JJ.iconst (v := 1) hX dX1_readFrom_61 (by decide) ?_
        refine JJ.goto (tgt := 66) hX dX1_readFrom_62 (by decide) ?_
        refine JJ.istore_n (ls' := [(0, .ref (xad X 3)), (1, .ref (xad X 1)), (2, .int x2), (3, .int (1 : Int32))]) hX dX1_readFrom_66 (by decide) rfl rfl ?_
        refine JJ.iload_n hX 3 dX1_readFrom_67 rfl ?_
        refine JJ.if_eq (tgt := 78) hX dX1_readFrom_68 (by decide) (fun c6 => absurd c6 (by decide)) (fun _ => ?_)
        refine JJ.aload_n hX 0 dX1_readFrom_71 rfl ?_
        refine fg_X1_18_3 hX dX1_readFrom_72 ?_
        refine JJ.goto (tgt := 82) hX dX1_readFrom_75 (by decide) ?_
        refine JJ.iload_n hX 2 dX1_readFrom_82 rfl ?_
        refine JJ.aload_n hX 1 dX1_readFrom_83 rfl ?_
        refine JJ.iconst (v := 4) hX dX1_readFrom_84 (by decide) ?_
        refine JJ.iload_n hX 2 dX1_readFrom_85 rfl ?_
        refine JJ.imul hX dX1_readFrom_86 ?_
        refine JJ.iconst (v := 1) hX dX1_readFrom_87 (by decide) ?_
        refine JJ.iadd hX dX1_readFrom_88 ?_
        refine JJ.callVi hX (ct_Page_digitAt _ _ _ rfl) cal_yX2_digitAt cav_yX2_digitAt lm_RX1_28 rfl rfl rfl (Rcv.obj hX (ci := 2) rfl rfl) (Nat.le_of_ble_eq_true rfl) ⟨by decide, by decide⟩ dX1_readFrom_89 ?_
        refine JJ.callSNv hX (ct_put 6 6 (by decide) (fun _ _ _ => rfl) (fun _ _ _ _ _ => rfl) _ _ _ _ rfl) cal_yX5_put cas_yX5_put lm_RX1_41 rfl rfl (Nat.le_of_ble_eq_true rfl) ⟨by decide, by decide⟩ dX1_readFrom_92 ?_
        refine JJ.iload_n hX 3 dX1_readFrom_95 rfl ?_
        refine JJ.if_eq (tgt := 106) hX dX1_readFrom_96 (by decide) (fun c7 => absurd c7 (by decide)) (fun _ => ?_)
        refine JJ.aload_n hX 0 dX1_readFrom_99 rfl ?_
        refine fg_X1_15_3 hX dX1_readFrom_100 ?_
        refine JJ.goto (tgt := 110) hX dX1_readFrom_103 (by decide) ?_
        refine JJ.iload_n hX 2 dX1_readFrom_110 rfl ?_
        refine JJ.aload_n hX 1 dX1_readFrom_111 rfl ?_
        refine JJ.iconst (v := 4) hX dX1_readFrom_112 (by decide) ?_
        refine JJ.iload_n hX 2 dX1_readFrom_113 rfl ?_
        refine JJ.imul hX dX1_readFrom_114 ?_
        refine JJ.iconst (v := 2) hX dX1_readFrom_115 (by decide) ?_
        refine JJ.iadd hX dX1_readFrom_116 ?_
        refine JJ.callVi hX (ct_Page_digitAt _ _ _ rfl) cal_yX2_digitAt cav_yX2_digitAt lm_RX1_28 rfl rfl rfl (Rcv.obj hX (ci := 2) rfl rfl) (Nat.le_of_ble_eq_true rfl) ⟨by decide, by decide⟩ dX1_readFrom_117 ?_
        refine JJ.callSNv hX (ct_put 5 6 (by decide) (fun _ _ _ => rfl) (fun _ _ _ _ _ => rfl) _ _ _ _ rfl) cal_yX5_put cas_yX5_put lm_RX1_41 rfl rfl (Nat.le_of_ble_eq_true rfl) ⟨by decide, by decide⟩ dX1_readFrom_120 ?_
        refine JJ.iinc (v := 1) (ls' := [(0, .ref (xad X 3)), (1, .ref (xad X 1)), (2, .int (x2 + (1 : Int32))), (3, .int (1 : Int32))]) hX 2 dX1_readFrom_123 rfl (by decide) (by decide) rfl rfl ?_
        refine JJ.goto (tgt := 26) hX dX1_readFrom_126 (by decide) ?_
        refine JJ.sub (ls' := [(0, .ref (xad X 3)), (1, .ref (xad X 1)), (2, .int (x2 + (1 : Int32)))]) [0, 1, 2] rfl ?_
        exact ih _ _ _ h K
set_option maxRecDepth 100000 in
theorem ct_Mine_readFrom_1 (σ : ST) (res : ST) (h : f_Mine_readFrom_1 σ = some res) : Ct 5 yX1_readFrom cX1_readFrom 4 none (fun ad => [.ref (ad 1), .ref (ad 3)]) σ none res := by
  refine Ct.of (ls := fun ad => [(0, .ref (ad 3)), (1, .ref (ad 1))]) (by decide +kernel) (fun ad => Nat.le_of_ble_eq_true rfl) (fun ad => rfl) (fun X hX hM => ?_)
  replace hX : Ok X RX1 cX1_readFrom 4 5 := hX
  unfold f_Mine_readFrom_1 at h
  refine JJ.aload_n hX 0 dX1_readFrom_0 rfl ?_
  refine JJ.aload_n hX 1 dX1_readFrom_1 rfl ?_
  refine fg_X1_21_1 hX dX1_readFrom_2 ?_
  refine JJ.iconst (v := 4) hX dX1_readFrom_5 (by decide) ?_
  refine JJ.idiv hX dX1_readFrom_6 (by decide) ?_
  refine fp_X1_27_3 hX dX1_readFrom_7 ?_
  refine JJ.aload_n hX 0 dX1_readFrom_10 rfl ?_
  refine JJ.aload_n hX 1 dX1_readFrom_11 rfl ?_
  refine JJ.aload_n hX 1 dX1_readFrom_12 rfl ?_
  refine fg_X1_21_1 hX dX1_readFrom_13 ?_
  refine JJ.iconst (v := 1) hX dX1_readFrom_16 (by decide) ?_
  refine JJ.isub hX dX1_readFrom_17 ?_
  refine JJ.callVi hX (ct_Page_digitAt _ _ _ rfl) cal_yX2_digitAt cav_yX2_digitAt lm_RX1_28 rfl rfl rfl (Rcv.obj hX (ci := 2) rfl rfl) (Nat.le_of_ble_eq_true rfl) ⟨by decide, by decide⟩ dX1_readFrom_18 ?_
  refine fp_X1_32_3 hX dX1_readFrom_21 ?_
  refine JJ.iconst (v := 0) hX dX1_readFrom_24 (by decide) ?_
  refine JJ.istore_n (ls' := [(0, .ref (xad X 3)), (1, .ref (xad X 1)), (2, .int (0 : Int32))]) hX dX1_readFrom_25 (by decide) rfl rfl ?_
  obtain ⟨e8, h8, h⟩ := bnd h
  refine lp_Mine_readFrom_1_26 hX 400 _ _ _ h8 ?_
  obtain rfl := Option.some.inj h
  exact JJ.vret hX hM dX1_readFrom_129
set_option maxRecDepth 100000 in
theorem ct_Table_set_8 (p1 : Int32) (p2 : Int32) (p3 : Int32) (σ : ST) (res : ST) (h : f_Table_set_8 p1 p2 p3 σ = res) : Ct 1 yX3_set cX3_set 4 none (fun ad => [.int p3, .int p2, .int p1, .ref (ad 8)]) σ none res := by
  refine Ct.of (ls := fun ad => [(0, .ref (ad 8)), (1, .int p1), (2, .int p2), (3, .int p3)]) (by decide +kernel) (fun ad => Nat.le_of_ble_eq_true rfl) (fun ad => rfl) (fun X hX hM => ?_)
  replace hX : Ok X RX3 cX3_set 4 1 := hX
  unfold f_Table_set_8 at h
  refine JJ.aload_n hX 0 dX3_set_0 rfl ?_
  refine fg_X3_9_8 hX dX3_set_1 ?_
  refine JJ.iload_n hX 1 dX3_set_4 rfl ?_
  refine JJ.bipush (v := 6) hX dX3_set_5 (by decide) ?_
  refine JJ.imul hX dX3_set_7 ?_
  refine JJ.iload_n hX 2 dX3_set_8 rfl ?_
  refine JJ.iadd hX dX3_set_9 ?_
  refine JJ.iload_n hX 3 dX3_set_10 rfl ?_
  refine JJ.callSNv hX (ct_put 12 36 (by decide) (fun _ _ _ => rfl) (fun _ _ _ _ _ => rfl) _ _ _ _ rfl) cal_yX5_put cas_yX5_put lm_RX3_19 rfl rfl (Nat.le_of_ble_eq_true rfl) ⟨by decide, by decide⟩ dX3_set_11 ?_
  subst h
  exact JJ.vret hX hM dX3_set_14
set_option maxRecDepth 100000 in
theorem ct_Table_set_9 (p1 : Int32) (p2 : Int32) (p3 : Int32) (σ : ST) (res : ST) (h : f_Table_set_9 p1 p2 p3 σ = res) : Ct 1 yX3_set cX3_set 4 none (fun ad => [.int p3, .int p2, .int p1, .ref (ad 9)]) σ none res := by
  refine Ct.of (ls := fun ad => [(0, .ref (ad 9)), (1, .int p1), (2, .int p2), (3, .int p3)]) (by decide +kernel) (fun ad => Nat.le_of_ble_eq_true rfl) (fun ad => rfl) (fun X hX hM => ?_)
  replace hX : Ok X RX3 cX3_set 4 1 := hX
  unfold f_Table_set_9 at h
  refine JJ.aload_n hX 0 dX3_set_0 rfl ?_
  refine fg_X3_9_9 hX dX3_set_1 ?_
  refine JJ.iload_n hX 1 dX3_set_4 rfl ?_
  refine JJ.bipush (v := 6) hX dX3_set_5 (by decide) ?_
  refine JJ.imul hX dX3_set_7 ?_
  refine JJ.iload_n hX 2 dX3_set_8 rfl ?_
  refine JJ.iadd hX dX3_set_9 ?_
  refine JJ.iload_n hX 3 dX3_set_10 rfl ?_
  refine JJ.callSNv hX (ct_put 13 36 (by decide) (fun _ _ _ => rfl) (fun _ _ _ _ _ => rfl) _ _ _ _ rfl) cal_yX5_put cas_yX5_put lm_RX3_19 rfl rfl (Nat.le_of_ble_eq_true rfl) ⟨by decide, by decide⟩ dX3_set_11 ?_
  subst h
  exact JJ.vret hX hM dX3_set_14
set_option maxRecDepth 100000 in
theorem ct_Table_set_10 (p1 : Int32) (p2 : Int32) (p3 : Int32) (σ : ST) (res : ST) (h : f_Table_set_10 p1 p2 p3 σ = res) : Ct 1 yX3_set cX3_set 4 none (fun ad => [.int p3, .int p2, .int p1, .ref (ad 10)]) σ none res := by
  refine Ct.of (ls := fun ad => [(0, .ref (ad 10)), (1, .int p1), (2, .int p2), (3, .int p3)]) (by decide +kernel) (fun ad => Nat.le_of_ble_eq_true rfl) (fun ad => rfl) (fun X hX hM => ?_)
  replace hX : Ok X RX3 cX3_set 4 1 := hX
  unfold f_Table_set_10 at h
  refine JJ.aload_n hX 0 dX3_set_0 rfl ?_
  refine fg_X3_9_10 hX dX3_set_1 ?_
  refine JJ.iload_n hX 1 dX3_set_4 rfl ?_
  refine JJ.bipush (v := 6) hX dX3_set_5 (by decide) ?_
  refine JJ.imul hX dX3_set_7 ?_
  refine JJ.iload_n hX 2 dX3_set_8 rfl ?_
  refine JJ.iadd hX dX3_set_9 ?_
  refine JJ.iload_n hX 3 dX3_set_10 rfl ?_
  refine JJ.callSNv hX (ct_put 14 36 (by decide) (fun _ _ _ => rfl) (fun _ _ _ _ _ => rfl) _ _ _ _ rfl) cal_yX5_put cas_yX5_put lm_RX3_19 rfl rfl (Nat.le_of_ble_eq_true rfl) ⟨by decide, by decide⟩ dX3_set_11 ?_
  subst h
  exact JJ.vret hX hM dX3_set_14
set_option maxRecDepth 100000 in
theorem ct_Mine_soundOf (p1 : Int32) (σ : ST) (res : Int32) (h : f_Mine_soundOf p1 σ = res) : Ct 2 yX1_soundOf cX1_soundOf 2 (some .int) (fun ad => [.int p1, .ref (ad 3)]) σ (some (.int res)) σ := by
  refine Ct.of (ls := fun ad => [(0, .ref (ad 3)), (1, .int p1)]) (by decide +kernel) (fun ad => Nat.le_of_ble_eq_true rfl) (fun ad => rfl) (fun X hX hM => ?_)
  replace hX : Ok X RX1 cX1_soundOf 2 2 := hX
  unfold f_Mine_soundOf at h
  refine JJ.aload_n hX 0 dX1_soundOf_0 rfl ?_
  refine JJ.iload_n hX 1 dX1_soundOf_1 rfl ?_
  refine JJ.callVi hX (ct_Mine_kindOf _ _ _ rfl) cal_yX1_kindOf cav_yX1_kindOf lm_RX1_45 rfl rfl rfl (Rcv.obj hX (ci := 1) rfl rfl) (Nat.le_of_ble_eq_true rfl) ⟨by decide, by decide⟩ dX1_soundOf_2 ?_
  by_cases c1 : (f_Mine_kindOf p1 σ) = (1 : Int32)
  · replace h := ipos c1 h
    refine JJ.lookup (off := 27) (tgt := 32) hX dX1_soundOf_5 (by decide) (by rw [c1]; rfl) (by decide) ?_
    refine JJ.iconst (v := 1) hX dX1_soundOf_32 (by decide) ?_
    subst h
    exact JJ.iret hX hM dX1_soundOf_33
  · replace h := ineg c1 h
    by_cases c2 : (f_Mine_kindOf p1 σ) = (4 : Int32)
    · replace h := ipos c2 h
      refine JJ.lookup (off := 29) (tgt := 34) hX dX1_soundOf_5 (by decide) (by rw [c2]; rfl) (by decide) ?_
      refine JJ.iconst (v := 2) hX dX1_soundOf_34 (by decide) ?_
      subst h
      exact JJ.iret hX hM dX1_soundOf_35
    · replace h := ineg c2 h
      refine JJ.lookup (off := 31) (tgt := 36) hX dX1_soundOf_5 (by decide) (lk_out2 (a := 1) (b := 4) (o0 := 27) (o1 := 29) c1 c2) (by decide) ?_
      refine JJ.iconst (v := 0) hX dX1_soundOf_36 (by decide) ?_
      subst h
      exact JJ.iret hX hM dX1_soundOf_37
set_option maxRecDepth 100000 in
theorem ct_Table_set_11 (p1 : Int32) (p2 : Int32) (p3 : Int32) (σ : ST) (res : ST) (h : f_Table_set_11 p1 p2 p3 σ = res) : Ct 1 yX3_set cX3_set 4 none (fun ad => [.int p3, .int p2, .int p1, .ref (ad 11)]) σ none res := by
  refine Ct.of (ls := fun ad => [(0, .ref (ad 11)), (1, .int p1), (2, .int p2), (3, .int p3)]) (by decide +kernel) (fun ad => Nat.le_of_ble_eq_true rfl) (fun ad => rfl) (fun X hX hM => ?_)
  replace hX : Ok X RX3 cX3_set 4 1 := hX
  unfold f_Table_set_11 at h
  refine JJ.aload_n hX 0 dX3_set_0 rfl ?_
  refine fg_X3_9_11 hX dX3_set_1 ?_
  refine JJ.iload_n hX 1 dX3_set_4 rfl ?_
  refine JJ.bipush (v := 6) hX dX3_set_5 (by decide) ?_
  refine JJ.imul hX dX3_set_7 ?_
  refine JJ.iload_n hX 2 dX3_set_8 rfl ?_
  refine JJ.iadd hX dX3_set_9 ?_
  refine JJ.iload_n hX 3 dX3_set_10 rfl ?_
  refine JJ.callSNv hX (ct_put 15 36 (by decide) (fun _ _ _ => rfl) (fun _ _ _ _ _ => rfl) _ _ _ _ rfl) cal_yX5_put cas_yX5_put lm_RX3_19 rfl rfl (Nat.le_of_ble_eq_true rfl) ⟨by decide, by decide⟩ dX3_set_11 ?_
  subst h
  exact JJ.vret hX hM dX3_set_14
set_option maxRecDepth 100000 in
theorem lp_Ways_start_15 {X : CX} (hX : Ok X RX4 cX4_start 4 3) : ∀ (n : Nat) (x1 : Int32) (x2 : Int32) (σ : ST) (e : (ST)), f_Ways_start_L15 n x1 x2 σ = some e → JJ X 110 [(0, .ref (xad X 7)), (1, .int x1)] [] e → JJ X 15 [(0, .ref (xad X 7)), (1, .int x1), (2, .int x2)] [] σ := by
  intro n
  induction n with
  | zero =>
    intro x1 x2 σ e h
    rw [f_Ways_start_L15] at h
    cases h
  | succ n ih =>
    intro x1 x2 σ e h K
    rw [f_Ways_start_L15] at h
    refine JJ.iload_n hX 2 dX4_start_15 rfl ?_
    refine JJ.aload_n hX 0 dX4_start_16 rfl ?_
    refine fg_X4_31_7 hX dX4_start_17 ?_
    refine fg_X4_71_3 hX dX4_start_20 ?_
    refine JJ.icmp_ge (tgt := 110) hX dX4_start_23 (by decide) (fun c2 => ?_) (fun c2 => ?_)
    · replace h := ipos c2 h
      obtain rfl := Option.some.inj h
      exact JJ.sub [0, 1] rfl K
    · replace h := ineg c2 h
      refine JJ.iload_n hX 1 dX4_start_26 rfl ?_
      refine JJ.iload_n hX 2 dX4_start_27 rfl ?_
      refine JJ.icmp_ne (tgt := 35) hX dX4_start_28 (by decide) (fun c3 => ?_) (fun c3 => ?_)
      · replace h := ineg c3 h
        refine JJ.sipush (v := 1000) hX dX4_start_35 (by decide) ?_
        refine JJ.istore_n (ls' := [(0, .ref (xad X 7)), (1, .int x1), (2, .int x2), (3, .int (1000 : Int32))]) hX dX4_start_38 (by decide) rfl rfl ?_
        refine JJ.aload_n hX 0 dX4_start_39 rfl ?_
        refine fg_X4_12_7 hX dX4_start_40 ?_
        refine JJ.iload_n hX 1 dX4_start_43 rfl ?_
        refine JJ.iload_n hX 2 dX4_start_44 rfl ?_
        refine JJ.iload_n hX 3 dX4_start_45 rfl ?_
        refine JJ.callVv hX (ct_Table_set_8 _ _ _ _ _ rfl) cal_yX3_set cav_yX3_set lm_RX4_75 rfl rfl rfl (Rcv.obj hX (ci := 3) rfl rfl) (Nat.le_of_ble_eq_true rfl) ⟨by decide, by decide⟩ dX4_start_46 ?_
        refine JJ.aload_n hX 0 dX4_start_49 rfl ?_
        refine fg_X4_18_7 hX dX4_start_50 ?_
        refine JJ.iload_n hX 1 dX4_start_53 rfl ?_
        refine JJ.iload_n hX 2 dX4_start_54 rfl ?_
        refine JJ.iload_n hX 3 dX4_start_55 rfl ?_
        refine JJ.callVv hX (ct_Table_set_9 _ _ _ _ _ rfl) cal_yX3_set cav_yX3_set lm_RX4_75 rfl rfl rfl (Rcv.obj hX (ci := 3) rfl rfl) (Nat.le_of_ble_eq_true rfl) ⟨by decide, by decide⟩ dX4_start_56 ?_
        refine JJ.aload_n hX 0 dX4_start_59 rfl ?_
        refine fg_X4_21_7 hX dX4_start_60 ?_
        refine JJ.iload_n hX 1 dX4_start_63 rfl ?_
        refine JJ.iload_n hX 2 dX4_start_64 rfl ?_
        refine JJ.iload_n hX 3 dX4_start_65 rfl ?_
        refine JJ.callVv hX (ct_Table_set_10 _ _ _ _ _ rfl) cal_yX3_set cav_yX3_set lm_RX4_75 rfl rfl rfl (Rcv.obj hX (ci := 3) rfl rfl) (Nat.le_of_ble_eq_true rfl) ⟨by decide, by decide⟩ dX4_start_66 ?_
        refine JJ.aload_n hX 0 dX4_start_69 rfl ?_
        refine fg_X4_24_7 hX dX4_start_70 ?_
        refine JJ.iload_n hX 1 dX4_start_73 rfl ?_
        refine JJ.iload_n hX 2 dX4_start_74 rfl ?_
        refine JJ.aload_n hX 0 dX4_start_75 rfl ?_
        refine fg_X4_31_7 hX dX4_start_76 ?_
        refine JJ.iload_n hX 1 dX4_start_79 rfl ?_
        refine JJ.callVi hX (ct_Mine_soundOf _ _ _ rfl) cal_yX1_soundOf cav_yX1_soundOf lm_RX4_79 rfl rfl rfl (Rcv.obj hX (ci := 1) rfl rfl) (Nat.le_of_ble_eq_true rfl) ⟨by decide, by decide⟩ dX4_start_80 ?_
        refine JJ.aload_n hX 0 dX4_start_83 rfl ?_
        refine fg_X4_31_7 hX dX4_start_84 ?_
        refine JJ.iload_n hX 2 dX4_start_87 rfl ?_
        refine JJ.callVi hX (ct_Mine_soundOf _ _ _ rfl) cal_yX1_soundOf cav_yX1_soundOf lm_RX4_79 rfl rfl rfl (Rcv.obj hX (ci := 1) rfl rfl) (Nat.le_of_ble_eq_true rfl) ⟨by decide, by decide⟩ dX4_start_88 ?_
        refine JJ.icmp_ne (tgt := 100) hX dX4_start_91 (by decide) (fun c4 => ?_) (fun c4 => ?_)
        · replace h := ineg c4 h
          refine JJ.iconst (v := 0) hX dX4_start_100 (by decide) ?_
          refine JJ.callVv hX (ct_Table_set_11 _ _ _ _ _ rfl) cal_yX3_set cav_yX3_set lm_RX4_75 rfl rfl rfl (Rcv.obj hX (ci := 3) rfl rfl) (Nat.le_of_ble_eq_true rfl) ⟨by decide, by decide⟩ dX4_start_101 ?_
          refine JJ.iinc (v := 1) (ls' := [(0, .ref (xad X 7)), (1, .int x1), (2, .int (x2 + (1 : Int32))), (3, .int (1000 : Int32))]) hX 2 dX4_start_104 rfl (by decide) (by decide) rfl rfl ?_
          refine JJ.goto (tgt := 15) hX dX4_start_107 (by decide) ?_
          refine JJ.sub (ls' := [(0, .ref (xad X 7)), (1, .int x1), (2, .int (x2 + (1 : Int32)))]) [0, 1, 2] rfl ?_
          exact ih _ _ _ _ h K
        · replace h := ipos c4 h
          refine JJ.sipush (v := 1000) hX dX4_start_94 (by decide) ?_
          refine JJ.goto (tgt := 101) hX dX4_start_97 (by decide) ?_
          refine JJ.callVv hX (ct_Table_set_11 _ _ _ _ _ rfl) cal_yX3_set cav_yX3_set lm_RX4_75 rfl rfl rfl (Rcv.obj hX (ci := 3) rfl rfl) (Nat.le_of_ble_eq_true rfl) ⟨by decide, by decide⟩ dX4_start_101 ?_
          refine JJ.iinc (v := 1) (ls' := [(0, .ref (xad X 7)), (1, .int x1), (2, .int (x2 + (1 : Int32))), (3, .int (1000 : Int32))]) hX 2 dX4_start_104 rfl (by decide) (by decide) rfl rfl ?_
          refine JJ.goto (tgt := 15) hX dX4_start_107 (by decide) ?_
          refine JJ.sub (ls' := [(0, .ref (xad X 7)), (1, .int x1), (2, .int (x2 + (1 : Int32)))]) [0, 1, 2] rfl ?_
          exact ih _ _ _ _ h K
      · replace h := ipos c3 h
        refine JJ.iconst (v := 0) hX dX4_start_31 (by decide) ?_
        refine JJ.goto (tgt := 38) hX dX4_start_32 (by decide) ?_
        refine JJ.istore_n (ls' := [(0, .ref (xad X 7)), (1, .int x1), (2, .int x2), (3, .int (0 : Int32))]) hX dX4_start_38 (by decide) rfl rfl ?_
        refine JJ.aload_n hX 0 dX4_start_39 rfl ?_
        refine fg_X4_12_7 hX dX4_start_40 ?_
        refine JJ.iload_n hX 1 dX4_start_43 rfl ?_
        refine JJ.iload_n hX 2 dX4_start_44 rfl ?_
        refine JJ.iload_n hX 3 dX4_start_45 rfl ?_
        refine JJ.callVv hX (ct_Table_set_8 _ _ _ _ _ rfl) cal_yX3_set cav_yX3_set lm_RX4_75 rfl rfl rfl (Rcv.obj hX (ci := 3) rfl rfl) (Nat.le_of_ble_eq_true rfl) ⟨by decide, by decide⟩ dX4_start_46 ?_
        refine JJ.aload_n hX 0 dX4_start_49 rfl ?_
        refine fg_X4_18_7 hX dX4_start_50 ?_
        refine JJ.iload_n hX 1 dX4_start_53 rfl ?_
        refine JJ.iload_n hX 2 dX4_start_54 rfl ?_
        refine JJ.iload_n hX 3 dX4_start_55 rfl ?_
        refine JJ.callVv hX (ct_Table_set_9 _ _ _ _ _ rfl) cal_yX3_set cav_yX3_set lm_RX4_75 rfl rfl rfl (Rcv.obj hX (ci := 3) rfl rfl) (Nat.le_of_ble_eq_true rfl) ⟨by decide, by decide⟩ dX4_start_56 ?_
        refine JJ.aload_n hX 0 dX4_start_59 rfl ?_
        refine fg_X4_21_7 hX dX4_start_60 ?_
        refine JJ.iload_n hX 1 dX4_start_63 rfl ?_
        refine JJ.iload_n hX 2 dX4_start_64 rfl ?_
        refine JJ.iload_n hX 3 dX4_start_65 rfl ?_
        refine JJ.callVv hX (ct_Table_set_10 _ _ _ _ _ rfl) cal_yX3_set cav_yX3_set lm_RX4_75 rfl rfl rfl (Rcv.obj hX (ci := 3) rfl rfl) (Nat.le_of_ble_eq_true rfl) ⟨by decide, by decide⟩ dX4_start_66 ?_
        refine JJ.aload_n hX 0 dX4_start_69 rfl ?_
        refine fg_X4_24_7 hX dX4_start_70 ?_
        refine JJ.iload_n hX 1 dX4_start_73 rfl ?_
        refine JJ.iload_n hX 2 dX4_start_74 rfl ?_
        refine JJ.aload_n hX 0 dX4_start_75 rfl ?_
        refine fg_X4_31_7 hX dX4_start_76 ?_
        refine JJ.iload_n hX 1 dX4_start_79 rfl ?_
        refine JJ.callVi hX (ct_Mine_soundOf _ _ _ rfl) cal_yX1_soundOf cav_yX1_soundOf lm_RX4_79 rfl rfl rfl (Rcv.obj hX (ci := 1) rfl rfl) (Nat.le_of_ble_eq_true rfl) ⟨by decide, by decide⟩ dX4_start_80 ?_
        refine JJ.aload_n hX 0 dX4_start_83 rfl ?_
        refine fg_X4_31_7 hX dX4_start_84 ?_
        refine JJ.iload_n hX 2 dX4_start_87 rfl ?_
        refine JJ.callVi hX (ct_Mine_soundOf _ _ _ rfl) cal_yX1_soundOf cav_yX1_soundOf lm_RX4_79 rfl rfl rfl (Rcv.obj hX (ci := 1) rfl rfl) (Nat.le_of_ble_eq_true rfl) ⟨by decide, by decide⟩ dX4_start_88 ?_
        refine JJ.icmp_ne (tgt := 100) hX dX4_start_91 (by decide) (fun c5 => ?_) (fun c5 => ?_)
        · replace h := ineg c5 h
          refine JJ.iconst (v := 0) hX dX4_start_100 (by decide) ?_
          refine JJ.callVv hX (ct_Table_set_11 _ _ _ _ _ rfl) cal_yX3_set cav_yX3_set lm_RX4_75 rfl rfl rfl (Rcv.obj hX (ci := 3) rfl rfl) (Nat.le_of_ble_eq_true rfl) ⟨by decide, by decide⟩ dX4_start_101 ?_
          refine JJ.iinc (v := 1) (ls' := [(0, .ref (xad X 7)), (1, .int x1), (2, .int (x2 + (1 : Int32))), (3, .int (0 : Int32))]) hX 2 dX4_start_104 rfl (by decide) (by decide) rfl rfl ?_
          refine JJ.goto (tgt := 15) hX dX4_start_107 (by decide) ?_
          refine JJ.sub (ls' := [(0, .ref (xad X 7)), (1, .int x1), (2, .int (x2 + (1 : Int32)))]) [0, 1, 2] rfl ?_
          exact ih _ _ _ _ h K
        · replace h := ipos c5 h
          refine JJ.sipush (v := 1000) hX dX4_start_94 (by decide) ?_
          refine JJ.goto (tgt := 101) hX dX4_start_97 (by decide) ?_
          refine JJ.callVv hX (ct_Table_set_11 _ _ _ _ _ rfl) cal_yX3_set cav_yX3_set lm_RX4_75 rfl rfl rfl (Rcv.obj hX (ci := 3) rfl rfl) (Nat.le_of_ble_eq_true rfl) ⟨by decide, by decide⟩ dX4_start_101 ?_
          refine JJ.iinc (v := 1) (ls' := [(0, .ref (xad X 7)), (1, .int x1), (2, .int (x2 + (1 : Int32))), (3, .int (0 : Int32))]) hX 2 dX4_start_104 rfl (by decide) (by decide) rfl rfl ?_
          refine JJ.goto (tgt := 15) hX dX4_start_107 (by decide) ?_
          refine JJ.sub (ls' := [(0, .ref (xad X 7)), (1, .int x1), (2, .int (x2 + (1 : Int32)))]) [0, 1, 2] rfl ?_
          exact ih _ _ _ _ h K
set_option maxRecDepth 100000 in
theorem lp_Ways_start_2 {X : CX} (hX : Ok X RX4 cX4_start 4 3) : ∀ (n : Nat) (x1 : Int32) (σ : ST) (e : (ST)), f_Ways_start_L2 n x1 σ = some e → JJ X 116 [] [] e → JJ X 2 [(0, .ref (xad X 7)), (1, .int x1)] [] σ := by
  intro n
  induction n with
  | zero =>
    intro x1 σ e h
    rw [f_Ways_start_L2] at h
    cases h
  | succ n ih =>
    intro x1 σ e h K
    rw [f_Ways_start_L2] at h
    refine JJ.iload_n hX 1 dX4_start_2 rfl ?_
    refine JJ.aload_n hX 0 dX4_start_3 rfl ?_
    refine fg_X4_31_7 hX dX4_start_4 ?_
    refine fg_X4_71_3 hX dX4_start_7 ?_
    refine JJ.icmp_ge (tgt := 116) hX dX4_start_10 (by decide) (fun c1 => ?_) (fun c1 => ?_)
    · replace h := ipos c1 h
      obtain rfl := Option.some.inj h
      exact JJ.sub [] rfl K
    · replace h := ineg c1 h
      refine JJ.iconst (v := 0) hX dX4_start_13 (by decide) ?_
      refine JJ.istore_n (ls' := [(0, .ref (xad X 7)), (1, .int x1), (2, .int (0 : Int32))]) hX dX4_start_14 (by decide) rfl rfl ?_
      obtain ⟨e6, h6, h⟩ := bnd h
      refine lp_Ways_start_15 hX 400 _ _ _ _ h6 ?_
      refine JJ.iinc (v := 1) (ls' := [(0, .ref (xad X 7)), (1, .int (x1 + (1 : Int32)))]) hX 1 dX4_start_110 rfl (by decide) (by decide) rfl rfl ?_
      refine JJ.goto (tgt := 2) hX dX4_start_113 (by decide) ?_
      exact ih _ _ _ h K
set_option maxRecDepth 100000 in
theorem ct_Ways_start (σ : ST) (res : ST) (h : f_Ways_start σ = some res) : Ct 3 yX4_start cX4_start 4 none (fun ad => [.ref (ad 7)]) σ none res := by
  refine Ct.of (ls := fun ad => [(0, .ref (ad 7))]) (by decide +kernel) (fun ad => Nat.le_of_ble_eq_true rfl) (fun ad => rfl) (fun X hX hM => ?_)
  replace hX : Ok X RX4 cX4_start 4 3 := hX
  unfold f_Ways_start at h
  refine JJ.iconst (v := 0) hX dX4_start_0 (by decide) ?_
  refine JJ.istore_n (ls' := [(0, .ref (xad X 7)), (1, .int (0 : Int32))]) hX dX4_start_1 (by decide) rfl rfl ?_
  obtain ⟨e7, h7, h⟩ := bnd h
  refine lp_Ways_start_2 hX 400 _ _ _ h7 ?_
  obtain rfl := Option.some.inj h
  exact JJ.vret hX hM dX4_start_116
set_option maxRecDepth 100000 in
theorem ct_Mine_leadsTo (p1 : Int32) (p2 : Int32) (σ : ST) (res : Int32) (h : f_Mine_leadsTo p1 p2 σ = res) : Ct 1 yX1_leadsTo cX1_leadsTo 3 (some .int) (fun ad => [.int p2, .int p1, .ref (ad 3)]) σ (some (.int res)) σ := by
  refine Ct.of (ls := fun ad => [(0, .ref (ad 3)), (1, .int p1), (2, .int p2)]) (by decide +kernel) (fun ad => Nat.le_of_ble_eq_true rfl) (fun ad => rfl) (fun X hX hM => ?_)
  replace hX : Ok X RX1 cX1_leadsTo 3 1 := hX
  unfold f_Mine_leadsTo at h
  refine JJ.iload_n hX 2 dX1_leadsTo_0 rfl ?_
  refine JJ.if_ne (tgt := 11) hX dX1_leadsTo_1 (by decide) (fun c1 => ?_) (fun c1 => ?_)
  · replace h := ineg c1 h
    refine JJ.aload_n hX 0 dX1_leadsTo_11 rfl ?_
    refine fg_X1_18_3 hX dX1_leadsTo_12 ?_
    refine JJ.iload_n hX 1 dX1_leadsTo_15 rfl ?_
    refine JJ.callSNi hX (ct_cell 6 6 (by decide) (fun _ _ _ => rfl) _ _ _ rfl) cal_yX5_cell cas_yX5_cell lm_RX1_48 rfl rfl (Nat.le_of_ble_eq_true rfl) ⟨by decide, by decide⟩ dX1_leadsTo_16 ?_
    subst h
    exact JJ.iret hX hM dX1_leadsTo_19
  · replace h := ipos c1 h
    refine JJ.aload_n hX 0 dX1_leadsTo_4 rfl ?_
    refine fg_X1_15_3 hX dX1_leadsTo_5 ?_
    refine JJ.goto (tgt := 15) hX dX1_leadsTo_8 (by decide) ?_
    refine JJ.iload_n hX 1 dX1_leadsTo_15 rfl ?_
    refine JJ.callSNi hX (ct_cell 5 6 (by decide) (fun _ _ _ => rfl) _ _ _ rfl) cal_yX5_cell cas_yX5_cell lm_RX1_48 rfl rfl (Nat.le_of_ble_eq_true rfl) ⟨by decide, by decide⟩ dX1_leadsTo_16 ?_
    subst h
    exact JJ.iret hX hM dX1_leadsTo_19
set_option maxRecDepth 100000 in
theorem ct_Table_get_8 (p1 : Int32) (p2 : Int32) (σ : ST) (res : Int32) (h : f_Table_get_8 p1 p2 σ = res) : Ct 1 yX3_get cX3_get 3 (some .int) (fun ad => [.int p2, .int p1, .ref (ad 8)]) σ (some (.int res)) σ := by
  refine Ct.of (ls := fun ad => [(0, .ref (ad 8)), (1, .int p1), (2, .int p2)]) (by decide +kernel) (fun ad => Nat.le_of_ble_eq_true rfl) (fun ad => rfl) (fun X hX hM => ?_)
  replace hX : Ok X RX3 cX3_get 3 1 := hX
  unfold f_Table_get_8 at h
  refine JJ.aload_n hX 0 dX3_get_0 rfl ?_
  refine fg_X3_9_8 hX dX3_get_1 ?_
  refine JJ.iload_n hX 1 dX3_get_4 rfl ?_
  refine JJ.bipush (v := 6) hX dX3_get_5 (by decide) ?_
  refine JJ.imul hX dX3_get_7 ?_
  refine JJ.iload_n hX 2 dX3_get_8 rfl ?_
  refine JJ.iadd hX dX3_get_9 ?_
  refine JJ.callSNi hX (ct_cell 12 36 (by decide) (fun _ _ _ => rfl) _ _ _ rfl) cal_yX5_cell cas_yX5_cell lm_RX3_15 rfl rfl (Nat.le_of_ble_eq_true rfl) ⟨by decide, by decide⟩ dX3_get_10 ?_
  subst h
  exact JJ.iret hX hM dX3_get_13
set_option maxRecDepth 100000 in
theorem ct_Table_lower_8 (p1 : Int32) (p2 : Int32) (p3 : Int32) (σ : ST) (res : Int32 × ST) (h : f_Table_lower_8 p1 p2 p3 σ = res) : Ct 2 yX3_lower cX3_lower 4 (some .boolean) (fun ad => [.int p3, .int p2, .int p1, .ref (ad 8)]) σ (some (.int res.1)) res.2 := by
  refine Ct.of (ls := fun ad => [(0, .ref (ad 8)), (1, .int p1), (2, .int p2), (3, .int p3)]) (by decide +kernel) (fun ad => Nat.le_of_ble_eq_true rfl) (fun ad => rfl) (fun X hX hM => ?_)
  replace hX : Ok X RX3 cX3_lower 4 2 := hX
  unfold f_Table_lower_8 at h
  refine JJ.iload_n hX 3 dX3_lower_0 rfl ?_
  refine JJ.aload_n hX 0 dX3_lower_1 rfl ?_
  refine JJ.iload_n hX 1 dX3_lower_2 rfl ?_
  refine JJ.iload_n hX 2 dX3_lower_3 rfl ?_
  refine JJ.callVi hX (ct_Table_get_8 _ _ _ _ rfl) cal_yX3_get cav_yX3_get lm_RX3_23 rfl rfl rfl (Rcv.obj hX (ci := 3) rfl rfl) (Nat.le_of_ble_eq_true rfl) ⟨by decide, by decide⟩ dX3_lower_4 ?_
  refine JJ.icmp_lt (tgt := 12) hX dX3_lower_7 (by decide) (fun c1 => ?_) (fun c1 => ?_)
  · replace h := ipos c1 h
    refine JJ.aload_n hX 0 dX3_lower_12 rfl ?_
    refine JJ.iload_n hX 1 dX3_lower_13 rfl ?_
    refine JJ.iload_n hX 2 dX3_lower_14 rfl ?_
    refine JJ.iload_n hX 3 dX3_lower_15 rfl ?_
    refine JJ.callVv hX (ct_Table_set_8 _ _ _ _ _ rfl) cal_yX3_set cav_yX3_set lm_RX3_27 rfl rfl rfl (Rcv.obj hX (ci := 3) rfl rfl) (Nat.le_of_ble_eq_true rfl) ⟨by decide, by decide⟩ dX3_lower_16 ?_
    refine JJ.iconst (v := 1) hX dX3_lower_19 (by decide) ?_
    subst h
    exact JJ.zret hX hM (by decide) dX3_lower_20
  · replace h := ineg c1 h
    refine JJ.iconst (v := 0) hX dX3_lower_10 (by decide) ?_
    subst h
    exact JJ.zret hX hM (by decide) dX3_lower_11
set_option maxRecDepth 100000 in
theorem ct_Mine_oilTo (p1 : Int32) (σ : ST) (res : Int32) (h : f_Mine_oilTo p1 σ = res) : Ct 2 yX1_oilTo cX1_oilTo 2 (some .int) (fun ad => [.int p1, .ref (ad 3)]) σ (some (.int res)) σ := by
  refine Ct.of (ls := fun ad => [(0, .ref (ad 3)), (1, .int p1)]) (by decide +kernel) (fun ad => Nat.le_of_ble_eq_true rfl) (fun ad => rfl) (fun X hX hM => ?_)
  replace hX : Ok X RX1 cX1_oilTo 2 2 := hX
  unfold f_Mine_oilTo at h
  refine JJ.aload_n hX 0 dX1_oilTo_0 rfl ?_
  refine JJ.iload_n hX 1 dX1_oilTo_1 rfl ?_
  refine JJ.callVi hX (ct_Mine_kindOf _ _ _ rfl) cal_yX1_kindOf cav_yX1_kindOf lm_RX1_45 rfl rfl rfl (Rcv.obj hX (ci := 1) rfl rfl) (Nat.le_of_ble_eq_true rfl) ⟨by decide, by decide⟩ dX1_oilTo_2 ?_
  refine JJ.iconst (v := 3) hX dX1_oilTo_5 (by decide) ?_
  refine JJ.icmp_ne (tgt := 13) hX dX1_oilTo_6 (by decide) (fun c1 => ?_) (fun c1 => ?_)
  · replace h := ineg c1 h
    refine JJ.iconst (v := 1) hX dX1_oilTo_13 (by decide) ?_
    subst h
    exact JJ.iret hX hM dX1_oilTo_14
  · replace h := ipos c1 h
    refine JJ.iconst (v := 3) hX dX1_oilTo_9 (by decide) ?_
    refine JJ.goto (tgt := 14) hX dX1_oilTo_10 (by decide) ?_
    subst h
    exact JJ.iret hX hM dX1_oilTo_14
set_option maxRecDepth 100000 in
theorem ct_Table_get_9 (p1 : Int32) (p2 : Int32) (σ : ST) (res : Int32) (h : f_Table_get_9 p1 p2 σ = res) : Ct 1 yX3_get cX3_get 3 (some .int) (fun ad => [.int p2, .int p1, .ref (ad 9)]) σ (some (.int res)) σ := by
  refine Ct.of (ls := fun ad => [(0, .ref (ad 9)), (1, .int p1), (2, .int p2)]) (by decide +kernel) (fun ad => Nat.le_of_ble_eq_true rfl) (fun ad => rfl) (fun X hX hM => ?_)
  replace hX : Ok X RX3 cX3_get 3 1 := hX
  unfold f_Table_get_9 at h
  refine JJ.aload_n hX 0 dX3_get_0 rfl ?_
  refine fg_X3_9_9 hX dX3_get_1 ?_
  refine JJ.iload_n hX 1 dX3_get_4 rfl ?_
  refine JJ.bipush (v := 6) hX dX3_get_5 (by decide) ?_
  refine JJ.imul hX dX3_get_7 ?_
  refine JJ.iload_n hX 2 dX3_get_8 rfl ?_
  refine JJ.iadd hX dX3_get_9 ?_
  refine JJ.callSNi hX (ct_cell 13 36 (by decide) (fun _ _ _ => rfl) _ _ _ rfl) cal_yX5_cell cas_yX5_cell lm_RX3_15 rfl rfl (Nat.le_of_ble_eq_true rfl) ⟨by decide, by decide⟩ dX3_get_10 ?_
  subst h
  exact JJ.iret hX hM dX3_get_13
set_option maxRecDepth 100000 in
theorem ct_Table_lower_9 (p1 : Int32) (p2 : Int32) (p3 : Int32) (σ : ST) (res : Int32 × ST) (h : f_Table_lower_9 p1 p2 p3 σ = res) : Ct 2 yX3_lower cX3_lower 4 (some .boolean) (fun ad => [.int p3, .int p2, .int p1, .ref (ad 9)]) σ (some (.int res.1)) res.2 := by
  refine Ct.of (ls := fun ad => [(0, .ref (ad 9)), (1, .int p1), (2, .int p2), (3, .int p3)]) (by decide +kernel) (fun ad => Nat.le_of_ble_eq_true rfl) (fun ad => rfl) (fun X hX hM => ?_)
  replace hX : Ok X RX3 cX3_lower 4 2 := hX
  unfold f_Table_lower_9 at h
  refine JJ.iload_n hX 3 dX3_lower_0 rfl ?_
  refine JJ.aload_n hX 0 dX3_lower_1 rfl ?_
  refine JJ.iload_n hX 1 dX3_lower_2 rfl ?_
  refine JJ.iload_n hX 2 dX3_lower_3 rfl ?_
  refine JJ.callVi hX (ct_Table_get_9 _ _ _ _ rfl) cal_yX3_get cav_yX3_get lm_RX3_23 rfl rfl rfl (Rcv.obj hX (ci := 3) rfl rfl) (Nat.le_of_ble_eq_true rfl) ⟨by decide, by decide⟩ dX3_lower_4 ?_
  refine JJ.icmp_lt (tgt := 12) hX dX3_lower_7 (by decide) (fun c1 => ?_) (fun c1 => ?_)
  · replace h := ipos c1 h
    refine JJ.aload_n hX 0 dX3_lower_12 rfl ?_
    refine JJ.iload_n hX 1 dX3_lower_13 rfl ?_
    refine JJ.iload_n hX 2 dX3_lower_14 rfl ?_
    refine JJ.iload_n hX 3 dX3_lower_15 rfl ?_
    refine JJ.callVv hX (ct_Table_set_9 _ _ _ _ _ rfl) cal_yX3_set cav_yX3_set lm_RX3_27 rfl rfl rfl (Rcv.obj hX (ci := 3) rfl rfl) (Nat.le_of_ble_eq_true rfl) ⟨by decide, by decide⟩ dX3_lower_16 ?_
    refine JJ.iconst (v := 1) hX dX3_lower_19 (by decide) ?_
    subst h
    exact JJ.zret hX hM (by decide) dX3_lower_20
  · replace h := ineg c1 h
    refine JJ.iconst (v := 0) hX dX3_lower_10 (by decide) ?_
    subst h
    exact JJ.zret hX hM (by decide) dX3_lower_11
set_option maxRecDepth 100000 in
theorem ct_Table_get_10 (p1 : Int32) (p2 : Int32) (σ : ST) (res : Int32) (h : f_Table_get_10 p1 p2 σ = res) : Ct 1 yX3_get cX3_get 3 (some .int) (fun ad => [.int p2, .int p1, .ref (ad 10)]) σ (some (.int res)) σ := by
  refine Ct.of (ls := fun ad => [(0, .ref (ad 10)), (1, .int p1), (2, .int p2)]) (by decide +kernel) (fun ad => Nat.le_of_ble_eq_true rfl) (fun ad => rfl) (fun X hX hM => ?_)
  replace hX : Ok X RX3 cX3_get 3 1 := hX
  unfold f_Table_get_10 at h
  refine JJ.aload_n hX 0 dX3_get_0 rfl ?_
  refine fg_X3_9_10 hX dX3_get_1 ?_
  refine JJ.iload_n hX 1 dX3_get_4 rfl ?_
  refine JJ.bipush (v := 6) hX dX3_get_5 (by decide) ?_
  refine JJ.imul hX dX3_get_7 ?_
  refine JJ.iload_n hX 2 dX3_get_8 rfl ?_
  refine JJ.iadd hX dX3_get_9 ?_
  refine JJ.callSNi hX (ct_cell 14 36 (by decide) (fun _ _ _ => rfl) _ _ _ rfl) cal_yX5_cell cas_yX5_cell lm_RX3_15 rfl rfl (Nat.le_of_ble_eq_true rfl) ⟨by decide, by decide⟩ dX3_get_10 ?_
  subst h
  exact JJ.iret hX hM dX3_get_13
set_option maxRecDepth 100000 in
theorem ct_Table_lower_10 (p1 : Int32) (p2 : Int32) (p3 : Int32) (σ : ST) (res : Int32 × ST) (h : f_Table_lower_10 p1 p2 p3 σ = res) : Ct 2 yX3_lower cX3_lower 4 (some .boolean) (fun ad => [.int p3, .int p2, .int p1, .ref (ad 10)]) σ (some (.int res.1)) res.2 := by
  refine Ct.of (ls := fun ad => [(0, .ref (ad 10)), (1, .int p1), (2, .int p2), (3, .int p3)]) (by decide +kernel) (fun ad => Nat.le_of_ble_eq_true rfl) (fun ad => rfl) (fun X hX hM => ?_)
  replace hX : Ok X RX3 cX3_lower 4 2 := hX
  unfold f_Table_lower_10 at h
  refine JJ.iload_n hX 3 dX3_lower_0 rfl ?_
  refine JJ.aload_n hX 0 dX3_lower_1 rfl ?_
  refine JJ.iload_n hX 1 dX3_lower_2 rfl ?_
  refine JJ.iload_n hX 2 dX3_lower_3 rfl ?_
  refine JJ.callVi hX (ct_Table_get_10 _ _ _ _ rfl) cal_yX3_get cav_yX3_get lm_RX3_23 rfl rfl rfl (Rcv.obj hX (ci := 3) rfl rfl) (Nat.le_of_ble_eq_true rfl) ⟨by decide, by decide⟩ dX3_lower_4 ?_
  refine JJ.icmp_lt (tgt := 12) hX dX3_lower_7 (by decide) (fun c1 => ?_) (fun c1 => ?_)
  · replace h := ipos c1 h
    refine JJ.aload_n hX 0 dX3_lower_12 rfl ?_
    refine JJ.iload_n hX 1 dX3_lower_13 rfl ?_
    refine JJ.iload_n hX 2 dX3_lower_14 rfl ?_
    refine JJ.iload_n hX 3 dX3_lower_15 rfl ?_
    refine JJ.callVv hX (ct_Table_set_10 _ _ _ _ _ rfl) cal_yX3_set cav_yX3_set lm_RX3_27 rfl rfl rfl (Rcv.obj hX (ci := 3) rfl rfl) (Nat.le_of_ble_eq_true rfl) ⟨by decide, by decide⟩ dX3_lower_16 ?_
    refine JJ.iconst (v := 1) hX dX3_lower_19 (by decide) ?_
    subst h
    exact JJ.zret hX hM (by decide) dX3_lower_20
  · replace h := ineg c1 h
    refine JJ.iconst (v := 0) hX dX3_lower_10 (by decide) ?_
    subst h
    exact JJ.zret hX hM (by decide) dX3_lower_11
set_option maxRecDepth 100000 in
theorem ct_Table_get_11 (p1 : Int32) (p2 : Int32) (σ : ST) (res : Int32) (h : f_Table_get_11 p1 p2 σ = res) : Ct 1 yX3_get cX3_get 3 (some .int) (fun ad => [.int p2, .int p1, .ref (ad 11)]) σ (some (.int res)) σ := by
  refine Ct.of (ls := fun ad => [(0, .ref (ad 11)), (1, .int p1), (2, .int p2)]) (by decide +kernel) (fun ad => Nat.le_of_ble_eq_true rfl) (fun ad => rfl) (fun X hX hM => ?_)
  replace hX : Ok X RX3 cX3_get 3 1 := hX
  unfold f_Table_get_11 at h
  refine JJ.aload_n hX 0 dX3_get_0 rfl ?_
  refine fg_X3_9_11 hX dX3_get_1 ?_
  refine JJ.iload_n hX 1 dX3_get_4 rfl ?_
  refine JJ.bipush (v := 6) hX dX3_get_5 (by decide) ?_
  refine JJ.imul hX dX3_get_7 ?_
  refine JJ.iload_n hX 2 dX3_get_8 rfl ?_
  refine JJ.iadd hX dX3_get_9 ?_
  refine JJ.callSNi hX (ct_cell 15 36 (by decide) (fun _ _ _ => rfl) _ _ _ rfl) cal_yX5_cell cas_yX5_cell lm_RX3_15 rfl rfl (Nat.le_of_ble_eq_true rfl) ⟨by decide, by decide⟩ dX3_get_10 ?_
  subst h
  exact JJ.iret hX hM dX3_get_13
set_option maxRecDepth 100000 in
theorem ct_Ways_apartAfter (p1 : Int32) (p2 : Int32) (p3 : Int32) (σ : ST) (res : Int32) (h : f_Ways_apartAfter p1 p2 p3 σ = res) : Ct 2 yX4_apartAfter cX4_apartAfter 4 (some .int) (fun ad => [.int p3, .int p2, .int p1, .ref (ad 7)]) σ (some (.int res)) σ := by
  refine Ct.of (ls := fun ad => [(0, .ref (ad 7)), (1, .int p1), (2, .int p2), (3, .int p3)]) (by decide +kernel) (fun ad => Nat.le_of_ble_eq_true rfl) (fun ad => rfl) (fun X hX hM => ?_)
  replace hX : Ok X RX4 cX4_apartAfter 4 2 := hX
  unfold f_Ways_apartAfter at h
  refine JJ.aload_n hX 0 dX4_apartAfter_0 rfl ?_
  refine fg_X4_24_7 hX dX4_apartAfter_1 ?_
  refine JJ.aload_n hX 0 dX4_apartAfter_4 rfl ?_
  refine fg_X4_31_7 hX dX4_apartAfter_5 ?_
  refine JJ.iload_n hX 1 dX4_apartAfter_8 rfl ?_
  refine JJ.iload_n hX 3 dX4_apartAfter_9 rfl ?_
  refine JJ.callVi hX (ct_Mine_leadsTo _ _ _ _ rfl) cal_yX1_leadsTo cav_yX1_leadsTo lm_RX4_49 rfl rfl rfl (Rcv.obj hX (ci := 1) rfl rfl) (Nat.le_of_ble_eq_true rfl) ⟨by decide, by decide⟩ dX4_apartAfter_10 ?_
  refine JJ.aload_n hX 0 dX4_apartAfter_13 rfl ?_
  refine fg_X4_31_7 hX dX4_apartAfter_14 ?_
  refine JJ.iload_n hX 2 dX4_apartAfter_17 rfl ?_
  refine JJ.iload_n hX 3 dX4_apartAfter_18 rfl ?_
  refine JJ.callVi hX (ct_Mine_leadsTo _ _ _ _ rfl) cal_yX1_leadsTo cav_yX1_leadsTo lm_RX4_49 rfl rfl rfl (Rcv.obj hX (ci := 1) rfl rfl) (Nat.le_of_ble_eq_true rfl) ⟨by decide, by decide⟩ dX4_apartAfter_19 ?_
  refine JJ.callVi hX (ct_Table_get_11 _ _ _ _ rfl) cal_yX3_get cav_yX3_get lm_RX4_45 rfl rfl rfl (Rcv.obj hX (ci := 3) rfl rfl) (Nat.le_of_ble_eq_true rfl) ⟨by decide, by decide⟩ dX4_apartAfter_22 ?_
  subst h
  exact JJ.iret hX hM dX4_apartAfter_25
set_option maxRecDepth 100000 in
theorem ct_Table_lower_11 (p1 : Int32) (p2 : Int32) (p3 : Int32) (σ : ST) (res : Int32 × ST) (h : f_Table_lower_11 p1 p2 p3 σ = res) : Ct 2 yX3_lower cX3_lower 4 (some .boolean) (fun ad => [.int p3, .int p2, .int p1, .ref (ad 11)]) σ (some (.int res.1)) res.2 := by
  refine Ct.of (ls := fun ad => [(0, .ref (ad 11)), (1, .int p1), (2, .int p2), (3, .int p3)]) (by decide +kernel) (fun ad => Nat.le_of_ble_eq_true rfl) (fun ad => rfl) (fun X hX hM => ?_)
  replace hX : Ok X RX3 cX3_lower 4 2 := hX
  unfold f_Table_lower_11 at h
  refine JJ.iload_n hX 3 dX3_lower_0 rfl ?_
  refine JJ.aload_n hX 0 dX3_lower_1 rfl ?_
  refine JJ.iload_n hX 1 dX3_lower_2 rfl ?_
  refine JJ.iload_n hX 2 dX3_lower_3 rfl ?_
  refine JJ.callVi hX (ct_Table_get_11 _ _ _ _ rfl) cal_yX3_get cav_yX3_get lm_RX3_23 rfl rfl rfl (Rcv.obj hX (ci := 3) rfl rfl) (Nat.le_of_ble_eq_true rfl) ⟨by decide, by decide⟩ dX3_lower_4 ?_
  refine JJ.icmp_lt (tgt := 12) hX dX3_lower_7 (by decide) (fun c1 => ?_) (fun c1 => ?_)
  · replace h := ipos c1 h
    refine JJ.aload_n hX 0 dX3_lower_12 rfl ?_
    refine JJ.iload_n hX 1 dX3_lower_13 rfl ?_
    refine JJ.iload_n hX 2 dX3_lower_14 rfl ?_
    refine JJ.iload_n hX 3 dX3_lower_15 rfl ?_
    refine JJ.callVv hX (ct_Table_set_11 _ _ _ _ _ rfl) cal_yX3_set cav_yX3_set lm_RX3_27 rfl rfl rfl (Rcv.obj hX (ci := 3) rfl rfl) (Nat.le_of_ble_eq_true rfl) ⟨by decide, by decide⟩ dX3_lower_16 ?_
    refine JJ.iconst (v := 1) hX dX3_lower_19 (by decide) ?_
    subst h
    exact JJ.zret hX hM (by decide) dX3_lower_20
  · replace h := ineg c1 h
    refine JJ.iconst (v := 0) hX dX3_lower_10 (by decide) ?_
    subst h
    exact JJ.zret hX hM (by decide) dX3_lower_11
set_option maxRecDepth 100000 in
theorem ct_Ways_lowerBy (p1 : Int32) (p2 : Int32) (p3 : Int32) (σ : ST) (res : Int32 × ST) (h : f_Ways_lowerBy p1 p2 p3 σ = res) : Ct 3 yX4_lowerBy cX4_lowerBy 6 (some .boolean) (fun ad => [.int p3, .int p2, .int p1, .ref (ad 7)]) σ (some (.int res.1)) res.2 := by
  refine Ct.of (ls := fun ad => [(0, .ref (ad 7)), (1, .int p1), (2, .int p2), (3, .int p3)]) (by decide +kernel) (fun ad => Nat.le_of_ble_eq_true rfl) (fun ad => rfl) (fun X hX hM => ?_)
  replace hX : Ok X RX4 cX4_lowerBy 6 3 := hX
  unfold f_Ways_lowerBy at h
  refine JJ.aload_n hX 0 dX4_lowerBy_0 rfl ?_
  refine fg_X4_31_7 hX dX4_lowerBy_1 ?_
  refine JJ.iload_n hX 1 dX4_lowerBy_4 rfl ?_
  refine JJ.iload_n hX 3 dX4_lowerBy_5 rfl ?_
  refine JJ.callVi hX (ct_Mine_leadsTo _ _ _ _ rfl) cal_yX1_leadsTo cav_yX1_leadsTo lm_RX4_49 rfl rfl rfl (Rcv.obj hX (ci := 1) rfl rfl) (Nat.le_of_ble_eq_true rfl) ⟨by decide, by decide⟩ dX4_lowerBy_6 ?_
  refine JJ.istore (ls' := [(0, .ref (xad X 7)), (1, .int p1), (2, .int p2), (3, .int p3), (4, .int (f_Mine_leadsTo p1 p3 σ))]) hX dX4_lowerBy_9 (by decide) rfl rfl ?_
  refine JJ.aload_n hX 0 dX4_lowerBy_11 rfl ?_
  refine fg_X4_12_7 hX dX4_lowerBy_12 ?_
  refine JJ.iload_n hX 1 dX4_lowerBy_15 rfl ?_
  refine JJ.iload_n hX 2 dX4_lowerBy_16 rfl ?_
  refine JJ.iconst (v := 1) hX dX4_lowerBy_17 (by decide) ?_
  refine JJ.aload_n hX 0 dX4_lowerBy_18 rfl ?_
  refine fg_X4_12_7 hX dX4_lowerBy_19 ?_
  refine JJ.iload hX 4 dX4_lowerBy_22 rfl ?_
  refine JJ.iload_n hX 2 dX4_lowerBy_24 rfl ?_
  refine JJ.callVi hX (ct_Table_get_8 _ _ _ _ rfl) cal_yX3_get cav_yX3_get lm_RX4_45 rfl rfl rfl (Rcv.obj hX (ci := 3) rfl rfl) (Nat.le_of_ble_eq_true rfl) ⟨by decide, by decide⟩ dX4_lowerBy_25 ?_
  refine JJ.iadd hX dX4_lowerBy_28 ?_
  refine JJ.callVi hX (ct_Table_lower_8 _ _ _ _ _ rfl) cal_yX3_lower cav_yX3_lower lm_RX4_87 rfl rfl rfl (Rcv.obj hX (ci := 3) rfl rfl) (Nat.le_of_ble_eq_true rfl) ⟨by decide, by decide⟩ dX4_lowerBy_29 ?_
  refine JJ.istore (ls' := [(0, .ref (xad X 7)), (1, .int p1), (2, .int p2), (3, .int p3), (4, .int (f_Mine_leadsTo p1 p3 σ)), (5, .int ((f_Table_lower_8 p1 p2 ((1 : Int32) + (f_Table_get_8 (f_Mine_leadsTo p1 p3 σ) p2 σ)) σ).1))]) hX dX4_lowerBy_32 (by decide) rfl rfl ?_
  refine JJ.iload hX 5 dX4_lowerBy_34 rfl ?_
  refine JJ.aload_n hX 0 dX4_lowerBy_36 rfl ?_
  refine fg_X4_18_7 hX dX4_lowerBy_37 ?_
  refine JJ.iload_n hX 1 dX4_lowerBy_40 rfl ?_
  refine JJ.iload_n hX 2 dX4_lowerBy_41 rfl ?_
  refine JJ.aload_n hX 0 dX4_lowerBy_42 rfl ?_
  refine fg_X4_31_7 hX dX4_lowerBy_43 ?_
  refine JJ.iload hX 4 dX4_lowerBy_46 rfl ?_
  refine JJ.callVi hX (ct_Mine_oilTo _ _ _ rfl) cal_yX1_oilTo cav_yX1_oilTo lm_RX4_90 rfl rfl rfl (Rcv.obj hX (ci := 1) rfl rfl) (Nat.le_of_ble_eq_true rfl) ⟨by decide, by decide⟩ dX4_lowerBy_48 ?_
  refine JJ.aload_n hX 0 dX4_lowerBy_51 rfl ?_
  refine fg_X4_18_7 hX dX4_lowerBy_52 ?_
  refine JJ.iload hX 4 dX4_lowerBy_55 rfl ?_
  refine JJ.iload_n hX 2 dX4_lowerBy_57 rfl ?_
  refine JJ.callVi hX (ct_Table_get_9 _ _ _ _ rfl) cal_yX3_get cav_yX3_get lm_RX4_45 rfl rfl rfl (Rcv.obj hX (ci := 3) rfl rfl) (Nat.le_of_ble_eq_true rfl) ⟨by decide, by decide⟩ dX4_lowerBy_58 ?_
  refine JJ.iadd hX dX4_lowerBy_61 ?_
  refine JJ.callVi hX (ct_Table_lower_9 _ _ _ _ _ rfl) cal_yX3_lower cav_yX3_lower lm_RX4_87 rfl rfl rfl (Rcv.obj hX (ci := 3) rfl rfl) (Nat.le_of_ble_eq_true rfl) ⟨by decide, by decide⟩ dX4_lowerBy_62 ?_
  refine JJ.ior hX dX4_lowerBy_65 ?_
  refine JJ.istore (ls' := [(0, .ref (xad X 7)), (1, .int p1), (2, .int p2), (3, .int p3), (4, .int (f_Mine_leadsTo p1 p3 σ)), (5, .int ((f_Table_lower_8 p1 p2 ((1 : Int32) + (f_Table_get_8 (f_Mine_leadsTo p1 p3 σ) p2 σ)) σ).1 ||| (f_Table_lower_9 p1 p2 ((f_Mine_oilTo (f_Mine_leadsTo p1 p3 σ) ((f_Table_lower_8 p1 p2 ((1 : Int32) + (f_Table_get_8 (f_Mine_leadsTo p1 p3 σ) p2 σ)) σ).2)) + (f_Table_get_9 (f_Mine_leadsTo p1 p3 σ) p2 ((f_Table_lower_8 p1 p2 ((1 : Int32) + (f_Table_get_8 (f_Mine_leadsTo p1 p3 σ) p2 σ)) σ).2))) ((f_Table_lower_8 p1 p2 ((1 : Int32) + (f_Table_get_8 (f_Mine_leadsTo p1 p3 σ) p2 σ)) σ).2)).1))]) hX dX4_lowerBy_66 (by decide) rfl rfl ?_
  refine JJ.iload hX 5 dX4_lowerBy_68 rfl ?_
  refine JJ.aload_n hX 0 dX4_lowerBy_70 rfl ?_
  refine fg_X4_21_7 hX dX4_lowerBy_71 ?_
  refine JJ.iload_n hX 1 dX4_lowerBy_74 rfl ?_
  refine JJ.iload_n hX 2 dX4_lowerBy_75 rfl ?_
  refine JJ.iconst (v := 1) hX dX4_lowerBy_76 (by decide) ?_
  refine JJ.aload_n hX 0 dX4_lowerBy_77 rfl ?_
  refine fg_X4_21_7 hX dX4_lowerBy_78 ?_
  refine JJ.iload hX 4 dX4_lowerBy_81 rfl ?_
  refine JJ.aload_n hX 0 dX4_lowerBy_83 rfl ?_
  refine fg_X4_31_7 hX dX4_lowerBy_84 ?_
  refine JJ.iload_n hX 2 dX4_lowerBy_87 rfl ?_
  refine JJ.iconst (v := 0) hX dX4_lowerBy_88 (by decide) ?_
  refine JJ.callVi hX (ct_Mine_leadsTo _ _ _ _ rfl) cal_yX1_leadsTo cav_yX1_leadsTo lm_RX4_49 rfl rfl rfl (Rcv.obj hX (ci := 1) rfl rfl) (Nat.le_of_ble_eq_true rfl) ⟨by decide, by decide⟩ dX4_lowerBy_89 ?_
  refine JJ.callVi hX (ct_Table_get_10 _ _ _ _ rfl) cal_yX3_get cav_yX3_get lm_RX4_45 rfl rfl rfl (Rcv.obj hX (ci := 3) rfl rfl) (Nat.le_of_ble_eq_true rfl) ⟨by decide, by decide⟩ dX4_lowerBy_92 ?_
  refine JJ.iadd hX dX4_lowerBy_95 ?_
  refine JJ.callVi hX (ct_Table_lower_10 _ _ _ _ _ rfl) cal_yX3_lower cav_yX3_lower lm_RX4_87 rfl rfl rfl (Rcv.obj hX (ci := 3) rfl rfl) (Nat.le_of_ble_eq_true rfl) ⟨by decide, by decide⟩ dX4_lowerBy_96 ?_
  refine JJ.ior hX dX4_lowerBy_99 ?_
  refine JJ.istore (ls' := [(0, .ref (xad X 7)), (1, .int p1), (2, .int p2), (3, .int p3), (4, .int (f_Mine_leadsTo p1 p3 σ)), (5, .int (((f_Table_lower_8 p1 p2 ((1 : Int32) + (f_Table_get_8 (f_Mine_leadsTo p1 p3 σ) p2 σ)) σ).1 ||| (f_Table_lower_9 p1 p2 ((f_Mine_oilTo (f_Mine_leadsTo p1 p3 σ) ((f_Table_lower_8 p1 p2 ((1 : Int32) + (f_Table_get_8 (f_Mine_leadsTo p1 p3 σ) p2 σ)) σ).2)) + (f_Table_get_9 (f_Mine_leadsTo p1 p3 σ) p2 ((f_Table_lower_8 p1 p2 ((1 : Int32) + (f_Table_get_8 (f_Mine_leadsTo p1 p3 σ) p2 σ)) σ).2))) ((f_Table_lower_8 p1 p2 ((1 : Int32) + (f_Table_get_8 (f_Mine_leadsTo p1 p3 σ) p2 σ)) σ).2)).1) ||| (f_Table_lower_10 p1 p2 ((1 : Int32) + (f_Table_get_10 (f_Mine_leadsTo p1 p3 σ) (f_Mine_leadsTo p2 (0 : Int32) ((f_Table_lower_9 p1 p2 ((f_Mine_oilTo (f_Mine_leadsTo p1 p3 σ) ((f_Table_lower_8 p1 p2 ((1 : Int32) + (f_Table_get_8 (f_Mine_leadsTo p1 p3 σ) p2 σ)) σ).2)) + (f_Table_get_9 (f_Mine_leadsTo p1 p3 σ) p2 ((f_Table_lower_8 p1 p2 ((1 : Int32) + (f_Table_get_8 (f_Mine_leadsTo p1 p3 σ) p2 σ)) σ).2))) ((f_Table_lower_8 p1 p2 ((1 : Int32) + (f_Table_get_8 (f_Mine_leadsTo p1 p3 σ) p2 σ)) σ).2)).2)) ((f_Table_lower_9 p1 p2 ((f_Mine_oilTo (f_Mine_leadsTo p1 p3 σ) ((f_Table_lower_8 p1 p2 ((1 : Int32) + (f_Table_get_8 (f_Mine_leadsTo p1 p3 σ) p2 σ)) σ).2)) + (f_Table_get_9 (f_Mine_leadsTo p1 p3 σ) p2 ((f_Table_lower_8 p1 p2 ((1 : Int32) + (f_Table_get_8 (f_Mine_leadsTo p1 p3 σ) p2 σ)) σ).2))) ((f_Table_lower_8 p1 p2 ((1 : Int32) + (f_Table_get_8 (f_Mine_leadsTo p1 p3 σ) p2 σ)) σ).2)).2))) ((f_Table_lower_9 p1 p2 ((f_Mine_oilTo (f_Mine_leadsTo p1 p3 σ) ((f_Table_lower_8 p1 p2 ((1 : Int32) + (f_Table_get_8 (f_Mine_leadsTo p1 p3 σ) p2 σ)) σ).2)) + (f_Table_get_9 (f_Mine_leadsTo p1 p3 σ) p2 ((f_Table_lower_8 p1 p2 ((1 : Int32) + (f_Table_get_8 (f_Mine_leadsTo p1 p3 σ) p2 σ)) σ).2))) ((f_Table_lower_8 p1 p2 ((1 : Int32) + (f_Table_get_8 (f_Mine_leadsTo p1 p3 σ) p2 σ)) σ).2)).2)).1))]) hX dX4_lowerBy_100 (by decide) rfl rfl ?_
  refine JJ.iload hX 5 dX4_lowerBy_102 rfl ?_
  refine JJ.aload_n hX 0 dX4_lowerBy_104 rfl ?_
  refine fg_X4_21_7 hX dX4_lowerBy_105 ?_
  refine JJ.iload_n hX 1 dX4_lowerBy_108 rfl ?_
  refine JJ.iload_n hX 2 dX4_lowerBy_109 rfl ?_
  refine JJ.iconst (v := 1) hX dX4_lowerBy_110 (by decide) ?_
  refine JJ.aload_n hX 0 dX4_lowerBy_111 rfl ?_
  refine fg_X4_21_7 hX dX4_lowerBy_112 ?_
  refine JJ.iload hX 4 dX4_lowerBy_115 rfl ?_
  refine JJ.aload_n hX 0 dX4_lowerBy_117 rfl ?_
  refine fg_X4_31_7 hX dX4_lowerBy_118 ?_
  refine JJ.iload_n hX 2 dX4_lowerBy_121 rfl ?_
  refine JJ.iconst (v := 1) hX dX4_lowerBy_122 (by decide) ?_
  refine JJ.callVi hX (ct_Mine_leadsTo _ _ _ _ rfl) cal_yX1_leadsTo cav_yX1_leadsTo lm_RX4_49 rfl rfl rfl (Rcv.obj hX (ci := 1) rfl rfl) (Nat.le_of_ble_eq_true rfl) ⟨by decide, by decide⟩ dX4_lowerBy_123 ?_
  refine JJ.callVi hX (ct_Table_get_10 _ _ _ _ rfl) cal_yX3_get cav_yX3_get lm_RX4_45 rfl rfl rfl (Rcv.obj hX (ci := 3) rfl rfl) (Nat.le_of_ble_eq_true rfl) ⟨by decide, by decide⟩ dX4_lowerBy_126 ?_
  refine JJ.iadd hX dX4_lowerBy_129 ?_
  refine JJ.callVi hX (ct_Table_lower_10 _ _ _ _ _ rfl) cal_yX3_lower cav_yX3_lower lm_RX4_87 rfl rfl rfl (Rcv.obj hX (ci := 3) rfl rfl) (Nat.le_of_ble_eq_true rfl) ⟨by decide, by decide⟩ dX4_lowerBy_130 ?_
  refine JJ.ior hX dX4_lowerBy_133 ?_
  refine JJ.istore (ls' := [(0, .ref (xad X 7)), (1, .int p1), (2, .int p2), (3, .int p3), (4, .int (f_Mine_leadsTo p1 p3 σ)), (5, .int ((((f_Table_lower_8 p1 p2 ((1 : Int32) + (f_Table_get_8 (f_Mine_leadsTo p1 p3 σ) p2 σ)) σ).1 ||| (f_Table_lower_9 p1 p2 ((f_Mine_oilTo (f_Mine_leadsTo p1 p3 σ) ((f_Table_lower_8 p1 p2 ((1 : Int32) + (f_Table_get_8 (f_Mine_leadsTo p1 p3 σ) p2 σ)) σ).2)) + (f_Table_get_9 (f_Mine_leadsTo p1 p3 σ) p2 ((f_Table_lower_8 p1 p2 ((1 : Int32) + (f_Table_get_8 (f_Mine_leadsTo p1 p3 σ) p2 σ)) σ).2))) ((f_Table_lower_8 p1 p2 ((1 : Int32) + (f_Table_get_8 (f_Mine_leadsTo p1 p3 σ) p2 σ)) σ).2)).1) ||| (f_Table_lower_10 p1 p2 ((1 : Int32) + (f_Table_get_10 (f_Mine_leadsTo p1 p3 σ) (f_Mine_leadsTo p2 (0 : Int32) ((f_Table_lower_9 p1 p2 ((f_Mine_oilTo (f_Mine_leadsTo p1 p3 σ) ((f_Table_lower_8 p1 p2 ((1 : Int32) + (f_Table_get_8 (f_Mine_leadsTo p1 p3 σ) p2 σ)) σ).2)) + (f_Table_get_9 (f_Mine_leadsTo p1 p3 σ) p2 ((f_Table_lower_8 p1 p2 ((1 : Int32) + (f_Table_get_8 (f_Mine_leadsTo p1 p3 σ) p2 σ)) σ).2))) ((f_Table_lower_8 p1 p2 ((1 : Int32) + (f_Table_get_8 (f_Mine_leadsTo p1 p3 σ) p2 σ)) σ).2)).2)) ((f_Table_lower_9 p1 p2 ((f_Mine_oilTo (f_Mine_leadsTo p1 p3 σ) ((f_Table_lower_8 p1 p2 ((1 : Int32) + (f_Table_get_8 (f_Mine_leadsTo p1 p3 σ) p2 σ)) σ).2)) + (f_Table_get_9 (f_Mine_leadsTo p1 p3 σ) p2 ((f_Table_lower_8 p1 p2 ((1 : Int32) + (f_Table_get_8 (f_Mine_leadsTo p1 p3 σ) p2 σ)) σ).2))) ((f_Table_lower_8 p1 p2 ((1 : Int32) + (f_Table_get_8 (f_Mine_leadsTo p1 p3 σ) p2 σ)) σ).2)).2))) ((f_Table_lower_9 p1 p2 ((f_Mine_oilTo (f_Mine_leadsTo p1 p3 σ) ((f_Table_lower_8 p1 p2 ((1 : Int32) + (f_Table_get_8 (f_Mine_leadsTo p1 p3 σ) p2 σ)) σ).2)) + (f_Table_get_9 (f_Mine_leadsTo p1 p3 σ) p2 ((f_Table_lower_8 p1 p2 ((1 : Int32) + (f_Table_get_8 (f_Mine_leadsTo p1 p3 σ) p2 σ)) σ).2))) ((f_Table_lower_8 p1 p2 ((1 : Int32) + (f_Table_get_8 (f_Mine_leadsTo p1 p3 σ) p2 σ)) σ).2)).2)).1) ||| (f_Table_lower_10 p1 p2 ((1 : Int32) + (f_Table_get_10 (f_Mine_leadsTo p1 p3 σ) (f_Mine_leadsTo p2 (1 : Int32) ((f_Table_lower_10 p1 p2 ((1 : Int32) + (f_Table_get_10 (f_Mine_leadsTo p1 p3 σ) (f_Mine_leadsTo p2 (0 : Int32) ((f_Table_lower_9 p1 p2 ((f_Mine_oilTo (f_Mine_leadsTo p1 p3 σ) ((f_Table_lower_8 p1 p2 ((1 : Int32) + (f_Table_get_8 (f_Mine_leadsTo p1 p3 σ) p2 σ)) σ).2)) + (f_Table_get_9 (f_Mine_leadsTo p1 p3 σ) p2 ((f_Table_lower_8 p1 p2 ((1 : Int32) + (f_Table_get_8 (f_Mine_leadsTo p1 p3 σ) p2 σ)) σ).2))) ((f_Table_lower_8 p1 p2 ((1 : Int32) + (f_Table_get_8 (f_Mine_leadsTo p1 p3 σ) p2 σ)) σ).2)).2)) ((f_Table_lower_9 p1 p2 ((f_Mine_oilTo (f_Mine_leadsTo p1 p3 σ) ((f_Table_lower_8 p1 p2 ((1 : Int32) + (f_Table_get_8 (f_Mine_leadsTo p1 p3 σ) p2 σ)) σ).2)) + (f_Table_get_9 (f_Mine_leadsTo p1 p3 σ) p2 ((f_Table_lower_8 p1 p2 ((1 : Int32) + (f_Table_get_8 (f_Mine_leadsTo p1 p3 σ) p2 σ)) σ).2))) ((f_Table_lower_8 p1 p2 ((1 : Int32) + (f_Table_get_8 (f_Mine_leadsTo p1 p3 σ) p2 σ)) σ).2)).2))) ((f_Table_lower_9 p1 p2 ((f_Mine_oilTo (f_Mine_leadsTo p1 p3 σ) ((f_Table_lower_8 p1 p2 ((1 : Int32) + (f_Table_get_8 (f_Mine_leadsTo p1 p3 σ) p2 σ)) σ).2)) + (f_Table_get_9 (f_Mine_leadsTo p1 p3 σ) p2 ((f_Table_lower_8 p1 p2 ((1 : Int32) + (f_Table_get_8 (f_Mine_leadsTo p1 p3 σ) p2 σ)) σ).2))) ((f_Table_lower_8 p1 p2 ((1 : Int32) + (f_Table_get_8 (f_Mine_leadsTo p1 p3 σ) p2 σ)) σ).2)).2)).2)) ((f_Table_lower_10 p1 p2 ((1 : Int32) + (f_Table_get_10 (f_Mine_leadsTo p1 p3 σ) (f_Mine_leadsTo p2 (0 : Int32) ((f_Table_lower_9 p1 p2 ((f_Mine_oilTo (f_Mine_leadsTo p1 p3 σ) ((f_Table_lower_8 p1 p2 ((1 : Int32) + (f_Table_get_8 (f_Mine_leadsTo p1 p3 σ) p2 σ)) σ).2)) + (f_Table_get_9 (f_Mine_leadsTo p1 p3 σ) p2 ((f_Table_lower_8 p1 p2 ((1 : Int32) + (f_Table_get_8 (f_Mine_leadsTo p1 p3 σ) p2 σ)) σ).2))) ((f_Table_lower_8 p1 p2 ((1 : Int32) + (f_Table_get_8 (f_Mine_leadsTo p1 p3 σ) p2 σ)) σ).2)).2)) ((f_Table_lower_9 p1 p2 ((f_Mine_oilTo (f_Mine_leadsTo p1 p3 σ) ((f_Table_lower_8 p1 p2 ((1 : Int32) + (f_Table_get_8 (f_Mine_leadsTo p1 p3 σ) p2 σ)) σ).2)) + (f_Table_get_9 (f_Mine_leadsTo p1 p3 σ) p2 ((f_Table_lower_8 p1 p2 ((1 : Int32) + (f_Table_get_8 (f_Mine_leadsTo p1 p3 σ) p2 σ)) σ).2))) ((f_Table_lower_8 p1 p2 ((1 : Int32) + (f_Table_get_8 (f_Mine_leadsTo p1 p3 σ) p2 σ)) σ).2)).2))) ((f_Table_lower_9 p1 p2 ((f_Mine_oilTo (f_Mine_leadsTo p1 p3 σ) ((f_Table_lower_8 p1 p2 ((1 : Int32) + (f_Table_get_8 (f_Mine_leadsTo p1 p3 σ) p2 σ)) σ).2)) + (f_Table_get_9 (f_Mine_leadsTo p1 p3 σ) p2 ((f_Table_lower_8 p1 p2 ((1 : Int32) + (f_Table_get_8 (f_Mine_leadsTo p1 p3 σ) p2 σ)) σ).2))) ((f_Table_lower_8 p1 p2 ((1 : Int32) + (f_Table_get_8 (f_Mine_leadsTo p1 p3 σ) p2 σ)) σ).2)).2)).2))) ((f_Table_lower_10 p1 p2 ((1 : Int32) + (f_Table_get_10 (f_Mine_leadsTo p1 p3 σ) (f_Mine_leadsTo p2 (0 : Int32) ((f_Table_lower_9 p1 p2 ((f_Mine_oilTo (f_Mine_leadsTo p1 p3 σ) ((f_Table_lower_8 p1 p2 ((1 : Int32) + (f_Table_get_8 (f_Mine_leadsTo p1 p3 σ) p2 σ)) σ).2)) + (f_Table_get_9 (f_Mine_leadsTo p1 p3 σ) p2 ((f_Table_lower_8 p1 p2 ((1 : Int32) + (f_Table_get_8 (f_Mine_leadsTo p1 p3 σ) p2 σ)) σ).2))) ((f_Table_lower_8 p1 p2 ((1 : Int32) + (f_Table_get_8 (f_Mine_leadsTo p1 p3 σ) p2 σ)) σ).2)).2)) ((f_Table_lower_9 p1 p2 ((f_Mine_oilTo (f_Mine_leadsTo p1 p3 σ) ((f_Table_lower_8 p1 p2 ((1 : Int32) + (f_Table_get_8 (f_Mine_leadsTo p1 p3 σ) p2 σ)) σ).2)) + (f_Table_get_9 (f_Mine_leadsTo p1 p3 σ) p2 ((f_Table_lower_8 p1 p2 ((1 : Int32) + (f_Table_get_8 (f_Mine_leadsTo p1 p3 σ) p2 σ)) σ).2))) ((f_Table_lower_8 p1 p2 ((1 : Int32) + (f_Table_get_8 (f_Mine_leadsTo p1 p3 σ) p2 σ)) σ).2)).2))) ((f_Table_lower_9 p1 p2 ((f_Mine_oilTo (f_Mine_leadsTo p1 p3 σ) ((f_Table_lower_8 p1 p2 ((1 : Int32) + (f_Table_get_8 (f_Mine_leadsTo p1 p3 σ) p2 σ)) σ).2)) + (f_Table_get_9 (f_Mine_leadsTo p1 p3 σ) p2 ((f_Table_lower_8 p1 p2 ((1 : Int32) + (f_Table_get_8 (f_Mine_leadsTo p1 p3 σ) p2 σ)) σ).2))) ((f_Table_lower_8 p1 p2 ((1 : Int32) + (f_Table_get_8 (f_Mine_leadsTo p1 p3 σ) p2 σ)) σ).2)).2)).2)).1))]) hX dX4_lowerBy_134 (by decide) rfl rfl ?_
  refine JJ.iload hX 5 dX4_lowerBy_136 rfl ?_
  refine JJ.aload_n hX 0 dX4_lowerBy_138 rfl ?_
  refine fg_X4_24_7 hX dX4_lowerBy_139 ?_
  refine JJ.iload_n hX 1 dX4_lowerBy_142 rfl ?_
  refine JJ.iload_n hX 2 dX4_lowerBy_143 rfl ?_
  refine JJ.iconst (v := 1) hX dX4_lowerBy_144 (by decide) ?_
  refine JJ.aload_n hX 0 dX4_lowerBy_145 rfl ?_
  refine JJ.iload_n hX 1 dX4_lowerBy_146 rfl ?_
  refine JJ.iload_n hX 2 dX4_lowerBy_147 rfl ?_
  refine JJ.iload_n hX 3 dX4_lowerBy_148 rfl ?_
  refine JJ.callVi hX (ct_Ways_apartAfter _ _ _ _ _ rfl) cal_yX4_apartAfter cav_yX4_apartAfter lm_RX4_58 rfl rfl rfl (Rcv.obj hX (ci := 4) rfl rfl) (Nat.le_of_ble_eq_true rfl) ⟨by decide, by decide⟩ dX4_lowerBy_149 ?_
  refine JJ.iadd hX dX4_lowerBy_152 ?_
  refine JJ.callVi hX (ct_Table_lower_11 _ _ _ _ _ rfl) cal_yX3_lower cav_yX3_lower lm_RX4_87 rfl rfl rfl (Rcv.obj hX (ci := 3) rfl rfl) (Nat.le_of_ble_eq_true rfl) ⟨by decide, by decide⟩ dX4_lowerBy_153 ?_
  refine JJ.ior hX dX4_lowerBy_156 ?_
  refine JJ.istore (ls' := [(0, .ref (xad X 7)), (1, .int p1), (2, .int p2), (3, .int p3), (4, .int (f_Mine_leadsTo p1 p3 σ)), (5, .int (((((f_Table_lower_8 p1 p2 ((1 : Int32) + (f_Table_get_8 (f_Mine_leadsTo p1 p3 σ) p2 σ)) σ).1 ||| (f_Table_lower_9 p1 p2 ((f_Mine_oilTo (f_Mine_leadsTo p1 p3 σ) ((f_Table_lower_8 p1 p2 ((1 : Int32) + (f_Table_get_8 (f_Mine_leadsTo p1 p3 σ) p2 σ)) σ).2)) + (f_Table_get_9 (f_Mine_leadsTo p1 p3 σ) p2 ((f_Table_lower_8 p1 p2 ((1 : Int32) + (f_Table_get_8 (f_Mine_leadsTo p1 p3 σ) p2 σ)) σ).2))) ((f_Table_lower_8 p1 p2 ((1 : Int32) + (f_Table_get_8 (f_Mine_leadsTo p1 p3 σ) p2 σ)) σ).2)).1) ||| (f_Table_lower_10 p1 p2 ((1 : Int32) + (f_Table_get_10 (f_Mine_leadsTo p1 p3 σ) (f_Mine_leadsTo p2 (0 : Int32) ((f_Table_lower_9 p1 p2 ((f_Mine_oilTo (f_Mine_leadsTo p1 p3 σ) ((f_Table_lower_8 p1 p2 ((1 : Int32) + (f_Table_get_8 (f_Mine_leadsTo p1 p3 σ) p2 σ)) σ).2)) + (f_Table_get_9 (f_Mine_leadsTo p1 p3 σ) p2 ((f_Table_lower_8 p1 p2 ((1 : Int32) + (f_Table_get_8 (f_Mine_leadsTo p1 p3 σ) p2 σ)) σ).2))) ((f_Table_lower_8 p1 p2 ((1 : Int32) + (f_Table_get_8 (f_Mine_leadsTo p1 p3 σ) p2 σ)) σ).2)).2)) ((f_Table_lower_9 p1 p2 ((f_Mine_oilTo (f_Mine_leadsTo p1 p3 σ) ((f_Table_lower_8 p1 p2 ((1 : Int32) + (f_Table_get_8 (f_Mine_leadsTo p1 p3 σ) p2 σ)) σ).2)) + (f_Table_get_9 (f_Mine_leadsTo p1 p3 σ) p2 ((f_Table_lower_8 p1 p2 ((1 : Int32) + (f_Table_get_8 (f_Mine_leadsTo p1 p3 σ) p2 σ)) σ).2))) ((f_Table_lower_8 p1 p2 ((1 : Int32) + (f_Table_get_8 (f_Mine_leadsTo p1 p3 σ) p2 σ)) σ).2)).2))) ((f_Table_lower_9 p1 p2 ((f_Mine_oilTo (f_Mine_leadsTo p1 p3 σ) ((f_Table_lower_8 p1 p2 ((1 : Int32) + (f_Table_get_8 (f_Mine_leadsTo p1 p3 σ) p2 σ)) σ).2)) + (f_Table_get_9 (f_Mine_leadsTo p1 p3 σ) p2 ((f_Table_lower_8 p1 p2 ((1 : Int32) + (f_Table_get_8 (f_Mine_leadsTo p1 p3 σ) p2 σ)) σ).2))) ((f_Table_lower_8 p1 p2 ((1 : Int32) + (f_Table_get_8 (f_Mine_leadsTo p1 p3 σ) p2 σ)) σ).2)).2)).1) ||| (f_Table_lower_10 p1 p2 ((1 : Int32) + (f_Table_get_10 (f_Mine_leadsTo p1 p3 σ) (f_Mine_leadsTo p2 (1 : Int32) ((f_Table_lower_10 p1 p2 ((1 : Int32) + (f_Table_get_10 (f_Mine_leadsTo p1 p3 σ) (f_Mine_leadsTo p2 (0 : Int32) ((f_Table_lower_9 p1 p2 ((f_Mine_oilTo (f_Mine_leadsTo p1 p3 σ) ((f_Table_lower_8 p1 p2 ((1 : Int32) + (f_Table_get_8 (f_Mine_leadsTo p1 p3 σ) p2 σ)) σ).2)) + (f_Table_get_9 (f_Mine_leadsTo p1 p3 σ) p2 ((f_Table_lower_8 p1 p2 ((1 : Int32) + (f_Table_get_8 (f_Mine_leadsTo p1 p3 σ) p2 σ)) σ).2))) ((f_Table_lower_8 p1 p2 ((1 : Int32) + (f_Table_get_8 (f_Mine_leadsTo p1 p3 σ) p2 σ)) σ).2)).2)) ((f_Table_lower_9 p1 p2 ((f_Mine_oilTo (f_Mine_leadsTo p1 p3 σ) ((f_Table_lower_8 p1 p2 ((1 : Int32) + (f_Table_get_8 (f_Mine_leadsTo p1 p3 σ) p2 σ)) σ).2)) + (f_Table_get_9 (f_Mine_leadsTo p1 p3 σ) p2 ((f_Table_lower_8 p1 p2 ((1 : Int32) + (f_Table_get_8 (f_Mine_leadsTo p1 p3 σ) p2 σ)) σ).2))) ((f_Table_lower_8 p1 p2 ((1 : Int32) + (f_Table_get_8 (f_Mine_leadsTo p1 p3 σ) p2 σ)) σ).2)).2))) ((f_Table_lower_9 p1 p2 ((f_Mine_oilTo (f_Mine_leadsTo p1 p3 σ) ((f_Table_lower_8 p1 p2 ((1 : Int32) + (f_Table_get_8 (f_Mine_leadsTo p1 p3 σ) p2 σ)) σ).2)) + (f_Table_get_9 (f_Mine_leadsTo p1 p3 σ) p2 ((f_Table_lower_8 p1 p2 ((1 : Int32) + (f_Table_get_8 (f_Mine_leadsTo p1 p3 σ) p2 σ)) σ).2))) ((f_Table_lower_8 p1 p2 ((1 : Int32) + (f_Table_get_8 (f_Mine_leadsTo p1 p3 σ) p2 σ)) σ).2)).2)).2)) ((f_Table_lower_10 p1 p2 ((1 : Int32) + (f_Table_get_10 (f_Mine_leadsTo p1 p3 σ) (f_Mine_leadsTo p2 (0 : Int32) ((f_Table_lower_9 p1 p2 ((f_Mine_oilTo (f_Mine_leadsTo p1 p3 σ) ((f_Table_lower_8 p1 p2 ((1 : Int32) + (f_Table_get_8 (f_Mine_leadsTo p1 p3 σ) p2 σ)) σ).2)) + (f_Table_get_9 (f_Mine_leadsTo p1 p3 σ) p2 ((f_Table_lower_8 p1 p2 ((1 : Int32) + (f_Table_get_8 (f_Mine_leadsTo p1 p3 σ) p2 σ)) σ).2))) ((f_Table_lower_8 p1 p2 ((1 : Int32) + (f_Table_get_8 (f_Mine_leadsTo p1 p3 σ) p2 σ)) σ).2)).2)) ((f_Table_lower_9 p1 p2 ((f_Mine_oilTo (f_Mine_leadsTo p1 p3 σ) ((f_Table_lower_8 p1 p2 ((1 : Int32) + (f_Table_get_8 (f_Mine_leadsTo p1 p3 σ) p2 σ)) σ).2)) + (f_Table_get_9 (f_Mine_leadsTo p1 p3 σ) p2 ((f_Table_lower_8 p1 p2 ((1 : Int32) + (f_Table_get_8 (f_Mine_leadsTo p1 p3 σ) p2 σ)) σ).2))) ((f_Table_lower_8 p1 p2 ((1 : Int32) + (f_Table_get_8 (f_Mine_leadsTo p1 p3 σ) p2 σ)) σ).2)).2))) ((f_Table_lower_9 p1 p2 ((f_Mine_oilTo (f_Mine_leadsTo p1 p3 σ) ((f_Table_lower_8 p1 p2 ((1 : Int32) + (f_Table_get_8 (f_Mine_leadsTo p1 p3 σ) p2 σ)) σ).2)) + (f_Table_get_9 (f_Mine_leadsTo p1 p3 σ) p2 ((f_Table_lower_8 p1 p2 ((1 : Int32) + (f_Table_get_8 (f_Mine_leadsTo p1 p3 σ) p2 σ)) σ).2))) ((f_Table_lower_8 p1 p2 ((1 : Int32) + (f_Table_get_8 (f_Mine_leadsTo p1 p3 σ) p2 σ)) σ).2)).2)).2))) ((f_Table_lower_10 p1 p2 ((1 : Int32) + (f_Table_get_10 (f_Mine_leadsTo p1 p3 σ) (f_Mine_leadsTo p2 (0 : Int32) ((f_Table_lower_9 p1 p2 ((f_Mine_oilTo (f_Mine_leadsTo p1 p3 σ) ((f_Table_lower_8 p1 p2 ((1 : Int32) + (f_Table_get_8 (f_Mine_leadsTo p1 p3 σ) p2 σ)) σ).2)) + (f_Table_get_9 (f_Mine_leadsTo p1 p3 σ) p2 ((f_Table_lower_8 p1 p2 ((1 : Int32) + (f_Table_get_8 (f_Mine_leadsTo p1 p3 σ) p2 σ)) σ).2))) ((f_Table_lower_8 p1 p2 ((1 : Int32) + (f_Table_get_8 (f_Mine_leadsTo p1 p3 σ) p2 σ)) σ).2)).2)) ((f_Table_lower_9 p1 p2 ((f_Mine_oilTo (f_Mine_leadsTo p1 p3 σ) ((f_Table_lower_8 p1 p2 ((1 : Int32) + (f_Table_get_8 (f_Mine_leadsTo p1 p3 σ) p2 σ)) σ).2)) + (f_Table_get_9 (f_Mine_leadsTo p1 p3 σ) p2 ((f_Table_lower_8 p1 p2 ((1 : Int32) + (f_Table_get_8 (f_Mine_leadsTo p1 p3 σ) p2 σ)) σ).2))) ((f_Table_lower_8 p1 p2 ((1 : Int32) + (f_Table_get_8 (f_Mine_leadsTo p1 p3 σ) p2 σ)) σ).2)).2))) ((f_Table_lower_9 p1 p2 ((f_Mine_oilTo (f_Mine_leadsTo p1 p3 σ) ((f_Table_lower_8 p1 p2 ((1 : Int32) + (f_Table_get_8 (f_Mine_leadsTo p1 p3 σ) p2 σ)) σ).2)) + (f_Table_get_9 (f_Mine_leadsTo p1 p3 σ) p2 ((f_Table_lower_8 p1 p2 ((1 : Int32) + (f_Table_get_8 (f_Mine_leadsTo p1 p3 σ) p2 σ)) σ).2))) ((f_Table_lower_8 p1 p2 ((1 : Int32) + (f_Table_get_8 (f_Mine_leadsTo p1 p3 σ) p2 σ)) σ).2)).2)).2)).1) ||| (f_Table_lower_11 p1 p2 ((1 : Int32) + (f_Ways_apartAfter p1 p2 p3 ((f_Table_lower_10 p1 p2 ((1 : Int32) + (f_Table_get_10 (f_Mine_leadsTo p1 p3 σ) (f_Mine_leadsTo p2 (1 : Int32) ((f_Table_lower_10 p1 p2 ((1 : Int32) + (f_Table_get_10 (f_Mine_leadsTo p1 p3 σ) (f_Mine_leadsTo p2 (0 : Int32) ((f_Table_lower_9 p1 p2 ((f_Mine_oilTo (f_Mine_leadsTo p1 p3 σ) ((f_Table_lower_8 p1 p2 ((1 : Int32) + (f_Table_get_8 (f_Mine_leadsTo p1 p3 σ) p2 σ)) σ).2)) + (f_Table_get_9 (f_Mine_leadsTo p1 p3 σ) p2 ((f_Table_lower_8 p1 p2 ((1 : Int32) + (f_Table_get_8 (f_Mine_leadsTo p1 p3 σ) p2 σ)) σ).2))) ((f_Table_lower_8 p1 p2 ((1 : Int32) + (f_Table_get_8 (f_Mine_leadsTo p1 p3 σ) p2 σ)) σ).2)).2)) ((f_Table_lower_9 p1 p2 ((f_Mine_oilTo (f_Mine_leadsTo p1 p3 σ) ((f_Table_lower_8 p1 p2 ((1 : Int32) + (f_Table_get_8 (f_Mine_leadsTo p1 p3 σ) p2 σ)) σ).2)) + (f_Table_get_9 (f_Mine_leadsTo p1 p3 σ) p2 ((f_Table_lower_8 p1 p2 ((1 : Int32) + (f_Table_get_8 (f_Mine_leadsTo p1 p3 σ) p2 σ)) σ).2))) ((f_Table_lower_8 p1 p2 ((1 : Int32) + (f_Table_get_8 (f_Mine_leadsTo p1 p3 σ) p2 σ)) σ).2)).2))) ((f_Table_lower_9 p1 p2 ((f_Mine_oilTo (f_Mine_leadsTo p1 p3 σ) ((f_Table_lower_8 p1 p2 ((1 : Int32) + (f_Table_get_8 (f_Mine_leadsTo p1 p3 σ) p2 σ)) σ).2)) + (f_Table_get_9 (f_Mine_leadsTo p1 p3 σ) p2 ((f_Table_lower_8 p1 p2 ((1 : Int32) + (f_Table_get_8 (f_Mine_leadsTo p1 p3 σ) p2 σ)) σ).2))) ((f_Table_lower_8 p1 p2 ((1 : Int32) + (f_Table_get_8 (f_Mine_leadsTo p1 p3 σ) p2 σ)) σ).2)).2)).2)) ((f_Table_lower_10 p1 p2 ((1 : Int32) + (f_Table_get_10 (f_Mine_leadsTo p1 p3 σ) (f_Mine_leadsTo p2 (0 : Int32) ((f_Table_lower_9 p1 p2 ((f_Mine_oilTo (f_Mine_leadsTo p1 p3 σ) ((f_Table_lower_8 p1 p2 ((1 : Int32) + (f_Table_get_8 (f_Mine_leadsTo p1 p3 σ) p2 σ)) σ).2)) + (f_Table_get_9 (f_Mine_leadsTo p1 p3 σ) p2 ((f_Table_lower_8 p1 p2 ((1 : Int32) + (f_Table_get_8 (f_Mine_leadsTo p1 p3 σ) p2 σ)) σ).2))) ((f_Table_lower_8 p1 p2 ((1 : Int32) + (f_Table_get_8 (f_Mine_leadsTo p1 p3 σ) p2 σ)) σ).2)).2)) ((f_Table_lower_9 p1 p2 ((f_Mine_oilTo (f_Mine_leadsTo p1 p3 σ) ((f_Table_lower_8 p1 p2 ((1 : Int32) + (f_Table_get_8 (f_Mine_leadsTo p1 p3 σ) p2 σ)) σ).2)) + (f_Table_get_9 (f_Mine_leadsTo p1 p3 σ) p2 ((f_Table_lower_8 p1 p2 ((1 : Int32) + (f_Table_get_8 (f_Mine_leadsTo p1 p3 σ) p2 σ)) σ).2))) ((f_Table_lower_8 p1 p2 ((1 : Int32) + (f_Table_get_8 (f_Mine_leadsTo p1 p3 σ) p2 σ)) σ).2)).2))) ((f_Table_lower_9 p1 p2 ((f_Mine_oilTo (f_Mine_leadsTo p1 p3 σ) ((f_Table_lower_8 p1 p2 ((1 : Int32) + (f_Table_get_8 (f_Mine_leadsTo p1 p3 σ) p2 σ)) σ).2)) + (f_Table_get_9 (f_Mine_leadsTo p1 p3 σ) p2 ((f_Table_lower_8 p1 p2 ((1 : Int32) + (f_Table_get_8 (f_Mine_leadsTo p1 p3 σ) p2 σ)) σ).2))) ((f_Table_lower_8 p1 p2 ((1 : Int32) + (f_Table_get_8 (f_Mine_leadsTo p1 p3 σ) p2 σ)) σ).2)).2)).2))) ((f_Table_lower_10 p1 p2 ((1 : Int32) + (f_Table_get_10 (f_Mine_leadsTo p1 p3 σ) (f_Mine_leadsTo p2 (0 : Int32) ((f_Table_lower_9 p1 p2 ((f_Mine_oilTo (f_Mine_leadsTo p1 p3 σ) ((f_Table_lower_8 p1 p2 ((1 : Int32) + (f_Table_get_8 (f_Mine_leadsTo p1 p3 σ) p2 σ)) σ).2)) + (f_Table_get_9 (f_Mine_leadsTo p1 p3 σ) p2 ((f_Table_lower_8 p1 p2 ((1 : Int32) + (f_Table_get_8 (f_Mine_leadsTo p1 p3 σ) p2 σ)) σ).2))) ((f_Table_lower_8 p1 p2 ((1 : Int32) + (f_Table_get_8 (f_Mine_leadsTo p1 p3 σ) p2 σ)) σ).2)).2)) ((f_Table_lower_9 p1 p2 ((f_Mine_oilTo (f_Mine_leadsTo p1 p3 σ) ((f_Table_lower_8 p1 p2 ((1 : Int32) + (f_Table_get_8 (f_Mine_leadsTo p1 p3 σ) p2 σ)) σ).2)) + (f_Table_get_9 (f_Mine_leadsTo p1 p3 σ) p2 ((f_Table_lower_8 p1 p2 ((1 : Int32) + (f_Table_get_8 (f_Mine_leadsTo p1 p3 σ) p2 σ)) σ).2))) ((f_Table_lower_8 p1 p2 ((1 : Int32) + (f_Table_get_8 (f_Mine_leadsTo p1 p3 σ) p2 σ)) σ).2)).2))) ((f_Table_lower_9 p1 p2 ((f_Mine_oilTo (f_Mine_leadsTo p1 p3 σ) ((f_Table_lower_8 p1 p2 ((1 : Int32) + (f_Table_get_8 (f_Mine_leadsTo p1 p3 σ) p2 σ)) σ).2)) + (f_Table_get_9 (f_Mine_leadsTo p1 p3 σ) p2 ((f_Table_lower_8 p1 p2 ((1 : Int32) + (f_Table_get_8 (f_Mine_leadsTo p1 p3 σ) p2 σ)) σ).2))) ((f_Table_lower_8 p1 p2 ((1 : Int32) + (f_Table_get_8 (f_Mine_leadsTo p1 p3 σ) p2 σ)) σ).2)).2)).2)).2))) ((f_Table_lower_10 p1 p2 ((1 : Int32) + (f_Table_get_10 (f_Mine_leadsTo p1 p3 σ) (f_Mine_leadsTo p2 (1 : Int32) ((f_Table_lower_10 p1 p2 ((1 : Int32) + (f_Table_get_10 (f_Mine_leadsTo p1 p3 σ) (f_Mine_leadsTo p2 (0 : Int32) ((f_Table_lower_9 p1 p2 ((f_Mine_oilTo (f_Mine_leadsTo p1 p3 σ) ((f_Table_lower_8 p1 p2 ((1 : Int32) + (f_Table_get_8 (f_Mine_leadsTo p1 p3 σ) p2 σ)) σ).2)) + (f_Table_get_9 (f_Mine_leadsTo p1 p3 σ) p2 ((f_Table_lower_8 p1 p2 ((1 : Int32) + (f_Table_get_8 (f_Mine_leadsTo p1 p3 σ) p2 σ)) σ).2))) ((f_Table_lower_8 p1 p2 ((1 : Int32) + (f_Table_get_8 (f_Mine_leadsTo p1 p3 σ) p2 σ)) σ).2)).2)) ((f_Table_lower_9 p1 p2 ((f_Mine_oilTo (f_Mine_leadsTo p1 p3 σ) ((f_Table_lower_8 p1 p2 ((1 : Int32) + (f_Table_get_8 (f_Mine_leadsTo p1 p3 σ) p2 σ)) σ).2)) + (f_Table_get_9 (f_Mine_leadsTo p1 p3 σ) p2 ((f_Table_lower_8 p1 p2 ((1 : Int32) + (f_Table_get_8 (f_Mine_leadsTo p1 p3 σ) p2 σ)) σ).2))) ((f_Table_lower_8 p1 p2 ((1 : Int32) + (f_Table_get_8 (f_Mine_leadsTo p1 p3 σ) p2 σ)) σ).2)).2))) ((f_Table_lower_9 p1 p2 ((f_Mine_oilTo (f_Mine_leadsTo p1 p3 σ) ((f_Table_lower_8 p1 p2 ((1 : Int32) + (f_Table_get_8 (f_Mine_leadsTo p1 p3 σ) p2 σ)) σ).2)) + (f_Table_get_9 (f_Mine_leadsTo p1 p3 σ) p2 ((f_Table_lower_8 p1 p2 ((1 : Int32) + (f_Table_get_8 (f_Mine_leadsTo p1 p3 σ) p2 σ)) σ).2))) ((f_Table_lower_8 p1 p2 ((1 : Int32) + (f_Table_get_8 (f_Mine_leadsTo p1 p3 σ) p2 σ)) σ).2)).2)).2)) ((f_Table_lower_10 p1 p2 ((1 : Int32) + (f_Table_get_10 (f_Mine_leadsTo p1 p3 σ) (f_Mine_leadsTo p2 (0 : Int32) ((f_Table_lower_9 p1 p2 ((f_Mine_oilTo (f_Mine_leadsTo p1 p3 σ) ((f_Table_lower_8 p1 p2 ((1 : Int32) + (f_Table_get_8 (f_Mine_leadsTo p1 p3 σ) p2 σ)) σ).2)) + (f_Table_get_9 (f_Mine_leadsTo p1 p3 σ) p2 ((f_Table_lower_8 p1 p2 ((1 : Int32) + (f_Table_get_8 (f_Mine_leadsTo p1 p3 σ) p2 σ)) σ).2))) ((f_Table_lower_8 p1 p2 ((1 : Int32) + (f_Table_get_8 (f_Mine_leadsTo p1 p3 σ) p2 σ)) σ).2)).2)) ((f_Table_lower_9 p1 p2 ((f_Mine_oilTo (f_Mine_leadsTo p1 p3 σ) ((f_Table_lower_8 p1 p2 ((1 : Int32) + (f_Table_get_8 (f_Mine_leadsTo p1 p3 σ) p2 σ)) σ).2)) + (f_Table_get_9 (f_Mine_leadsTo p1 p3 σ) p2 ((f_Table_lower_8 p1 p2 ((1 : Int32) + (f_Table_get_8 (f_Mine_leadsTo p1 p3 σ) p2 σ)) σ).2))) ((f_Table_lower_8 p1 p2 ((1 : Int32) + (f_Table_get_8 (f_Mine_leadsTo p1 p3 σ) p2 σ)) σ).2)).2))) ((f_Table_lower_9 p1 p2 ((f_Mine_oilTo (f_Mine_leadsTo p1 p3 σ) ((f_Table_lower_8 p1 p2 ((1 : Int32) + (f_Table_get_8 (f_Mine_leadsTo p1 p3 σ) p2 σ)) σ).2)) + (f_Table_get_9 (f_Mine_leadsTo p1 p3 σ) p2 ((f_Table_lower_8 p1 p2 ((1 : Int32) + (f_Table_get_8 (f_Mine_leadsTo p1 p3 σ) p2 σ)) σ).2))) ((f_Table_lower_8 p1 p2 ((1 : Int32) + (f_Table_get_8 (f_Mine_leadsTo p1 p3 σ) p2 σ)) σ).2)).2)).2))) ((f_Table_lower_10 p1 p2 ((1 : Int32) + (f_Table_get_10 (f_Mine_leadsTo p1 p3 σ) (f_Mine_leadsTo p2 (0 : Int32) ((f_Table_lower_9 p1 p2 ((f_Mine_oilTo (f_Mine_leadsTo p1 p3 σ) ((f_Table_lower_8 p1 p2 ((1 : Int32) + (f_Table_get_8 (f_Mine_leadsTo p1 p3 σ) p2 σ)) σ).2)) + (f_Table_get_9 (f_Mine_leadsTo p1 p3 σ) p2 ((f_Table_lower_8 p1 p2 ((1 : Int32) + (f_Table_get_8 (f_Mine_leadsTo p1 p3 σ) p2 σ)) σ).2))) ((f_Table_lower_8 p1 p2 ((1 : Int32) + (f_Table_get_8 (f_Mine_leadsTo p1 p3 σ) p2 σ)) σ).2)).2)) ((f_Table_lower_9 p1 p2 ((f_Mine_oilTo (f_Mine_leadsTo p1 p3 σ) ((f_Table_lower_8 p1 p2 ((1 : Int32) + (f_Table_get_8 (f_Mine_leadsTo p1 p3 σ) p2 σ)) σ).2)) + (f_Table_get_9 (f_Mine_leadsTo p1 p3 σ) p2 ((f_Table_lower_8 p1 p2 ((1 : Int32) + (f_Table_get_8 (f_Mine_leadsTo p1 p3 σ) p2 σ)) σ).2))) ((f_Table_lower_8 p1 p2 ((1 : Int32) + (f_Table_get_8 (f_Mine_leadsTo p1 p3 σ) p2 σ)) σ).2)).2))) ((f_Table_lower_9 p1 p2 ((f_Mine_oilTo (f_Mine_leadsTo p1 p3 σ) ((f_Table_lower_8 p1 p2 ((1 : Int32) + (f_Table_get_8 (f_Mine_leadsTo p1 p3 σ) p2 σ)) σ).2)) + (f_Table_get_9 (f_Mine_leadsTo p1 p3 σ) p2 ((f_Table_lower_8 p1 p2 ((1 : Int32) + (f_Table_get_8 (f_Mine_leadsTo p1 p3 σ) p2 σ)) σ).2))) ((f_Table_lower_8 p1 p2 ((1 : Int32) + (f_Table_get_8 (f_Mine_leadsTo p1 p3 σ) p2 σ)) σ).2)).2)).2)).2)).1))]) hX dX4_lowerBy_157 (by decide) rfl rfl ?_
  refine JJ.iload hX 5 dX4_lowerBy_159 rfl ?_
  subst h
  exact JJ.bret hX hM dX4_lowerBy_161
