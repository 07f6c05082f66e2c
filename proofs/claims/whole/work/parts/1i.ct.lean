set_option maxRecDepth 100000 in
theorem lp_Camp_copyRow_28_21_2 {X : CX} (hX : Ok X RX0 cX0_copyRow 3 1) : ∀ (n : Nat) (x2 : Int32) (σ : ST) (e : (ST)), f_Camp_copyRow_28_21_L2 n x2 σ = some e → JJ X 24 [] [] e → JJ X 2 [(0, .ref (xad X 28)), (1, .ref (xad X 21)), (2, .int x2)] [] σ := by
  intro n
  induction n with
  | zero =>
    intro x2 σ e h
    rw [f_Camp_copyRow_28_21_L2] at h
    cases h
  | succ n ih =>
    intro x2 σ e h K
    rw [f_Camp_copyRow_28_21_L2] at h
    refine JJ.iload_n hX 2 dX0_copyRow_2 rfl ?_
    refine JJ.aload_n hX 1 dX0_copyRow_3 rfl ?_
    refine aln_21 hX dX0_copyRow_4 ?_
    refine JJ.icmp_ge (tgt := 24) hX dX0_copyRow_5 (by decide) (fun c1 => ?_) (fun c1 => ?_)
    · replace h := ipos c1 h
      obtain rfl := Option.some.inj h
      exact JJ.sub [] rfl K
    · replace h := ineg c1 h
      refine JJ.aload_n hX 1 dX0_copyRow_8 rfl ?_
      refine JJ.iload_n hX 2 dX0_copyRow_9 rfl ?_
      refine JJ.aload_n hX 0 dX0_copyRow_10 rfl ?_
      refine JJ.iload_n hX 2 dX0_copyRow_11 rfl ?_
      refine JJ.callSNi hX (ct_cell 28 3 (by decide) (fun _ _ _ => rfl) _ _ _ rfl) cal_yX5_cell cas_yX5_cell lm_RX0_41 rfl rfl (Nat.le_of_ble_eq_true rfl) ⟨by decide, by decide⟩ dX0_copyRow_12 ?_
      refine JJ.callSNv hX (ct_put 21 3 (by decide) (fun _ _ _ => rfl) (fun _ _ _ _ _ => rfl) _ _ _ _ rfl) cal_yX5_put cas_yX5_put lm_RX0_45 rfl rfl (Nat.le_of_ble_eq_true rfl) ⟨by decide, by decide⟩ dX0_copyRow_15 ?_
      refine JJ.iinc (v := 1) (ls' := [(0, .ref (xad X 28)), (1, .ref (xad X 21)), (2, .int (x2 + (1 : Int32)))]) hX 2 dX0_copyRow_18 rfl (by decide) (by decide) rfl rfl ?_
      refine JJ.goto (tgt := 2) hX dX0_copyRow_21 (by decide) ?_
      exact ih _ _ _ h K
set_option maxRecDepth 100000 in
theorem ct_Camp_copyRow_28_21 (σ : ST) (res : ST) (h : f_Camp_copyRow_28_21 σ = some res) : Ct 1 yX0_copyRow cX0_copyRow 3 none (fun ad => [.ref (ad 21), .ref (ad 28)]) σ none res := by
  refine Ct.of (ls := fun ad => [(0, .ref (ad 28)), (1, .ref (ad 21))]) (by decide +kernel) (fun ad => Nat.le_of_ble_eq_true rfl) (fun ad => rfl) (fun X hX hM => ?_)
  replace hX : Ok X RX0 cX0_copyRow 3 1 := hX
  unfold f_Camp_copyRow_28_21 at h
  refine JJ.iconst (v := 0) hX dX0_copyRow_0 (by decide) ?_
  refine JJ.istore_n (ls' := [(0, .ref (xad X 28)), (1, .ref (xad X 21)), (2, .int (0 : Int32))]) hX dX0_copyRow_1 (by decide) rfl rfl ?_
  obtain ⟨e2, h2, h⟩ := bnd h
  refine lp_Camp_copyRow_28_21_2 hX 400 _ _ _ h2 ?_
  obtain rfl := Option.some.inj h
  exact JJ.vret hX hM dX0_copyRow_24
set_option maxRecDepth 100000 in
theorem lp_Camp_copyRow_29_22_2 {X : CX} (hX : Ok X RX0 cX0_copyRow 3 1) : ∀ (n : Nat) (x2 : Int32) (σ : ST) (e : (ST)), f_Camp_copyRow_29_22_L2 n x2 σ = some e → JJ X 24 [] [] e → JJ X 2 [(0, .ref (xad X 29)), (1, .ref (xad X 22)), (2, .int x2)] [] σ := by
  intro n
  induction n with
  | zero =>
    intro x2 σ e h
    rw [f_Camp_copyRow_29_22_L2] at h
    cases h
  | succ n ih =>
    intro x2 σ e h K
    rw [f_Camp_copyRow_29_22_L2] at h
    refine JJ.iload_n hX 2 dX0_copyRow_2 rfl ?_
    refine JJ.aload_n hX 1 dX0_copyRow_3 rfl ?_
    refine aln_22 hX dX0_copyRow_4 ?_
    refine JJ.icmp_ge (tgt := 24) hX dX0_copyRow_5 (by decide) (fun c1 => ?_) (fun c1 => ?_)
    · replace h := ipos c1 h
      obtain rfl := Option.some.inj h
      exact JJ.sub [] rfl K
    · replace h := ineg c1 h
      refine JJ.aload_n hX 1 dX0_copyRow_8 rfl ?_
      refine JJ.iload_n hX 2 dX0_copyRow_9 rfl ?_
      refine JJ.aload_n hX 0 dX0_copyRow_10 rfl ?_
      refine JJ.iload_n hX 2 dX0_copyRow_11 rfl ?_
      refine JJ.callSNi hX (ct_cell 29 8 (by decide) (fun _ _ _ => rfl) _ _ _ rfl) cal_yX5_cell cas_yX5_cell lm_RX0_41 rfl rfl (Nat.le_of_ble_eq_true rfl) ⟨by decide, by decide⟩ dX0_copyRow_12 ?_
      refine JJ.callSNv hX (ct_put 22 8 (by decide) (fun _ _ _ => rfl) (fun _ _ _ _ _ => rfl) _ _ _ _ rfl) cal_yX5_put cas_yX5_put lm_RX0_45 rfl rfl (Nat.le_of_ble_eq_true rfl) ⟨by decide, by decide⟩ dX0_copyRow_15 ?_
      refine JJ.iinc (v := 1) (ls' := [(0, .ref (xad X 29)), (1, .ref (xad X 22)), (2, .int (x2 + (1 : Int32)))]) hX 2 dX0_copyRow_18 rfl (by decide) (by decide) rfl rfl ?_
      refine JJ.goto (tgt := 2) hX dX0_copyRow_21 (by decide) ?_
      exact ih _ _ _ h K
set_option maxRecDepth 100000 in
theorem ct_Camp_copyRow_29_22 (σ : ST) (res : ST) (h : f_Camp_copyRow_29_22 σ = some res) : Ct 1 yX0_copyRow cX0_copyRow 3 none (fun ad => [.ref (ad 22), .ref (ad 29)]) σ none res := by
  refine Ct.of (ls := fun ad => [(0, .ref (ad 29)), (1, .ref (ad 22))]) (by decide +kernel) (fun ad => Nat.le_of_ble_eq_true rfl) (fun ad => rfl) (fun X hX hM => ?_)
  replace hX : Ok X RX0 cX0_copyRow 3 1 := hX
  unfold f_Camp_copyRow_29_22 at h
  refine JJ.iconst (v := 0) hX dX0_copyRow_0 (by decide) ?_
  refine JJ.istore_n (ls' := [(0, .ref (xad X 29)), (1, .ref (xad X 22)), (2, .int (0 : Int32))]) hX dX0_copyRow_1 (by decide) rfl rfl ?_
  obtain ⟨e2, h2, h⟩ := bnd h
  refine lp_Camp_copyRow_29_22_2 hX 400 _ _ _ h2 ?_
  obtain rfl := Option.some.inj h
  exact JJ.vret hX hM dX0_copyRow_24
set_option maxRecDepth 100000 in
theorem lp_Camp_copyRow_30_23_2 {X : CX} (hX : Ok X RX0 cX0_copyRow 3 1) : ∀ (n : Nat) (x2 : Int32) (σ : ST) (e : (ST)), f_Camp_copyRow_30_23_L2 n x2 σ = some e → JJ X 24 [] [] e → JJ X 2 [(0, .ref (xad X 30)), (1, .ref (xad X 23)), (2, .int x2)] [] σ := by
  intro n
  induction n with
  | zero =>
    intro x2 σ e h
    rw [f_Camp_copyRow_30_23_L2] at h
    cases h
  | succ n ih =>
    intro x2 σ e h K
    rw [f_Camp_copyRow_30_23_L2] at h
    refine JJ.iload_n hX 2 dX0_copyRow_2 rfl ?_
    refine JJ.aload_n hX 1 dX0_copyRow_3 rfl ?_
    refine aln_23 hX dX0_copyRow_4 ?_
    refine JJ.icmp_ge (tgt := 24) hX dX0_copyRow_5 (by decide) (fun c1 => ?_) (fun c1 => ?_)
    · replace h := ipos c1 h
      obtain rfl := Option.some.inj h
      exact JJ.sub [] rfl K
    · replace h := ineg c1 h
      refine JJ.aload_n hX 1 dX0_copyRow_8 rfl ?_
      refine JJ.iload_n hX 2 dX0_copyRow_9 rfl ?_
      refine JJ.aload_n hX 0 dX0_copyRow_10 rfl ?_
      refine JJ.iload_n hX 2 dX0_copyRow_11 rfl ?_
      refine JJ.callSNi hX (ct_cell 30 8 (by decide) (fun _ _ _ => rfl) _ _ _ rfl) cal_yX5_cell cas_yX5_cell lm_RX0_41 rfl rfl (Nat.le_of_ble_eq_true rfl) ⟨by decide, by decide⟩ dX0_copyRow_12 ?_
      refine JJ.callSNv hX (ct_put 23 8 (by decide) (fun _ _ _ => rfl) (fun _ _ _ _ _ => rfl) _ _ _ _ rfl) cal_yX5_put cas_yX5_put lm_RX0_45 rfl rfl (Nat.le_of_ble_eq_true rfl) ⟨by decide, by decide⟩ dX0_copyRow_15 ?_
      refine JJ.iinc (v := 1) (ls' := [(0, .ref (xad X 30)), (1, .ref (xad X 23)), (2, .int (x2 + (1 : Int32)))]) hX 2 dX0_copyRow_18 rfl (by decide) (by decide) rfl rfl ?_
      refine JJ.goto (tgt := 2) hX dX0_copyRow_21 (by decide) ?_
      exact ih _ _ _ h K
set_option maxRecDepth 100000 in
theorem ct_Camp_copyRow_30_23 (σ : ST) (res : ST) (h : f_Camp_copyRow_30_23 σ = some res) : Ct 1 yX0_copyRow cX0_copyRow 3 none (fun ad => [.ref (ad 23), .ref (ad 30)]) σ none res := by
  refine Ct.of (ls := fun ad => [(0, .ref (ad 30)), (1, .ref (ad 23))]) (by decide +kernel) (fun ad => Nat.le_of_ble_eq_true rfl) (fun ad => rfl) (fun X hX hM => ?_)
  replace hX : Ok X RX0 cX0_copyRow 3 1 := hX
  unfold f_Camp_copyRow_30_23 at h
  refine JJ.iconst (v := 0) hX dX0_copyRow_0 (by decide) ?_
  refine JJ.istore_n (ls' := [(0, .ref (xad X 30)), (1, .ref (xad X 23)), (2, .int (0 : Int32))]) hX dX0_copyRow_1 (by decide) rfl rfl ?_
  obtain ⟨e2, h2, h⟩ := bnd h
  refine lp_Camp_copyRow_30_23_2 hX 400 _ _ _ h2 ?_
  obtain rfl := Option.some.inj h
  exact JJ.vret hX hM dX0_copyRow_24
set_option maxRecDepth 100000 in
theorem ct_Camp_copyFrom_17_24 (σ : ST) (res : ST) (h : f_Camp_copyFrom_17_24 σ = some res) : Ct 2 yX0_copyFrom cX0_copyFrom 2 none (fun ad => [.ref (ad 24), .ref (ad 17)]) σ none res := by
  refine Ct.of (ls := fun ad => [(0, .ref (ad 17)), (1, .ref (ad 24))]) (by decide +kernel) (fun ad => Nat.le_of_ble_eq_true rfl) (fun ad => rfl) (fun X hX hM => ?_)
  replace hX : Ok X RX0 cX0_copyFrom 2 2 := hX
  unfold f_Camp_copyFrom_17_24 at h
  refine JJ.aload_n hX 0 dX0_copyFrom_0 rfl ?_
  refine JJ.aload_n hX 1 dX0_copyFrom_1 rfl ?_
  refine fg_X0_30_24 hX dX0_copyFrom_2 ?_
  refine fp_X0_30_17 hX dX0_copyFrom_5 ?_
  refine JJ.aload_n hX 0 dX0_copyFrom_8 rfl ?_
  refine JJ.aload_n hX 1 dX0_copyFrom_9 rfl ?_
  refine fg_X0_34_24 hX dX0_copyFrom_10 ?_
  refine fp_X0_34_17 hX dX0_copyFrom_13 ?_
  refine JJ.aload_n hX 1 dX0_copyFrom_16 rfl ?_
  refine fg_X0_9_24 hX dX0_copyFrom_17 ?_
  refine JJ.aload_n hX 0 dX0_copyFrom_20 rfl ?_
  refine fg_X0_9_17 hX dX0_copyFrom_21 ?_
  obtain ⟨q1, h1, h⟩ := bnd h
  refine JJ.callSv hX (ct_Camp_copyRow_25_18  _ _ h1) cal_yX0_copyRow cas_yX0_copyRow lm_RX0_37 rfl rfl (Nat.le_of_ble_eq_true rfl) ⟨by decide, by decide⟩ dX0_copyFrom_24 ?_
  refine JJ.aload_n hX 1 dX0_copyFrom_27 rfl ?_
  refine fg_X0_15_24 hX dX0_copyFrom_28 ?_
  refine JJ.aload_n hX 0 dX0_copyFrom_31 rfl ?_
  refine fg_X0_15_17 hX dX0_copyFrom_32 ?_
  obtain ⟨q2, h2, h⟩ := bnd h
  refine JJ.callSv hX (ct_Camp_copyRow_26_19  _ _ h2) cal_yX0_copyRow cas_yX0_copyRow lm_RX0_37 rfl rfl (Nat.le_of_ble_eq_true rfl) ⟨by decide, by decide⟩ dX0_copyFrom_35 ?_
  refine JJ.aload_n hX 1 dX0_copyFrom_38 rfl ?_
  refine fg_X0_18_24 hX dX0_copyFrom_39 ?_
  refine JJ.aload_n hX 0 dX0_copyFrom_42 rfl ?_
  refine fg_X0_18_17 hX dX0_copyFrom_43 ?_
  obtain ⟨q3, h3, h⟩ := bnd h
  refine JJ.callSv hX (ct_Camp_copyRow_27_20  _ _ h3) cal_yX0_copyRow cas_yX0_copyRow lm_RX0_37 rfl rfl (Nat.le_of_ble_eq_true rfl) ⟨by decide, by decide⟩ dX0_copyFrom_46 ?_
  refine JJ.aload_n hX 1 dX0_copyFrom_49 rfl ?_
  refine fg_X0_21_24 hX dX0_copyFrom_50 ?_
  refine JJ.aload_n hX 0 dX0_copyFrom_53 rfl ?_
  refine fg_X0_21_17 hX dX0_copyFrom_54 ?_
  obtain ⟨q4, h4, h⟩ := bnd h
  refine JJ.callSv hX (ct_Camp_copyRow_28_21  _ _ h4) cal_yX0_copyRow cas_yX0_copyRow lm_RX0_37 rfl rfl (Nat.le_of_ble_eq_true rfl) ⟨by decide, by decide⟩ dX0_copyFrom_57 ?_
  refine JJ.aload_n hX 1 dX0_copyFrom_60 rfl ?_
  refine fg_X0_24_24 hX dX0_copyFrom_61 ?_
  refine JJ.aload_n hX 0 dX0_copyFrom_64 rfl ?_
  refine fg_X0_24_17 hX dX0_copyFrom_65 ?_
  obtain ⟨q5, h5, h⟩ := bnd h
  refine JJ.callSv hX (ct_Camp_copyRow_29_22  _ _ h5) cal_yX0_copyRow cas_yX0_copyRow lm_RX0_37 rfl rfl (Nat.le_of_ble_eq_true rfl) ⟨by decide, by decide⟩ dX0_copyFrom_68 ?_
  refine JJ.aload_n hX 1 dX0_copyFrom_71 rfl ?_
  refine fg_X0_27_24 hX dX0_copyFrom_72 ?_
  refine JJ.aload_n hX 0 dX0_copyFrom_75 rfl ?_
  refine fg_X0_27_17 hX dX0_copyFrom_76 ?_
  obtain ⟨q6, h6, h⟩ := bnd h
  refine JJ.callSv hX (ct_Camp_copyRow_30_23  _ _ h6) cal_yX0_copyRow cas_yX0_copyRow lm_RX0_37 rfl rfl (Nat.le_of_ble_eq_true rfl) ⟨by decide, by decide⟩ dX0_copyFrom_79 ?_
  obtain rfl := Option.some.inj h
  exact JJ.vret hX hM dX0_copyFrom_82
set_option maxRecDepth 100000 in
theorem ct_LT_restore (σ : ST) (res : Int32 × ST) (h : f_LT_restore σ = some res) : Ct 3 yX5_restore cX5_restore 1 (some .int) (fun ad => [.ref (ad 0)]) σ (some (.int res.1)) res.2 := by
  refine Ct.of (ls := fun ad => [(0, .ref (ad 0))]) (by decide +kernel) (fun ad => Nat.le_of_ble_eq_true rfl) (fun ad => rfl) (fun X hX hM => ?_)
  replace hX : Ok X RX5 cX5_restore 1 3 := hX
  unfold f_LT_restore at h
  refine JJ.aload_n hX 0 dX5_restore_0 rfl ?_
  refine fg_X5_68_0 hX dX5_restore_1 ?_
  refine JJ.if_ne (tgt := 10) hX dX5_restore_4 (by decide) (fun c1 => ?_) (fun c1 => ?_)
  · replace h := ineg c1 h
    refine JJ.aload_n hX 0 dX5_restore_10 rfl ?_
    refine fg_X5_35_0 hX dX5_restore_11 ?_
    refine JJ.aload_n hX 0 dX5_restore_14 rfl ?_
    refine fg_X5_39_0 hX dX5_restore_15 ?_
    obtain ⟨q2, h2, h⟩ := bnd h
    refine JJ.callVv hX (ct_Camp_copyFrom_17_24  _ _ h2) cal_yX0_copyFrom cav_yX0_copyFrom lm_RX5_204 rfl rfl rfl (Rcv.obj hX (ci := 0) rfl rfl) (Nat.le_of_ble_eq_true rfl) ⟨by decide, by decide⟩ dX5_restore_18 ?_
    refine JJ.aload_n hX 0 dX5_restore_21 rfl ?_
    refine fg_X5_35_0 hX dX5_restore_22 ?_
    refine fg_X5_101_17 hX dX5_restore_25 ?_
    obtain rfl := Option.some.inj h
    exact JJ.iret hX hM dX5_restore_28
  · replace h := ipos c1 h
    refine JJ.bipush (v := -103) hX dX5_restore_7 (by decide) ?_
    obtain rfl := Option.some.inj h
    exact JJ.iret hX hM dX5_restore_9
set_option maxRecDepth 100000 in
theorem lp_M_copy_41_36_2 {X : CX} (hX : Ok X RX6 cX6_copy 3 0) : ∀ (n : Nat) (x2 : Int32) (σ : ST) (e : (ST)), f_M_copy_41_36_L2 n x2 σ = some e → JJ X 20 [] [] e → JJ X 2 [(0, .ref (xad X 41)), (1, .ref (xad X 36)), (2, .int x2)] [] σ := by
  intro n
  induction n with
  | zero =>
    intro x2 σ e h
    rw [f_M_copy_41_36_L2] at h
    cases h
  | succ n ih =>
    intro x2 σ e h K
    rw [f_M_copy_41_36_L2] at h
    refine JJ.iload_n hX 2 dX6_copy_2 rfl ?_
    refine JJ.aload_n hX 0 dX6_copy_3 rfl ?_
    refine aln_41 hX dX6_copy_4 ?_
    refine JJ.icmp_ge (tgt := 20) hX dX6_copy_5 (by decide) (fun c1 => ?_) (fun c1 => ?_)
    · replace h := ipos c1 h
      obtain rfl := Option.some.inj h
      exact JJ.sub [] rfl K
    · replace h := ineg c1 h
      refine JJ.aload_n hX 1 dX6_copy_8 rfl ?_
      refine JJ.iload_n hX 2 dX6_copy_9 rfl ?_
      refine JJ.aload_n hX 0 dX6_copy_10 rfl ?_
      refine JJ.iload_n hX 2 dX6_copy_11 rfl ?_
      obtain ⟨c2, h⟩ := gte h
      refine ald_41 hX c2 dX6_copy_12 ?_
      obtain ⟨c3, h⟩ := gte h
      refine ast_36 hX c3 dX6_copy_13 ?_
      refine JJ.iinc (v := 1) (ls' := [(0, .ref (xad X 41)), (1, .ref (xad X 36)), (2, .int (x2 + (1 : Int32)))]) hX 2 dX6_copy_14 rfl (by decide) (by decide) rfl rfl ?_
      refine JJ.goto (tgt := 2) hX dX6_copy_17 (by decide) ?_
      exact ih _ _ _ h K
set_option maxRecDepth 100000 in
theorem ct_M_copy_41_36 (σ : ST) (res : ST) (h : f_M_copy_41_36 σ = some res) : Ct 0 yX6_copy cX6_copy 3 none (fun ad => [.ref (ad 36), .ref (ad 41)]) σ none res := by
  refine Ct.of (ls := fun ad => [(0, .ref (ad 41)), (1, .ref (ad 36))]) (by decide +kernel) (fun ad => Nat.le_of_ble_eq_true rfl) (fun ad => rfl) (fun X hX hM => ?_)
  replace hX : Ok X RX6 cX6_copy 3 0 := hX
  unfold f_M_copy_41_36 at h
  refine JJ.iconst (v := 0) hX dX6_copy_0 (by decide) ?_
  refine JJ.istore_n (ls' := [(0, .ref (xad X 41)), (1, .ref (xad X 36)), (2, .int (0 : Int32))]) hX dX6_copy_1 (by decide) rfl rfl ?_
  obtain ⟨e4, h4, h⟩ := bnd h
  refine lp_M_copy_41_36_2 hX 400 _ _ _ h4 ?_
  obtain rfl := Option.some.inj h
  exact JJ.vret hX hM dX6_copy_20
set_option maxRecDepth 100000 in
theorem lp_M_copy_42_40_2 {X : CX} (hX : Ok X RX6 cX6_copy 3 0) : ∀ (n : Nat) (x2 : Int32) (σ : ST) (e : (ST)), f_M_copy_42_40_L2 n x2 σ = some e → JJ X 20 [] [] e → JJ X 2 [(0, .ref (xad X 42)), (1, .ref (xad X 40)), (2, .int x2)] [] σ := by
  intro n
  induction n with
  | zero =>
    intro x2 σ e h
    rw [f_M_copy_42_40_L2] at h
    cases h
  | succ n ih =>
    intro x2 σ e h K
    rw [f_M_copy_42_40_L2] at h
    refine JJ.iload_n hX 2 dX6_copy_2 rfl ?_
    refine JJ.aload_n hX 0 dX6_copy_3 rfl ?_
    refine aln_42 hX dX6_copy_4 ?_
    refine JJ.icmp_ge (tgt := 20) hX dX6_copy_5 (by decide) (fun c1 => ?_) (fun c1 => ?_)
    · replace h := ipos c1 h
      obtain rfl := Option.some.inj h
      exact JJ.sub [] rfl K
    · replace h := ineg c1 h
      refine JJ.aload_n hX 1 dX6_copy_8 rfl ?_
      refine JJ.iload_n hX 2 dX6_copy_9 rfl ?_
      refine JJ.aload_n hX 0 dX6_copy_10 rfl ?_
      refine JJ.iload_n hX 2 dX6_copy_11 rfl ?_
      obtain ⟨c2, h⟩ := gte h
      refine ald_42 hX c2 dX6_copy_12 ?_
      obtain ⟨c3, h⟩ := gte h
      refine ast_40 hX c3 dX6_copy_13 ?_
      refine JJ.iinc (v := 1) (ls' := [(0, .ref (xad X 42)), (1, .ref (xad X 40)), (2, .int (x2 + (1 : Int32)))]) hX 2 dX6_copy_14 rfl (by decide) (by decide) rfl rfl ?_
      refine JJ.goto (tgt := 2) hX dX6_copy_17 (by decide) ?_
      exact ih _ _ _ h K
set_option maxRecDepth 100000 in
theorem ct_M_copy_42_40 (σ : ST) (res : ST) (h : f_M_copy_42_40 σ = some res) : Ct 0 yX6_copy cX6_copy 3 none (fun ad => [.ref (ad 40), .ref (ad 42)]) σ none res := by
  refine Ct.of (ls := fun ad => [(0, .ref (ad 42)), (1, .ref (ad 40))]) (by decide +kernel) (fun ad => Nat.le_of_ble_eq_true rfl) (fun ad => rfl) (fun X hX hM => ?_)
  replace hX : Ok X RX6 cX6_copy 3 0 := hX
  unfold f_M_copy_42_40 at h
  refine JJ.iconst (v := 0) hX dX6_copy_0 (by decide) ?_
  refine JJ.istore_n (ls' := [(0, .ref (xad X 42)), (1, .ref (xad X 40)), (2, .int (0 : Int32))]) hX dX6_copy_1 (by decide) rfl rfl ?_
  obtain ⟨e4, h4, h⟩ := bnd h
  refine lp_M_copy_42_40_2 hX 400 _ _ _ h4 ?_
  obtain rfl := Option.some.inj h
  exact JJ.vret hX hM dX6_copy_20
set_option maxRecDepth 100000 in
theorem ct_M_restore (σ : ST) (res : Int32 × ST) (h : f_M_restore σ = some res) : Ct 1 yX6_restore cX6_restore 1 (some .int) (fun ad => [.ref (ad 31)]) σ (some (.int res.1)) res.2 := by
  refine Ct.of (ls := fun ad => [(0, .ref (ad 31))]) (by decide +kernel) (fun ad => Nat.le_of_ble_eq_true rfl) (fun ad => rfl) (fun X hX hM => ?_)
  replace hX : Ok X RX6 cX6_restore 1 1 := hX
  unfold f_M_restore at h
  refine JJ.aload_n hX 0 dX6_restore_0 rfl ?_
  refine fg_X6_43_31 hX dX6_restore_1 ?_
  refine JJ.aload_n hX 0 dX6_restore_4 rfl ?_
  refine fg_X6_96_31 hX dX6_restore_5 ?_
  refine JJ.icmp_eq (tgt := 14) hX dX6_restore_8 (by decide) (fun c1 => ?_) (fun c1 => ?_)
  · replace h := ipos c1 h
    refine JJ.aload_n hX 0 dX6_restore_14 rfl ?_
    refine fg_X6_37_31 hX dX6_restore_15 ?_
    refine JJ.aload_n hX 0 dX6_restore_18 rfl ?_
    refine fg_X6_22_31 hX dX6_restore_19 ?_
    obtain ⟨q2, h2, h⟩ := bnd h
    refine JJ.callSv hX (ct_M_copy_41_36  _ _ h2) cal_yX6_copy cas_yX6_copy lm_RX6_200 rfl rfl (Nat.le_of_ble_eq_true rfl) ⟨by decide, by decide⟩ dX6_restore_22 ?_
    refine JJ.aload_n hX 0 dX6_restore_25 rfl ?_
    refine fg_X6_40_31 hX dX6_restore_26 ?_
    refine JJ.aload_n hX 0 dX6_restore_29 rfl ?_
    refine fg_X6_34_31 hX dX6_restore_30 ?_
    obtain ⟨q3, h3, h⟩ := bnd h
    refine JJ.callSv hX (ct_M_copy_42_40  _ _ h3) cal_yX6_copy cas_yX6_copy lm_RX6_200 rfl rfl (Nat.le_of_ble_eq_true rfl) ⟨by decide, by decide⟩ dX6_restore_33 ?_
    refine JJ.aload_n hX 0 dX6_restore_36 rfl ?_
    refine JJ.aload_n hX 0 dX6_restore_37 rfl ?_
    refine fg_X6_204_31 hX dX6_restore_38 ?_
    refine fp_X6_90_31 hX dX6_restore_41 ?_
    refine JJ.aload_n hX 0 dX6_restore_44 rfl ?_
    refine JJ.aload_n hX 0 dX6_restore_45 rfl ?_
    refine fg_X6_207_31 hX dX6_restore_46 ?_
    refine fp_X6_93_31 hX dX6_restore_49 ?_
    refine JJ.aload_n hX 0 dX6_restore_52 rfl ?_
    refine fg_X6_90_31 hX dX6_restore_53 ?_
    obtain rfl := Option.some.inj h
    exact JJ.iret hX hM dX6_restore_56
  · replace h := ineg c1 h
    refine JJ.bipush (v := -103) hX dX6_restore_11 (by decide) ?_
    obtain rfl := Option.some.inj h
    exact JJ.iret hX hM dX6_restore_13
set_option maxRecDepth 100000 in
theorem lp_Camp_sumOfAll_17_19_4 {X : CX} {σ : ST} (hX : Ok X RX0 cX0_sumOfAll 4 1) : ∀ (n : Nat) (x2 : Int32) (x3 : Int32) (e : (Int32)), f_Camp_sumOfAll_17_19_L4 n x2 x3 σ = some e → JJ X 26 [(2, .int e)] [] σ → JJ X 4 [(0, .ref (xad X 17)), (1, .ref (xad X 19)), (2, .int x2), (3, .int x3)] [] σ := by
  intro n
  induction n with
  | zero =>
    intro x2 x3 e h
    rw [f_Camp_sumOfAll_17_19_L4] at h
    cases h
  | succ n ih =>
    intro x2 x3 e h K
    rw [f_Camp_sumOfAll_17_19_L4] at h
    refine JJ.iload_n hX 3 dX0_sumOfAll_4 rfl ?_
    refine JJ.aload_n hX 0 dX0_sumOfAll_5 rfl ?_
    refine fg_X0_30_17 hX dX0_sumOfAll_6 ?_
    refine JJ.icmp_ge (tgt := 26) hX dX0_sumOfAll_9 (by decide) (fun c1 => ?_) (fun c1 => ?_)
    · replace h := ipos c1 h
      obtain rfl := Option.some.inj h
      exact JJ.sub [2] rfl K
    · replace h := ineg c1 h
      refine JJ.iload_n hX 2 dX0_sumOfAll_12 rfl ?_
      refine JJ.aload_n hX 1 dX0_sumOfAll_13 rfl ?_
      refine JJ.iload_n hX 3 dX0_sumOfAll_14 rfl ?_
      refine JJ.callSNi hX (ct_cell 19 3 (by decide) (fun _ _ _ => rfl) _ _ _ rfl) cal_yX5_cell cas_yX5_cell lm_RX0_41 rfl rfl (Nat.le_of_ble_eq_true rfl) ⟨by decide, by decide⟩ dX0_sumOfAll_15 ?_
      refine JJ.iadd hX dX0_sumOfAll_18 ?_
      refine JJ.istore_n (ls' := [(0, .ref (xad X 17)), (1, .ref (xad X 19)), (2, .int (x2 + (cellF 3 19 x3 σ))), (3, .int x3)]) hX dX0_sumOfAll_19 (by decide) rfl rfl ?_
      refine JJ.iinc (v := 1) (ls' := [(0, .ref (xad X 17)), (1, .ref (xad X 19)), (2, .int (x2 + (cellF 3 19 x3 σ))), (3, .int (x3 + (1 : Int32)))]) hX 3 dX0_sumOfAll_20 rfl (by decide) (by decide) rfl rfl ?_
      refine JJ.goto (tgt := 4) hX dX0_sumOfAll_23 (by decide) ?_
      exact ih _ _ _ h K
set_option maxRecDepth 100000 in
theorem ct_Camp_sumOfAll_17_19 (σ : ST) (res : Int32) (h : f_Camp_sumOfAll_17_19 σ = some res) : Ct 1 yX0_sumOfAll cX0_sumOfAll 4 (some .int) (fun ad => [.ref (ad 19), .ref (ad 17)]) σ (some (.int res)) σ := by
  refine Ct.of (ls := fun ad => [(0, .ref (ad 17)), (1, .ref (ad 19))]) (by decide +kernel) (fun ad => Nat.le_of_ble_eq_true rfl) (fun ad => rfl) (fun X hX hM => ?_)
  replace hX : Ok X RX0 cX0_sumOfAll 4 1 := hX
  unfold f_Camp_sumOfAll_17_19 at h
  refine JJ.iconst (v := 0) hX dX0_sumOfAll_0 (by decide) ?_
  refine JJ.istore_n (ls' := [(0, .ref (xad X 17)), (1, .ref (xad X 19)), (2, .int (0 : Int32))]) hX dX0_sumOfAll_1 (by decide) rfl rfl ?_
  refine JJ.iconst (v := 0) hX dX0_sumOfAll_2 (by decide) ?_
  refine JJ.istore_n (ls' := [(0, .ref (xad X 17)), (1, .ref (xad X 19)), (2, .int (0 : Int32)), (3, .int (0 : Int32))]) hX dX0_sumOfAll_3 (by decide) rfl rfl ?_
  obtain ⟨e2, h2, h⟩ := bnd h
  refine lp_Camp_sumOfAll_17_19_4 hX 400 _ _ _ h2 ?_
  refine JJ.iload_n hX 0 dX0_sumOfAll_26 rfl ?_
  obtain rfl := Option.some.inj h
  exact JJ.iret hX hM dX0_sumOfAll_27
set_option maxRecDepth 100000 in
theorem lp_Camp_sumOfAll_17_20_4 {X : CX} {σ : ST} (hX : Ok X RX0 cX0_sumOfAll 4 1) : ∀ (n : Nat) (x2 : Int32) (x3 : Int32) (e : (Int32)), f_Camp_sumOfAll_17_20_L4 n x2 x3 σ = some e → JJ X 26 [(2, .int e)] [] σ → JJ X 4 [(0, .ref (xad X 17)), (1, .ref (xad X 20)), (2, .int x2), (3, .int x3)] [] σ := by
  intro n
  induction n with
  | zero =>
    intro x2 x3 e h
    rw [f_Camp_sumOfAll_17_20_L4] at h
    cases h
  | succ n ih =>
    intro x2 x3 e h K
    rw [f_Camp_sumOfAll_17_20_L4] at h
    refine JJ.iload_n hX 3 dX0_sumOfAll_4 rfl ?_
    refine JJ.aload_n hX 0 dX0_sumOfAll_5 rfl ?_
    refine fg_X0_30_17 hX dX0_sumOfAll_6 ?_
    refine JJ.icmp_ge (tgt := 26) hX dX0_sumOfAll_9 (by decide) (fun c1 => ?_) (fun c1 => ?_)
    · replace h := ipos c1 h
      obtain rfl := Option.some.inj h
      exact JJ.sub [2] rfl K
    · replace h := ineg c1 h
      refine JJ.iload_n hX 2 dX0_sumOfAll_12 rfl ?_
      refine JJ.aload_n hX 1 dX0_sumOfAll_13 rfl ?_
      refine JJ.iload_n hX 3 dX0_sumOfAll_14 rfl ?_
      refine JJ.callSNi hX (ct_cell 20 3 (by decide) (fun _ _ _ => rfl) _ _ _ rfl) cal_yX5_cell cas_yX5_cell lm_RX0_41 rfl rfl (Nat.le_of_ble_eq_true rfl) ⟨by decide, by decide⟩ dX0_sumOfAll_15 ?_
      refine JJ.iadd hX dX0_sumOfAll_18 ?_
      refine JJ.istore_n (ls' := [(0, .ref (xad X 17)), (1, .ref (xad X 20)), (2, .int (x2 + (cellF 3 20 x3 σ))), (3, .int x3)]) hX dX0_sumOfAll_19 (by decide) rfl rfl ?_
      refine JJ.iinc (v := 1) (ls' := [(0, .ref (xad X 17)), (1, .ref (xad X 20)), (2, .int (x2 + (cellF 3 20 x3 σ))), (3, .int (x3 + (1 : Int32)))]) hX 3 dX0_sumOfAll_20 rfl (by decide) (by decide) rfl rfl ?_
      refine JJ.goto (tgt := 4) hX dX0_sumOfAll_23 (by decide) ?_
      exact ih _ _ _ h K
set_option maxRecDepth 100000 in
theorem ct_Camp_sumOfAll_17_20 (σ : ST) (res : Int32) (h : f_Camp_sumOfAll_17_20 σ = some res) : Ct 1 yX0_sumOfAll cX0_sumOfAll 4 (some .int) (fun ad => [.ref (ad 20), .ref (ad 17)]) σ (some (.int res)) σ := by
  refine Ct.of (ls := fun ad => [(0, .ref (ad 17)), (1, .ref (ad 20))]) (by decide +kernel) (fun ad => Nat.le_of_ble_eq_true rfl) (fun ad => rfl) (fun X hX hM => ?_)
  replace hX : Ok X RX0 cX0_sumOfAll 4 1 := hX
  unfold f_Camp_sumOfAll_17_20 at h
  refine JJ.iconst (v := 0) hX dX0_sumOfAll_0 (by decide) ?_
  refine JJ.istore_n (ls' := [(0, .ref (xad X 17)), (1, .ref (xad X 20)), (2, .int (0 : Int32))]) hX dX0_sumOfAll_1 (by decide) rfl rfl ?_
  refine JJ.iconst (v := 0) hX dX0_sumOfAll_2 (by decide) ?_
  refine JJ.istore_n (ls' := [(0, .ref (xad X 17)), (1, .ref (xad X 20)), (2, .int (0 : Int32)), (3, .int (0 : Int32))]) hX dX0_sumOfAll_3 (by decide) rfl rfl ?_
  obtain ⟨e2, h2, h⟩ := bnd h
  refine lp_Camp_sumOfAll_17_20_4 hX 400 _ _ _ h2 ?_
  refine JJ.iload_n hX 0 dX0_sumOfAll_26 rfl ?_
  obtain rfl := Option.some.inj h
  exact JJ.iret hX hM dX0_sumOfAll_27
set_option maxRecDepth 100000 in
theorem lp_Camp_thoseWhoMayLook_17_4 {X : CX} {σ : ST} (hX : Ok X RX0 cX0_thoseWhoMayLook 3 3) : ∀ (n : Nat) (x1 : Int32) (x2 : Int32) (e : (Int32)), f_Camp_thoseWhoMayLook_17_L4 n x1 x2 σ = some e → JJ X 29 [(1, .int e)] [] σ → JJ X 4 [(0, .ref (xad X 17)), (1, .int x1), (2, .int x2)] [] σ := by
  intro n
  induction n with
  | zero =>
    intro x1 x2 e h
    rw [f_Camp_thoseWhoMayLook_17_L4] at h
    cases h
  | succ n ih =>
    intro x1 x2 e h K
    rw [f_Camp_thoseWhoMayLook_17_L4] at h
    refine JJ.iload_n hX 2 dX0_thoseWhoMayLook_4 rfl ?_
    refine JJ.aload_n hX 0 dX0_thoseWhoMayLook_5 rfl ?_
    refine fg_X0_30_17 hX dX0_thoseWhoMayLook_6 ?_
    refine JJ.icmp_ge (tgt := 29) hX dX0_thoseWhoMayLook_9 (by decide) (fun c1 => ?_) (fun c1 => ?_)
    · replace h := ipos c1 h
      obtain rfl := Option.some.inj h
      exact JJ.sub [1] rfl K
    · replace h := ineg c1 h
      refine JJ.aload_n hX 0 dX0_thoseWhoMayLook_12 rfl ?_
      refine JJ.iload_n hX 2 dX0_thoseWhoMayLook_13 rfl ?_
      refine JJ.callVi hX (ct_Camp_mayLook_17 _ _ _ rfl) cal_yX0_mayLook cav_yX0_mayLook lm_RX0_53 rfl rfl rfl (Rcv.obj hX (ci := 0) rfl rfl) (Nat.le_of_ble_eq_true rfl) ⟨by decide, by decide⟩ dX0_thoseWhoMayLook_14 ?_
      refine JJ.if_eq (tgt := 23) hX dX0_thoseWhoMayLook_17 (by decide) (fun c2 => ?_) (fun c2 => ?_)
      · replace h := ipos c2 h
        refine JJ.iinc (v := 1) (ls' := [(0, .ref (xad X 17)), (1, .int x1), (2, .int (x2 + (1 : Int32)))]) hX 2 dX0_thoseWhoMayLook_23 rfl (by decide) (by decide) rfl rfl ?_
        refine JJ.goto (tgt := 4) hX dX0_thoseWhoMayLook_26 (by decide) ?_
        exact ih _ _ _ h K
      · replace h := ineg c2 h
        refine JJ.iinc (v := 1) (ls' := [(0, .ref (xad X 17)), (1, .int (x1 + (1 : Int32))), (2, .int x2)]) hX 1 dX0_thoseWhoMayLook_20 rfl (by decide) (by decide) rfl rfl ?_
        refine JJ.iinc (v := 1) (ls' := [(0, .ref (xad X 17)), (1, .int (x1 + (1 : Int32))), (2, .int (x2 + (1 : Int32)))]) hX 2 dX0_thoseWhoMayLook_23 rfl (by decide) (by decide) rfl rfl ?_
        refine JJ.goto (tgt := 4) hX dX0_thoseWhoMayLook_26 (by decide) ?_
        exact ih _ _ _ h K
set_option maxRecDepth 100000 in
theorem ct_Camp_thoseWhoMayLook_17 (σ : ST) (res : Int32) (h : f_Camp_thoseWhoMayLook_17 σ = some res) : Ct 3 yX0_thoseWhoMayLook cX0_thoseWhoMayLook 3 (some .int) (fun ad => [.ref (ad 17)]) σ (some (.int res)) σ := by
  refine Ct.of (ls := fun ad => [(0, .ref (ad 17))]) (by decide +kernel) (fun ad => Nat.le_of_ble_eq_true rfl) (fun ad => rfl) (fun X hX hM => ?_)
  replace hX : Ok X RX0 cX0_thoseWhoMayLook 3 3 := hX
  unfold f_Camp_thoseWhoMayLook_17 at h
  refine JJ.iconst (v := 0) hX dX0_thoseWhoMayLook_0 (by decide) ?_
  refine JJ.istore_n (ls' := [(0, .ref (xad X 17)), (1, .int (0 : Int32))]) hX dX0_thoseWhoMayLook_1 (by decide) rfl rfl ?_
  refine JJ.iconst (v := 0) hX dX0_thoseWhoMayLook_2 (by decide) ?_
  refine JJ.istore_n (ls' := [(0, .ref (xad X 17)), (1, .int (0 : Int32)), (2, .int (0 : Int32))]) hX dX0_thoseWhoMayLook_3 (by decide) rfl rfl ?_
  obtain ⟨e3, h3, h⟩ := bnd h
  refine lp_Camp_thoseWhoMayLook_17_4 hX 400 _ _ _ h3 ?_
  refine JJ.iload_n hX 0 dX0_thoseWhoMayLook_29 rfl ?_
  obtain rfl := Option.some.inj h
  exact JJ.iret hX hM dX0_thoseWhoMayLook_30
set_option maxRecDepth 100000 in
theorem ct_LT_count (p1 : Int32) (σ : ST) (res : Int32) (h : f_LT_count p1 σ = some res) : Ct 4 yX5_count cX5_count 2 (some .int) (fun ad => [.int p1, .ref (ad 0)]) σ (some (.int res)) σ := by
  refine Ct.of (ls := fun ad => [(0, .ref (ad 0)), (1, .int p1)]) (by decide +kernel) (fun ad => Nat.le_of_ble_eq_true rfl) (fun ad => rfl) (fun X hX hM => ?_)
  replace hX : Ok X RX5 cX5_count 2 4 := hX
  unfold f_LT_count at h
  refine JJ.iload_n hX 1 dX5_count_0 rfl ?_
  by_cases c1 : p1 = (0 : Int32)
  · replace h := ipos c1 h
    refine JJ.tableIn (v := 0) (tgt := 52) hX c1 dX5_count_1 (by decide) (by decide) rfl (by decide) ?_
    refine JJ.aload_n hX 0 dX5_count_52 rfl ?_
    refine fg_X5_19_0 hX dX5_count_53 ?_
    refine fg_X5_75_3 hX dX5_count_56 ?_
    obtain rfl := Option.some.inj h
    exact JJ.iret hX hM dX5_count_59
  · replace h := ineg c1 h
    by_cases c2 : p1 = (1 : Int32)
    · replace h := ipos c2 h
      refine JJ.tableIn (v := 1) (tgt := 60) hX c2 dX5_count_1 (by decide) (by decide) rfl (by decide) ?_
      refine JJ.aload_n hX 0 dX5_count_60 rfl ?_
      refine fg_X5_19_0 hX dX5_count_61 ?_
      refine fg_X5_104_3 hX dX5_count_64 ?_
      obtain rfl := Option.some.inj h
      exact JJ.iret hX hM dX5_count_67
    · replace h := ineg c2 h
      by_cases c3 : p1 = (2 : Int32)
      · replace h := ipos c3 h
        refine JJ.tableIn (v := 2) (tgt := 68) hX c3 dX5_count_1 (by decide) (by decide) rfl (by decide) ?_
        refine JJ.aload_n hX 0 dX5_count_68 rfl ?_
        refine fg_X5_35_0 hX dX5_count_69 ?_
        refine fg_X5_101_17 hX dX5_count_72 ?_
        obtain rfl := Option.some.inj h
        exact JJ.iret hX hM dX5_count_75
      · replace h := ineg c3 h
        by_cases c4 : p1 = (3 : Int32)
        · replace h := ipos c4 h
          refine JJ.tableIn (v := 3) (tgt := 76) hX c4 dX5_count_1 (by decide) (by decide) rfl (by decide) ?_
          refine JJ.aload_n hX 0 dX5_count_76 rfl ?_
          refine fg_X5_35_0 hX dX5_count_77 ?_
          refine JJ.aload_n hX 0 dX5_count_80 rfl ?_
          refine fg_X5_35_0 hX dX5_count_81 ?_
          refine fg_X5_119_17 hX dX5_count_84 ?_
          obtain ⟨q5, h5, h⟩ := bnd h
          refine JJ.callVi hX (ct_Camp_sumOfAll_17_19  _ _ h5) cal_yX0_sumOfAll cav_yX0_sumOfAll lm_RX5_208 rfl rfl rfl (Rcv.obj hX (ci := 0) rfl rfl) (Nat.le_of_ble_eq_true rfl) ⟨by decide, by decide⟩ dX5_count_87 ?_
          obtain rfl := Option.some.inj h
          exact JJ.iret hX hM dX5_count_90
        · replace h := ineg c4 h
          by_cases c6 : p1 = (4 : Int32)
          · replace h := ipos c6 h
            refine JJ.tableIn (v := 4) (tgt := 91) hX c6 dX5_count_1 (by decide) (by decide) rfl (by decide) ?_
            refine JJ.aload_n hX 0 dX5_count_91 rfl ?_
            refine fg_X5_35_0 hX dX5_count_92 ?_
            refine JJ.aload_n hX 0 dX5_count_95 rfl ?_
            refine fg_X5_35_0 hX dX5_count_96 ?_
            refine fg_X5_122_17 hX dX5_count_99 ?_
            obtain ⟨q7, h7, h⟩ := bnd h
            refine JJ.callVi hX (ct_Camp_sumOfAll_17_20  _ _ h7) cal_yX0_sumOfAll cav_yX0_sumOfAll lm_RX5_208 rfl rfl rfl (Rcv.obj hX (ci := 0) rfl rfl) (Nat.le_of_ble_eq_true rfl) ⟨by decide, by decide⟩ dX5_count_102 ?_
            obtain rfl := Option.some.inj h
            exact JJ.iret hX hM dX5_count_105
          · replace h := ineg c6 h
            by_cases c8 : p1 = (5 : Int32)
            · replace h := ipos c8 h
              refine JJ.tableIn (v := 5) (tgt := 106) hX c8 dX5_count_1 (by decide) (by decide) rfl (by decide) ?_
              refine JJ.aload_n hX 0 dX5_count_106 rfl ?_
              refine fg_X5_35_0 hX dX5_count_107 ?_
              obtain ⟨q9, h9, h⟩ := bnd h
              refine JJ.callVi hX (ct_Camp_thoseWhoMayLook_17  _ _ h9) cal_yX0_thoseWhoMayLook cav_yX0_thoseWhoMayLook lm_RX5_212 rfl rfl rfl (Rcv.obj hX (ci := 0) rfl rfl) (Nat.le_of_ble_eq_true rfl) ⟨by decide, by decide⟩ dX5_count_110 ?_
              obtain rfl := Option.some.inj h
              exact JJ.iret hX hM dX5_count_113
            · replace h := ineg c8 h
              by_cases c10 : p1 = (6 : Int32)
              · replace h := ipos c10 h
                refine JJ.tableIn (v := 6) (tgt := 114) hX c10 dX5_count_1 (by decide) (by decide) rfl (by decide) ?_
                refine JJ.aload_n hX 0 dX5_count_114 rfl ?_
                refine fg_X5_35_0 hX dX5_count_115 ?_
                refine fg_X5_176_17 hX dX5_count_118 ?_
                obtain rfl := Option.some.inj h
                exact JJ.iret hX hM dX5_count_121
              · replace h := ineg c10 h
                by_cases c11 : p1 = (7 : Int32)
                · replace h := ipos c11 h
                  refine JJ.tableIn (v := 7) (tgt := 122) hX c11 dX5_count_1 (by decide) (by decide) rfl (by decide) ?_
                  refine JJ.aload_n hX 0 dX5_count_122 rfl ?_
                  refine fg_X5_12_0 hX dX5_count_123 ?_
                  refine fg_X5_42_1 hX dX5_count_126 ?_
                  obtain rfl := Option.some.inj h
                  exact JJ.iret hX hM dX5_count_129
                · replace h := ineg c11 h
                  by_cases c12 : p1 = (8 : Int32)
                  · replace h := ipos c12 h
                    refine JJ.tableIn (v := 8) (tgt := 130) hX c12 dX5_count_1 (by decide) (by decide) rfl (by decide) ?_
                    refine JJ.aload_n hX 0 dX5_count_130 rfl ?_
                    refine fg_X5_72_0 hX dX5_count_131 ?_
                    obtain rfl := Option.some.inj h
                    exact JJ.iret hX hM dX5_count_134
                  · replace h := ineg c12 h
                    refine JJ.tableOut (tgt := 135) hX dX5_count_1 (sw_out (n := 8) (fun k hk => by
                      rcases k with _|_|_|_|_|_|_|_|_|k
                      · exact c1
                      · exact c2
                      · exact c3
                      · exact c4
                      · exact c6
                      · exact c8
                      · exact c10
                      · exact c11
                      · exact c12
                      · exact absurd hk (by omega)) (by decide)) (by decide) ?_
                    refine JJ.bipush (v := -102) hX dX5_count_135 (by decide) ?_
                    obtain rfl := Option.some.inj h
                    exact JJ.iret hX hM dX5_count_137
set_option maxRecDepth 100000 in
theorem lp_M_sumBy_4 {X : CX} {σ : ST} (hX : Ok X RX6 cX6_sumBy 4 3) : ∀ (n : Nat) (x1 : Int32) (x2 : Int32) (x3 : Int32) (e : (Int32)), f_M_sumBy_L4 n x1 x2 x3 σ = some e → JJ X 27 [(2, .int e)] [] σ → JJ X 4 [(0, .ref (xad X 31)), (1, .int x1), (2, .int x2), (3, .int x3)] [] σ := by
  intro n
  induction n with
  | zero =>
    intro x1 x2 x3 e h
    rw [f_M_sumBy_L4] at h
    cases h
  | succ n ih =>
    intro x1 x2 x3 e h K
    rw [f_M_sumBy_L4] at h
    refine JJ.iload_n hX 3 dX6_sumBy_4 rfl ?_
    refine JJ.aload_n hX 0 dX6_sumBy_5 rfl ?_
    refine fg_X6_90_31 hX dX6_sumBy_6 ?_
    refine JJ.icmp_ge (tgt := 27) hX dX6_sumBy_9 (by decide) (fun c1 => ?_) (fun c1 => ?_)
    · replace h := ipos c1 h
      obtain rfl := Option.some.inj h
      exact JJ.sub [2] rfl K
    · replace h := ineg c1 h
      refine JJ.iload_n hX 2 dX6_sumBy_12 rfl ?_
      refine JJ.aload_n hX 0 dX6_sumBy_13 rfl ?_
      refine JJ.iload_n hX 3 dX6_sumBy_14 rfl ?_
      refine JJ.iload_n hX 1 dX6_sumBy_15 rfl ?_
      obtain ⟨q2, h2, h⟩ := bnd h
      refine JJ.callVi hX (ct_M_tell _ _ _ _ h2) cal_yX6_tell cav_yX6_tell lm_RX6_126 rfl rfl rfl (Rcv.obj hX (ci := 6) rfl rfl) (Nat.le_of_ble_eq_true rfl) ⟨by decide, by decide⟩ dX6_sumBy_16 ?_
      refine JJ.iadd hX dX6_sumBy_19 ?_
      refine JJ.istore_n (ls' := [(0, .ref (xad X 31)), (1, .int x1), (2, .int (x2 + q2)), (3, .int x3)]) hX dX6_sumBy_20 (by decide) rfl rfl ?_
      refine JJ.iinc (v := 1) (ls' := [(0, .ref (xad X 31)), (1, .int x1), (2, .int (x2 + q2)), (3, .int (x3 + (1 : Int32)))]) hX 3 dX6_sumBy_21 rfl (by decide) (by decide) rfl rfl ?_
      refine JJ.goto (tgt := 4) hX dX6_sumBy_24 (by decide) ?_
      exact ih _ _ _ _ h K
set_option maxRecDepth 100000 in
theorem ct_M_sumBy (p1 : Int32) (σ : ST) (res : Int32) (h : f_M_sumBy p1 σ = some res) : Ct 3 yX6_sumBy cX6_sumBy 4 (some .int) (fun ad => [.int p1, .ref (ad 31)]) σ (some (.int res)) σ := by
  refine Ct.of (ls := fun ad => [(0, .ref (ad 31)), (1, .int p1)]) (by decide +kernel) (fun ad => Nat.le_of_ble_eq_true rfl) (fun ad => rfl) (fun X hX hM => ?_)
  replace hX : Ok X RX6 cX6_sumBy 4 3 := hX
  unfold f_M_sumBy at h
  refine JJ.iconst (v := 0) hX dX6_sumBy_0 (by decide) ?_
  refine JJ.istore_n (ls' := [(0, .ref (xad X 31)), (1, .int p1), (2, .int (0 : Int32))]) hX dX6_sumBy_1 (by decide) rfl rfl ?_
  refine JJ.iconst (v := 0) hX dX6_sumBy_2 (by decide) ?_
  refine JJ.istore_n (ls' := [(0, .ref (xad X 31)), (1, .int p1), (2, .int (0 : Int32)), (3, .int (0 : Int32))]) hX dX6_sumBy_3 (by decide) rfl rfl ?_
  obtain ⟨e3, h3, h⟩ := bnd h
  refine lp_M_sumBy_4 hX 400 _ _ _ _ h3 ?_
  refine JJ.iload_n hX 0 dX6_sumBy_27 rfl ?_
  obtain rfl := Option.some.inj h
  exact JJ.iret hX hM dX6_sumBy_28
set_option maxRecDepth 100000 in
theorem ct_M_countOf (p1 : Int32) (σ : ST) (res : Int32) (h : f_M_countOf p1 σ = some res) : Ct 4 yX6_countOf cX6_countOf 2 (some .int) (fun ad => [.int p1, .ref (ad 31)]) σ (some (.int res)) σ := by
  refine Ct.of (ls := fun ad => [(0, .ref (ad 31)), (1, .int p1)]) (by decide +kernel) (fun ad => Nat.le_of_ble_eq_true rfl) (fun ad => rfl) (fun X hX hM => ?_)
  replace hX : Ok X RX6 cX6_countOf 2 4 := hX
  unfold f_M_countOf at h
  refine JJ.iload_n hX 1 dX6_countOf_0 rfl ?_
  by_cases c1 : p1 = (0 : Int32)
  · replace h := ipos c1 h
    refine JJ.tableIn (v := 0) (tgt := 52) hX c1 dX6_countOf_1 (by decide) (by decide) rfl (by decide) ?_
    refine JJ.aload_n hX 0 dX6_countOf_52 rfl ?_
    refine fg_X6_84_31 hX dX6_countOf_53 ?_
    obtain rfl := Option.some.inj h
    exact JJ.iret hX hM dX6_countOf_56
  · replace h := ineg c1 h
    by_cases c2 : p1 = (1 : Int32)
    · replace h := ipos c2 h
      refine JJ.tableIn (v := 1) (tgt := 57) hX c2 dX6_countOf_1 (by decide) (by decide) rfl (by decide) ?_
      refine JJ.aload_n hX 0 dX6_countOf_57 rfl ?_
      refine fg_X6_87_31 hX dX6_countOf_58 ?_
      obtain rfl := Option.some.inj h
      exact JJ.iret hX hM dX6_countOf_61
    · replace h := ineg c2 h
      by_cases c3 : p1 = (2 : Int32)
      · replace h := ipos c3 h
        refine JJ.tableIn (v := 2) (tgt := 62) hX c3 dX6_countOf_1 (by decide) (by decide) rfl (by decide) ?_
        refine JJ.aload_n hX 0 dX6_countOf_62 rfl ?_
        refine fg_X6_90_31 hX dX6_countOf_63 ?_
        obtain rfl := Option.some.inj h
        exact JJ.iret hX hM dX6_countOf_66
      · replace h := ineg c3 h
        by_cases c4 : p1 = (3 : Int32)
        · replace h := ipos c4 h
          refine JJ.tableIn (v := 3) (tgt := 67) hX c4 dX6_countOf_1 (by decide) (by decide) rfl (by decide) ?_
          refine JJ.aload_n hX 0 dX6_countOf_67 rfl ?_
          refine JJ.iconst (v := 1) hX dX6_countOf_68 (by decide) ?_
          obtain ⟨q5, h5, h⟩ := bnd h
          refine JJ.callVi hX (ct_M_sumBy _ _ _ h5) cal_yX6_sumBy cav_yX6_sumBy lm_RX6_210 rfl rfl rfl (Rcv.obj hX (ci := 6) rfl rfl) (Nat.le_of_ble_eq_true rfl) ⟨by decide, by decide⟩ dX6_countOf_69 ?_
          obtain rfl := Option.some.inj h
          exact JJ.iret hX hM dX6_countOf_72
        · replace h := ineg c4 h
          by_cases c6 : p1 = (4 : Int32)
          · replace h := ipos c6 h
            refine JJ.tableIn (v := 4) (tgt := 73) hX c6 dX6_countOf_1 (by decide) (by decide) rfl (by decide) ?_
            refine JJ.aload_n hX 0 dX6_countOf_73 rfl ?_
            refine JJ.iconst (v := 2) hX dX6_countOf_74 (by decide) ?_
            obtain ⟨q7, h7, h⟩ := bnd h
            refine JJ.callVi hX (ct_M_sumBy _ _ _ h7) cal_yX6_sumBy cav_yX6_sumBy lm_RX6_210 rfl rfl rfl (Rcv.obj hX (ci := 6) rfl rfl) (Nat.le_of_ble_eq_true rfl) ⟨by decide, by decide⟩ dX6_countOf_75 ?_
            obtain rfl := Option.some.inj h
            exact JJ.iret hX hM dX6_countOf_78
          · replace h := ineg c6 h
            by_cases c8 : p1 = (5 : Int32)
            · replace h := ipos c8 h
              refine JJ.tableIn (v := 5) (tgt := 79) hX c8 dX6_countOf_1 (by decide) (by decide) rfl (by decide) ?_
              refine JJ.aload_n hX 0 dX6_countOf_79 rfl ?_
              refine JJ.iconst (v := 4) hX dX6_countOf_80 (by decide) ?_
              obtain ⟨q9, h9, h⟩ := bnd h
              refine JJ.callVi hX (ct_M_sumBy _ _ _ h9) cal_yX6_sumBy cav_yX6_sumBy lm_RX6_210 rfl rfl rfl (Rcv.obj hX (ci := 6) rfl rfl) (Nat.le_of_ble_eq_true rfl) ⟨by decide, by decide⟩ dX6_countOf_81 ?_
              obtain rfl := Option.some.inj h
              exact JJ.iret hX hM dX6_countOf_84
            · replace h := ineg c8 h
              by_cases c10 : p1 = (6 : Int32)
              · replace h := ipos c10 h
                refine JJ.tableIn (v := 6) (tgt := 85) hX c10 dX6_countOf_1 (by decide) (by decide) rfl (by decide) ?_
                refine JJ.aload_n hX 0 dX6_countOf_85 rfl ?_
                refine fg_X6_93_31 hX dX6_countOf_86 ?_
                obtain rfl := Option.some.inj h
                exact JJ.iret hX hM dX6_countOf_89
              · replace h := ineg c10 h
                by_cases c11 : p1 = (7 : Int32)
                · replace h := ipos c11 h
                  refine JJ.tableIn (v := 7) (tgt := 90) hX c11 dX6_countOf_1 (by decide) (by decide) rfl (by decide) ?_
                  refine JJ.aload_n hX 0 dX6_countOf_90 rfl ?_
                  refine fg_X6_53_31 hX dX6_countOf_91 ?_
                  obtain rfl := Option.some.inj h
                  exact JJ.iret hX hM dX6_countOf_94
                · replace h := ineg c11 h
                  by_cases c12 : p1 = (8 : Int32)
                  · replace h := ipos c12 h
                    refine JJ.tableIn (v := 8) (tgt := 95) hX c12 dX6_countOf_1 (by decide) (by decide) rfl (by decide) ?_
                    refine JJ.aload_n hX 0 dX6_countOf_95 rfl ?_
                    refine fg_X6_96_31 hX dX6_countOf_96 ?_
                    obtain rfl := Option.some.inj h
                    exact JJ.iret hX hM dX6_countOf_99
                  · replace h := ineg c12 h
                    refine JJ.tableOut (tgt := 100) hX dX6_countOf_1 (sw_out (n := 8) (fun k hk => by
                      rcases k with _|_|_|_|_|_|_|_|_|k
                      · exact c1
                      · exact c2
                      · exact c3
                      · exact c4
                      · exact c6
                      · exact c8
                      · exact c10
                      · exact c11
                      · exact c12
                      · exact absurd hk (by omega)) (by decide)) (by decide) ?_
                    refine JJ.bipush (v := -102) hX dX6_countOf_100 (by decide) ?_
                    obtain rfl := Option.some.inj h
                    exact JJ.iret hX hM dX6_countOf_102
set_option maxRecDepth 100000 in
theorem ct_M_count (p1 : Int32) (σ : ST) (res : Int32) (h : f_M_count p1 σ = some res) : Ct 5 yX6_count cX6_count 2 (some .int) (fun ad => [.int p1, .ref (ad 31)]) σ (some (.int res)) σ := by
  refine Ct.of (ls := fun ad => [(0, .ref (ad 31)), (1, .int p1)]) (by decide +kernel) (fun ad => Nat.le_of_ble_eq_true rfl) (fun ad => rfl) (fun X hX hM => ?_)
  replace hX : Ok X RX6 cX6_count 2 5 := hX
  unfold f_M_count at h
  refine JJ.aload_n hX 0 dX6_count_0 rfl ?_
  refine JJ.iload_n hX 1 dX6_count_1 rfl ?_
  obtain ⟨q1, h1, h⟩ := bnd h
  refine JJ.callVi hX (ct_M_countOf _ _ _ h1) cal_yX6_countOf cav_yX6_countOf lm_RX6_213 rfl rfl rfl (Rcv.obj hX (ci := 6) rfl rfl) (Nat.le_of_ble_eq_true rfl) ⟨by decide, by decide⟩ dX6_count_2 ?_
  obtain rfl := Option.some.inj h
  exact JJ.iret hX hM dX6_count_5
set_option maxRecDepth 100000 in
theorem ct_LT_with (p0 : Int64) (p2 : Int32) (σ : ST) (res : Int64) (h : f_LT_with p0 p2 = res) : Ct 0 yX5_with cX5_with 3 (some .long) (fun ad => [.int p2, .long p0]) σ (some (.long res)) σ := by
  refine Ct.of (ls := fun ad => [(0, .long p0), (2, .int p2)]) (by decide +kernel) (fun ad => Nat.le_of_ble_eq_true rfl) (fun ad => rfl) (fun X hX hM => ?_)
  replace hX : Ok X RX5 cX5_with 3 0 := hX
  unfold f_LT_with at h
  refine JJ.ldc2 hX lc_RX5_258 dX5_with_0 ?_
  refine JJ.lload_n hX 0 dX5_with_3 rfl ?_
  refine JJ.lmul hX dX5_with_4 ?_
  refine JJ.iload_n hX 1 dX5_with_5 rfl ?_
  refine JJ.i2l hX dX5_with_6 ?_
  refine JJ.ladd hX dX5_with_7 ?_
  subst h
  exact JJ.lret hX hM dX5_with_8
set_option maxRecDepth 100000 in
theorem lp_LT_withCrossing_6 {X : CX} {σ : ST} (hX : Ok X RX5 cX5_withCrossing 7 5) : ∀ (n : Nat) (x3 : Int32) (x4 : Int64) (x6 : Int32) (e : (Int64)), f_LT_withCrossing_L6 n x3 x4 x6 σ = some e → JJ X 32 [(0, .ref (xad X 0)), (3, .int x3), (4, .long e)] [] σ → JJ X 6 [(0, .ref (xad X 0)), (3, .int x3), (4, .long x4), (6, .int x6)] [] σ := by
  intro n
  induction n with
  | zero =>
    intro x3 x4 x6 e h
    rw [f_LT_withCrossing_L6] at h
    cases h
  | succ n ih =>
    intro x3 x4 x6 e h K
    rw [f_LT_withCrossing_L6] at h
    refine JJ.iload hX 3 dX5_withCrossing_6 rfl ?_
    refine JJ.iconst (v := 5) hX dX5_withCrossing_8 (by decide) ?_
    refine JJ.icmp_gt (tgt := 32) hX dX5_withCrossing_9 (by decide) (fun c1 => ?_) (fun c1 => ?_)
    · replace h := ipos c1 h
      obtain rfl := Option.some.inj h
      exact JJ.sub [0, 1, 2] rfl K
    · replace h := ineg c1 h
      refine JJ.lload hX 2 dX5_withCrossing_12 rfl ?_
      refine JJ.aload_n hX 0 dX5_withCrossing_14 rfl ?_
      refine JJ.iload_n hX 1 dX5_withCrossing_15 rfl ?_
      refine JJ.iload hX 3 dX5_withCrossing_16 rfl ?_
      obtain ⟨q2, h2, h⟩ := bnd h
      refine JJ.callVi hX (ct_LT_crossing _ _ _ _ h2) cal_yX5_crossing cav_yX5_crossing lm_RX5_239 rfl rfl rfl (Rcv.obj hX (ci := 5) rfl rfl) (Nat.le_of_ble_eq_true rfl) ⟨by decide, by decide⟩ dX5_withCrossing_18 ?_
      refine JJ.callSl hX (ct_LT_with _ _ _ _ rfl) cal_yX5_with cas_yX5_with lm_RX5_227 rfl rfl (Nat.le_of_ble_eq_true rfl) ⟨by decide, by decide⟩ dX5_withCrossing_21 ?_
      refine JJ.lstore (ls' := [(0, .ref (xad X 0)), (3, .int x3), (4, .long (f_LT_with x4 q2)), (6, .int x6)]) hX dX5_withCrossing_24 (by decide) rfl rfl ?_
      refine JJ.iinc (v := 1) (ls' := [(0, .ref (xad X 0)), (3, .int x3), (4, .long (f_LT_with x4 q2)), (6, .int (x6 + (1 : Int32)))]) hX 3 dX5_withCrossing_26 rfl (by decide) (by decide) rfl rfl ?_
      refine JJ.goto (tgt := 6) hX dX5_withCrossing_29 (by decide) ?_
      exact ih _ _ _ _ h K
set_option maxRecDepth 100000 in
theorem lp_LT_withCrossing_57 {X : CX} {σ : ST} (hX : Ok X RX5 cX5_withCrossing 7 5) : ∀ (n : Nat) (x3 : Int32) (x4 : Int64) (x6 : Int32) (e : (Int64)), f_LT_withCrossing_L57 n x3 x4 x6 σ = some e → JJ X 138 [(4, .long e)] [] σ → JJ X 57 [(0, .ref (xad X 0)), (3, .int x3), (4, .long x4), (6, .int x6)] [] σ := by
  intro n
  induction n with
  | zero =>
    intro x3 x4 x6 e h
    rw [f_LT_withCrossing_L57] at h
    cases h
  | succ n ih =>
    intro x3 x4 x6 e h K
    rw [f_LT_withCrossing_L57] at h
    refine JJ.iload hX 3 dX5_withCrossing_57 rfl ?_
    refine JJ.aload_n hX 0 dX5_withCrossing_59 rfl ?_
    refine fg_X5_19_0 hX dX5_withCrossing_60 ?_
    refine fg_X5_75_3 hX dX5_withCrossing_63 ?_
    refine JJ.icmp_ge (tgt := 138) hX dX5_withCrossing_66 (by decide) (fun c4 => ?_) (fun c4 => ?_)
    · replace h := ipos c4 h
      obtain rfl := Option.some.inj h
      exact JJ.sub [2] rfl K
    · replace h := ineg c4 h
      refine JJ.lload hX 2 dX5_withCrossing_69 rfl ?_
      refine JJ.aload_n hX 0 dX5_withCrossing_71 rfl ?_
      refine JJ.iload_n hX 1 dX5_withCrossing_72 rfl ?_
      refine JJ.iload hX 3 dX5_withCrossing_73 rfl ?_
      refine JJ.iconst (v := 0) hX dX5_withCrossing_75 (by decide) ?_
      refine JJ.callVi hX (ct_LT_way _ _ _ _ _ rfl) cal_yX5_way cav_yX5_way lm_RX5_245 rfl rfl rfl (Rcv.obj hX (ci := 5) rfl rfl) (Nat.le_of_ble_eq_true rfl) ⟨by decide, by decide⟩ dX5_withCrossing_76 ?_
      refine JJ.callSl hX (ct_LT_with _ _ _ _ rfl) cal_yX5_with cas_yX5_with lm_RX5_227 rfl rfl (Nat.le_of_ble_eq_true rfl) ⟨by decide, by decide⟩ dX5_withCrossing_79 ?_
      refine JJ.aload_n hX 0 dX5_withCrossing_82 rfl ?_
      refine JJ.iload_n hX 1 dX5_withCrossing_83 rfl ?_
      refine JJ.iload hX 3 dX5_withCrossing_84 rfl ?_
      refine JJ.iconst (v := 1) hX dX5_withCrossing_86 (by decide) ?_
      refine JJ.callVi hX (ct_LT_way _ _ _ _ _ rfl) cal_yX5_way cav_yX5_way lm_RX5_245 rfl rfl rfl (Rcv.obj hX (ci := 5) rfl rfl) (Nat.le_of_ble_eq_true rfl) ⟨by decide, by decide⟩ dX5_withCrossing_87 ?_
      refine JJ.callSl hX (ct_LT_with _ _ _ _ rfl) cal_yX5_with cas_yX5_with lm_RX5_227 rfl rfl (Nat.le_of_ble_eq_true rfl) ⟨by decide, by decide⟩ dX5_withCrossing_90 ?_
      refine JJ.aload_n hX 0 dX5_withCrossing_93 rfl ?_
      refine JJ.iload_n hX 1 dX5_withCrossing_94 rfl ?_
      refine JJ.iload hX 3 dX5_withCrossing_95 rfl ?_
      refine JJ.iconst (v := 2) hX dX5_withCrossing_97 (by decide) ?_
      refine JJ.callVi hX (ct_LT_way _ _ _ _ _ rfl) cal_yX5_way cav_yX5_way lm_RX5_245 rfl rfl rfl (Rcv.obj hX (ci := 5) rfl rfl) (Nat.le_of_ble_eq_true rfl) ⟨by decide, by decide⟩ dX5_withCrossing_98 ?_
      refine JJ.callSl hX (ct_LT_with _ _ _ _ rfl) cal_yX5_with cas_yX5_with lm_RX5_227 rfl rfl (Nat.le_of_ble_eq_true rfl) ⟨by decide, by decide⟩ dX5_withCrossing_101 ?_
      refine JJ.lstore (ls' := [(0, .ref (xad X 0)), (3, .int x3), (4, .long (f_LT_with (f_LT_with (f_LT_with x4 (f_LT_way x3 x6 (0 : Int32) σ)) (f_LT_way x3 x6 (1 : Int32) σ)) (f_LT_way x3 x6 (2 : Int32) σ))), (6, .int x6)]) hX dX5_withCrossing_104 (by decide) rfl rfl ?_
      refine JJ.lload hX 2 dX5_withCrossing_106 rfl ?_
      refine JJ.aload_n hX 0 dX5_withCrossing_108 rfl ?_
      refine JJ.iload_n hX 1 dX5_withCrossing_109 rfl ?_
      refine JJ.iload hX 3 dX5_withCrossing_110 rfl ?_
      refine JJ.iconst (v := 0) hX dX5_withCrossing_112 (by decide) ?_
      refine JJ.callVi hX (ct_LT_apart _ _ _ _ _ rfl) cal_yX5_apart cav_yX5_apart lm_RX5_249 rfl rfl rfl (Rcv.obj hX (ci := 5) rfl rfl) (Nat.le_of_ble_eq_true rfl) ⟨by decide, by decide⟩ dX5_withCrossing_113 ?_
      refine JJ.callSl hX (ct_LT_with _ _ _ _ rfl) cal_yX5_with cas_yX5_with lm_RX5_227 rfl rfl (Nat.le_of_ble_eq_true rfl) ⟨by decide, by decide⟩ dX5_withCrossing_116 ?_
      refine JJ.aload_n hX 0 dX5_withCrossing_119 rfl ?_
      refine JJ.iload_n hX 1 dX5_withCrossing_120 rfl ?_
      refine JJ.iload hX 3 dX5_withCrossing_121 rfl ?_
      refine JJ.iconst (v := 1) hX dX5_withCrossing_123 (by decide) ?_
      refine JJ.callVi hX (ct_LT_apart _ _ _ _ _ rfl) cal_yX5_apart cav_yX5_apart lm_RX5_249 rfl rfl rfl (Rcv.obj hX (ci := 5) rfl rfl) (Nat.le_of_ble_eq_true rfl) ⟨by decide, by decide⟩ dX5_withCrossing_124 ?_
      refine JJ.callSl hX (ct_LT_with _ _ _ _ rfl) cal_yX5_with cas_yX5_with lm_RX5_227 rfl rfl (Nat.le_of_ble_eq_true rfl) ⟨by decide, by decide⟩ dX5_withCrossing_127 ?_
      refine JJ.lstore (ls' := [(0, .ref (xad X 0)), (3, .int x3), (4, .long (f_LT_with (f_LT_with (f_LT_with (f_LT_with (f_LT_with x4 (f_LT_way x3 x6 (0 : Int32) σ)) (f_LT_way x3 x6 (1 : Int32) σ)) (f_LT_way x3 x6 (2 : Int32) σ)) (f_LT_apart x3 x6 (0 : Int32) σ)) (f_LT_apart x3 x6 (1 : Int32) σ))), (6, .int x6)]) hX dX5_withCrossing_130 (by decide) rfl rfl ?_
      refine JJ.iinc (v := 1) (ls' := [(0, .ref (xad X 0)), (3, .int x3), (4, .long (f_LT_with (f_LT_with (f_LT_with (f_LT_with (f_LT_with x4 (f_LT_way x3 x6 (0 : Int32) σ)) (f_LT_way x3 x6 (1 : Int32) σ)) (f_LT_way x3 x6 (2 : Int32) σ)) (f_LT_apart x3 x6 (0 : Int32) σ)) (f_LT_apart x3 x6 (1 : Int32) σ))), (6, .int (x6 + (1 : Int32)))]) hX 3 dX5_withCrossing_132 rfl (by decide) (by decide) rfl rfl ?_
      refine JJ.goto (tgt := 57) hX dX5_withCrossing_135 (by decide) ?_
      exact ih _ _ _ _ h K
set_option maxRecDepth 100000 in
theorem ct_LT_withCrossing (p1 : Int64) (p3 : Int32) (σ : ST) (res : Int64) (h : f_LT_withCrossing p1 p3 σ = some res) : Ct 5 yX5_withCrossing cX5_withCrossing 7 (some .long) (fun ad => [.int p3, .long p1, .ref (ad 0)]) σ (some (.long res)) σ := by
  refine Ct.of (ls := fun ad => [(0, .ref (ad 0)), (1, .long p1), (3, .int p3)]) (by decide +kernel) (fun ad => Nat.le_of_ble_eq_true rfl) (fun ad => rfl) (fun X hX hM => ?_)
  replace hX : Ok X RX5 cX5_withCrossing 7 5 := hX
  unfold f_LT_withCrossing at h
  refine JJ.lload_n hX 1 dX5_withCrossing_0 rfl ?_
  refine JJ.lstore (ls' := [(0, .ref (xad X 0)), (1, .long p1), (3, .int p3), (4, .long p1)]) hX dX5_withCrossing_1 (by decide) rfl rfl ?_
  refine JJ.iconst (v := 0) hX dX5_withCrossing_3 (by decide) ?_
  refine JJ.istore (ls' := [(0, .ref (xad X 0)), (1, .long p1), (3, .int p3), (4, .long p1), (6, .int (0 : Int32))]) hX dX5_withCrossing_4 (by decide) rfl rfl ?_
  obtain ⟨e3, h3, h⟩ := bnd h
  refine JJ.sub (ls' := [(0, .ref (xad X 0)), (3, .int p3), (4, .long p1), (6, .int (0 : Int32))]) [0, 2, 3, 4] rfl ?_
  refine lp_LT_withCrossing_6 hX 400 _ _ _ _ h3 ?_
  refine JJ.lload hX 2 dX5_withCrossing_32 rfl ?_
  refine JJ.aload_n hX 0 dX5_withCrossing_34 rfl ?_
  refine JJ.iload_n hX 1 dX5_withCrossing_35 rfl ?_
  refine JJ.iconst (v := 0) hX dX5_withCrossing_36 (by decide) ?_
  refine JJ.callVi hX (ct_LT_round _ _ _ _ rfl) cal_yX5_round cav_yX5_round lm_RX5_242 rfl rfl rfl (Rcv.obj hX (ci := 5) rfl rfl) (Nat.le_of_ble_eq_true rfl) ⟨by decide, by decide⟩ dX5_withCrossing_37 ?_
  refine JJ.callSl hX (ct_LT_with _ _ _ _ rfl) cal_yX5_with cas_yX5_with lm_RX5_227 rfl rfl (Nat.le_of_ble_eq_true rfl) ⟨by decide, by decide⟩ dX5_withCrossing_40 ?_
  refine JJ.aload_n hX 0 dX5_withCrossing_43 rfl ?_
  refine JJ.iload_n hX 1 dX5_withCrossing_44 rfl ?_
  refine JJ.iconst (v := 1) hX dX5_withCrossing_45 (by decide) ?_
  refine JJ.callVi hX (ct_LT_round _ _ _ _ rfl) cal_yX5_round cav_yX5_round lm_RX5_242 rfl rfl rfl (Rcv.obj hX (ci := 5) rfl rfl) (Nat.le_of_ble_eq_true rfl) ⟨by decide, by decide⟩ dX5_withCrossing_46 ?_
  refine JJ.callSl hX (ct_LT_with _ _ _ _ rfl) cal_yX5_with cas_yX5_with lm_RX5_227 rfl rfl (Nat.le_of_ble_eq_true rfl) ⟨by decide, by decide⟩ dX5_withCrossing_49 ?_
  refine JJ.lstore (ls' := [(0, .ref (xad X 0)), (3, .int p3), (4, .long (f_LT_with (f_LT_with e3 (f_LT_round p3 (0 : Int32) σ)) (f_LT_round p3 (1 : Int32) σ)))]) hX dX5_withCrossing_52 (by decide) rfl rfl ?_
  refine JJ.iconst (v := 0) hX dX5_withCrossing_54 (by decide) ?_
  refine JJ.istore (ls' := [(0, .ref (xad X 0)), (3, .int p3), (4, .long (f_LT_with (f_LT_with e3 (f_LT_round p3 (0 : Int32) σ)) (f_LT_round p3 (1 : Int32) σ))), (6, .int (0 : Int32))]) hX dX5_withCrossing_55 (by decide) rfl rfl ?_
  obtain ⟨e5, h5, h⟩ := bnd h
  refine lp_LT_withCrossing_57 hX 400 _ _ _ _ h5 ?_
  refine JJ.lload hX 0 dX5_withCrossing_138 rfl ?_
  obtain rfl := Option.some.inj h
  exact JJ.lret hX hM dX5_withCrossing_140
set_option maxRecDepth 100000 in
theorem lp_LT_withParty_6 {X : CX} {σ : ST} (hX : Ok X RX5 cX5_withParty 7 4) : ∀ (n : Nat) (x3 : Int32) (x4 : Int64) (x6 : Int32) (e : (Int64)), f_LT_withParty_L6 n x3 x4 x6 σ = some e → JJ X 32 [(0, .ref (xad X 0)), (3, .int x3), (4, .long e)] [] σ → JJ X 6 [(0, .ref (xad X 0)), (3, .int x3), (4, .long x4), (6, .int x6)] [] σ := by
  intro n
  induction n with
  | zero =>
    intro x3 x4 x6 e h
    rw [f_LT_withParty_L6] at h
    cases h
  | succ n ih =>
    intro x3 x4 x6 e h K
    rw [f_LT_withParty_L6] at h
    refine JJ.iload hX 3 dX5_withParty_6 rfl ?_
    refine JJ.iconst (v := 4) hX dX5_withParty_8 (by decide) ?_
    refine JJ.icmp_gt (tgt := 32) hX dX5_withParty_9 (by decide) (fun c1 => ?_) (fun c1 => ?_)
    · replace h := ipos c1 h
      obtain rfl := Option.some.inj h
      exact JJ.sub [0, 1, 2] rfl K
    · replace h := ineg c1 h
      refine JJ.lload hX 2 dX5_withParty_12 rfl ?_
      refine JJ.aload_n hX 0 dX5_withParty_14 rfl ?_
      refine JJ.iload_n hX 1 dX5_withParty_15 rfl ?_
      refine JJ.iload hX 3 dX5_withParty_16 rfl ?_
      refine JJ.callVi hX (ct_LT_about _ _ _ _ rfl) cal_yX5_about cav_yX5_about lm_RX5_252 rfl rfl rfl (Rcv.obj hX (ci := 5) rfl rfl) (Nat.le_of_ble_eq_true rfl) ⟨by decide, by decide⟩ dX5_withParty_18 ?_
      refine JJ.callSl hX (ct_LT_with _ _ _ _ rfl) cal_yX5_with cas_yX5_with lm_RX5_227 rfl rfl (Nat.le_of_ble_eq_true rfl) ⟨by decide, by decide⟩ dX5_withParty_21 ?_
      refine JJ.lstore (ls' := [(0, .ref (xad X 0)), (3, .int x3), (4, .long (f_LT_with x4 (f_LT_about x3 x6 σ))), (6, .int x6)]) hX dX5_withParty_24 (by decide) rfl rfl ?_
      refine JJ.iinc (v := 1) (ls' := [(0, .ref (xad X 0)), (3, .int x3), (4, .long (f_LT_with x4 (f_LT_about x3 x6 σ))), (6, .int (x6 + (1 : Int32)))]) hX 3 dX5_withParty_26 rfl (by decide) (by decide) rfl rfl ?_
      refine JJ.goto (tgt := 6) hX dX5_withParty_29 (by decide) ?_
      exact ih _ _ _ _ h K
set_option maxRecDepth 100000 in
theorem lp_LT_withParty_35 {X : CX} {σ : ST} (hX : Ok X RX5 cX5_withParty 7 4) : ∀ (n : Nat) (x3 : Int32) (x4 : Int64) (x6 : Int32) (e : (Int64)), f_LT_withParty_L35 n x3 x4 x6 σ = some e → JJ X 67 [(4, .long e)] [] σ → JJ X 35 [(0, .ref (xad X 0)), (3, .int x3), (4, .long x4), (6, .int x6)] [] σ := by
  intro n
  induction n with
  | zero =>
    intro x3 x4 x6 e h
    rw [f_LT_withParty_L35] at h
    cases h
  | succ n ih =>
    intro x3 x4 x6 e h K
    rw [f_LT_withParty_L35] at h
    refine JJ.iload hX 3 dX5_withParty_35 rfl ?_
    refine JJ.aload_n hX 0 dX5_withParty_37 rfl ?_
    refine fg_X5_35_0 hX dX5_withParty_38 ?_
    refine fg_X5_101_17 hX dX5_withParty_41 ?_
    refine JJ.icmp_ge (tgt := 67) hX dX5_withParty_44 (by decide) (fun c3 => ?_) (fun c3 => ?_)
    · replace h := ipos c3 h
      obtain rfl := Option.some.inj h
      exact JJ.sub [2] rfl K
    · replace h := ineg c3 h
      refine JJ.lload hX 2 dX5_withParty_47 rfl ?_
      refine JJ.aload_n hX 0 dX5_withParty_49 rfl ?_
      refine JJ.iload_n hX 1 dX5_withParty_50 rfl ?_
      refine JJ.iload hX 3 dX5_withParty_51 rfl ?_
      refine JJ.callVi hX (ct_LT_meet _ _ _ _ rfl) cal_yX5_meet cav_yX5_meet lm_RX5_255 rfl rfl rfl (Rcv.obj hX (ci := 5) rfl rfl) (Nat.le_of_ble_eq_true rfl) ⟨by decide, by decide⟩ dX5_withParty_53 ?_
      refine JJ.callSl hX (ct_LT_with _ _ _ _ rfl) cal_yX5_with cas_yX5_with lm_RX5_227 rfl rfl (Nat.le_of_ble_eq_true rfl) ⟨by decide, by decide⟩ dX5_withParty_56 ?_
      refine JJ.lstore (ls' := [(0, .ref (xad X 0)), (3, .int x3), (4, .long (f_LT_with x4 (f_LT_meet x3 x6 σ))), (6, .int x6)]) hX dX5_withParty_59 (by decide) rfl rfl ?_
      refine JJ.iinc (v := 1) (ls' := [(0, .ref (xad X 0)), (3, .int x3), (4, .long (f_LT_with x4 (f_LT_meet x3 x6 σ))), (6, .int (x6 + (1 : Int32)))]) hX 3 dX5_withParty_61 rfl (by decide) (by decide) rfl rfl ?_
      refine JJ.goto (tgt := 35) hX dX5_withParty_64 (by decide) ?_
      exact ih _ _ _ _ h K
set_option maxRecDepth 100000 in
theorem ct_LT_withParty (p1 : Int64) (p3 : Int32) (σ : ST) (res : Int64) (h : f_LT_withParty p1 p3 σ = some res) : Ct 4 yX5_withParty cX5_withParty 7 (some .long) (fun ad => [.int p3, .long p1, .ref (ad 0)]) σ (some (.long res)) σ := by
  refine Ct.of (ls := fun ad => [(0, .ref (ad 0)), (1, .long p1), (3, .int p3)]) (by decide +kernel) (fun ad => Nat.le_of_ble_eq_true rfl) (fun ad => rfl) (fun X hX hM => ?_)
  replace hX : Ok X RX5 cX5_withParty 7 4 := hX
  unfold f_LT_withParty at h
  refine JJ.lload_n hX 1 dX5_withParty_0 rfl ?_
  refine JJ.lstore (ls' := [(0, .ref (xad X 0)), (1, .long p1), (3, .int p3), (4, .long p1)]) hX dX5_withParty_1 (by decide) rfl rfl ?_
  refine JJ.iconst (v := 0) hX dX5_withParty_3 (by decide) ?_
  refine JJ.istore (ls' := [(0, .ref (xad X 0)), (1, .long p1), (3, .int p3), (4, .long p1), (6, .int (0 : Int32))]) hX dX5_withParty_4 (by decide) rfl rfl ?_
  obtain ⟨e2, h2, h⟩ := bnd h
  refine JJ.sub (ls' := [(0, .ref (xad X 0)), (3, .int p3), (4, .long p1), (6, .int (0 : Int32))]) [0, 2, 3, 4] rfl ?_
  refine lp_LT_withParty_6 hX 400 _ _ _ _ h2 ?_
  refine JJ.iconst (v := 0) hX dX5_withParty_32 (by decide) ?_
  refine JJ.istore (ls' := [(0, .ref (xad X 0)), (3, .int p3), (4, .long e2), (6, .int (0 : Int32))]) hX dX5_withParty_33 (by decide) rfl rfl ?_
  obtain ⟨e4, h4, h⟩ := bnd h
  refine lp_LT_withParty_35 hX 400 _ _ _ _ h4 ?_
  refine JJ.lload hX 0 dX5_withParty_67 rfl ?_
  obtain rfl := Option.some.inj h
  exact JJ.lret hX hM dX5_withParty_69
set_option maxRecDepth 100000 in
theorem lp_LT_digest_6 {X : CX} {σ : ST} (hX : Ok X RX5 cX5_digest 4 6) : ∀ (n : Nat) (x1 : Int64) (x3 : Int32) (e : (Int64)), f_LT_digest_L6 n x1 x3 σ = some e → JJ X 30 [(0, .ref (xad X 0)), (1, .long e)] [] σ → JJ X 6 [(0, .ref (xad X 0)), (1, .long x1), (3, .int x3)] [] σ := by
  intro n
  induction n with
  | zero =>
    intro x1 x3 e h
    rw [f_LT_digest_L6] at h
    cases h
  | succ n ih =>
    intro x1 x3 e h K
    rw [f_LT_digest_L6] at h
    refine JJ.iload_n hX 2 dX5_digest_6 rfl ?_
    refine JJ.aload_n hX 0 dX5_digest_7 rfl ?_
    refine fg_X5_19_0 hX dX5_digest_8 ?_
    refine fg_X5_75_3 hX dX5_digest_11 ?_
    refine JJ.icmp_ge (tgt := 30) hX dX5_digest_14 (by decide) (fun c1 => ?_) (fun c1 => ?_)
    · replace h := ipos c1 h
      obtain rfl := Option.some.inj h
      exact JJ.sub [0, 1] rfl K
    · replace h := ineg c1 h
      refine JJ.aload_n hX 0 dX5_digest_17 rfl ?_
      refine JJ.lload_n hX 1 dX5_digest_18 rfl ?_
      refine JJ.iload_n hX 2 dX5_digest_19 rfl ?_
      obtain ⟨q2, h2, h⟩ := bnd h
      refine JJ.callVl hX (ct_LT_withCrossing _ _ _ _ h2) cal_yX5_withCrossing cav_yX5_withCrossing lm_RX5_217 rfl rfl rfl (Rcv.obj hX (ci := 5) rfl rfl) (Nat.le_of_ble_eq_true rfl) ⟨by decide, by decide⟩ dX5_digest_20 ?_
      refine JJ.lstore_n (ls' := [(0, .ref (xad X 0)), (1, .long q2), (3, .int x3)]) hX dX5_digest_23 (by decide) rfl rfl ?_
      refine JJ.iinc (v := 1) (ls' := [(0, .ref (xad X 0)), (1, .long q2), (3, .int (x3 + (1 : Int32)))]) hX 2 dX5_digest_24 rfl (by decide) (by decide) rfl rfl ?_
      refine JJ.goto (tgt := 6) hX dX5_digest_27 (by decide) ?_
      exact ih _ _ _ h K
set_option maxRecDepth 100000 in
theorem lp_LT_digest_32 {X : CX} {σ : ST} (hX : Ok X RX5 cX5_digest 4 6) : ∀ (n : Nat) (x1 : Int64) (x3 : Int32) (e : (Int64)), f_LT_digest_L32 n x1 x3 σ = some e → JJ X 56 [(0, .ref (xad X 0)), (1, .long e)] [] σ → JJ X 32 [(0, .ref (xad X 0)), (1, .long x1), (3, .int x3)] [] σ := by
  intro n
  induction n with
  | zero =>
    intro x1 x3 e h
    rw [f_LT_digest_L32] at h
    cases h
  | succ n ih =>
    intro x1 x3 e h K
    rw [f_LT_digest_L32] at h
    refine JJ.iload_n hX 2 dX5_digest_32 rfl ?_
    refine JJ.aload_n hX 0 dX5_digest_33 rfl ?_
    refine fg_X5_35_0 hX dX5_digest_34 ?_
    refine fg_X5_101_17 hX dX5_digest_37 ?_
    refine JJ.icmp_ge (tgt := 56) hX dX5_digest_40 (by decide) (fun c4 => ?_) (fun c4 => ?_)
    · replace h := ipos c4 h
      obtain rfl := Option.some.inj h
      exact JJ.sub [0, 1] rfl K
    · replace h := ineg c4 h
      refine JJ.aload_n hX 0 dX5_digest_43 rfl ?_
      refine JJ.lload_n hX 1 dX5_digest_44 rfl ?_
      refine JJ.iload_n hX 2 dX5_digest_45 rfl ?_
      obtain ⟨q5, h5, h⟩ := bnd h
      refine JJ.callVl hX (ct_LT_withParty _ _ _ _ h5) cal_yX5_withParty cav_yX5_withParty lm_RX5_221 rfl rfl rfl (Rcv.obj hX (ci := 5) rfl rfl) (Nat.le_of_ble_eq_true rfl) ⟨by decide, by decide⟩ dX5_digest_46 ?_
      refine JJ.lstore_n (ls' := [(0, .ref (xad X 0)), (1, .long q5), (3, .int x3)]) hX dX5_digest_49 (by decide) rfl rfl ?_
      refine JJ.iinc (v := 1) (ls' := [(0, .ref (xad X 0)), (1, .long q5), (3, .int (x3 + (1 : Int32)))]) hX 2 dX5_digest_50 rfl (by decide) (by decide) rfl rfl ?_
      refine JJ.goto (tgt := 32) hX dX5_digest_53 (by decide) ?_
      exact ih _ _ _ h K
set_option maxRecDepth 100000 in
theorem lp_LT_digest_84 {X : CX} {σ : ST} (hX : Ok X RX5 cX5_digest 4 6) : ∀ (n : Nat) (x1 : Int64) (x3 : Int32) (e : (Int64)), f_LT_digest_L84 n x1 x3 σ = some e → JJ X 114 [(0, .ref (xad X 0)), (1, .long e)] [] σ → JJ X 84 [(0, .ref (xad X 0)), (1, .long x1), (3, .int x3)] [] σ := by
  intro n
  induction n with
  | zero =>
    intro x1 x3 e h
    rw [f_LT_digest_L84] at h
    cases h
  | succ n ih =>
    intro x1 x3 e h K
    rw [f_LT_digest_L84] at h
    refine JJ.iload_n hX 2 dX5_digest_84 rfl ?_
    refine JJ.aload_n hX 0 dX5_digest_85 rfl ?_
    refine fg_X5_12_0 hX dX5_digest_86 ?_
    refine fg_X5_42_1 hX dX5_digest_89 ?_
    refine JJ.icmp_ge (tgt := 114) hX dX5_digest_92 (by decide) (fun c8 => ?_) (fun c8 => ?_)
    · replace h := ipos c8 h
      obtain rfl := Option.some.inj h
      exact JJ.sub [0, 1] rfl K
    · replace h := ineg c8 h
      refine JJ.lload_n hX 1 dX5_digest_95 rfl ?_
      refine JJ.aload_n hX 0 dX5_digest_96 rfl ?_
      refine fg_X5_12_0 hX dX5_digest_97 ?_
      refine JJ.iload_n hX 2 dX5_digest_100 rfl ?_
      refine JJ.callVi hX (ct_Page_codeAt _ _ _ rfl) cal_yX2_codeAt cav_yX2_codeAt lm_RX5_233 rfl rfl rfl (Rcv.obj hX (ci := 2) rfl rfl) (Nat.le_of_ble_eq_true rfl) ⟨by decide, by decide⟩ dX5_digest_101 ?_
      refine JJ.callSl hX (ct_LT_with _ _ _ _ rfl) cal_yX5_with cas_yX5_with lm_RX5_227 rfl rfl (Nat.le_of_ble_eq_true rfl) ⟨by decide, by decide⟩ dX5_digest_104 ?_
      refine JJ.lstore_n (ls' := [(0, .ref (xad X 0)), (1, .long (f_LT_with x1 (f_Page_codeAt x3 σ))), (3, .int x3)]) hX dX5_digest_107 (by decide) rfl rfl ?_
      refine JJ.iinc (v := 1) (ls' := [(0, .ref (xad X 0)), (1, .long (f_LT_with x1 (f_Page_codeAt x3 σ))), (3, .int (x3 + (1 : Int32)))]) hX 2 dX5_digest_108 rfl (by decide) (by decide) rfl rfl ?_
      refine JJ.goto (tgt := 84) hX dX5_digest_111 (by decide) ?_
      exact ih _ _ _ h K
set_option maxRecDepth 100000 in
theorem lp_LT_digest_116 {X : CX} {σ : ST} (hX : Ok X RX5 cX5_digest 4 6) : ∀ (n : Nat) (x1 : Int64) (x3 : Int32) (e : (Int64)), f_LT_digest_L116 n x1 x3 σ = some e → JJ X 138 [(1, .long e)] [] σ → JJ X 116 [(0, .ref (xad X 0)), (1, .long x1), (3, .int x3)] [] σ := by
  intro n
  induction n with
  | zero =>
    intro x1 x3 e h
    rw [f_LT_digest_L116] at h
    cases h
  | succ n ih =>
    intro x1 x3 e h K
    rw [f_LT_digest_L116] at h
    refine JJ.iload_n hX 2 dX5_digest_116 rfl ?_
    refine JJ.bipush (v := 9) hX dX5_digest_117 (by decide) ?_
    refine JJ.icmp_ge (tgt := 138) hX dX5_digest_119 (by decide) (fun c10 => ?_) (fun c10 => ?_)
    · replace h := ipos c10 h
      obtain rfl := Option.some.inj h
      exact JJ.sub [1] rfl K
    · replace h := ineg c10 h
      refine JJ.lload_n hX 1 dX5_digest_122 rfl ?_
      refine JJ.aload_n hX 0 dX5_digest_123 rfl ?_
      refine JJ.iload_n hX 2 dX5_digest_124 rfl ?_
      obtain ⟨q11, h11, h⟩ := bnd h
      refine JJ.callVi hX (ct_LT_count _ _ _ h11) cal_yX5_count cav_yX5_count lm_RX5_236 rfl rfl rfl (Rcv.obj hX (ci := 5) rfl rfl) (Nat.le_of_ble_eq_true rfl) ⟨by decide, by decide⟩ dX5_digest_125 ?_
      refine JJ.callSl hX (ct_LT_with _ _ _ _ rfl) cal_yX5_with cas_yX5_with lm_RX5_227 rfl rfl (Nat.le_of_ble_eq_true rfl) ⟨by decide, by decide⟩ dX5_digest_128 ?_
      refine JJ.lstore_n (ls' := [(0, .ref (xad X 0)), (1, .long (f_LT_with x1 q11)), (3, .int x3)]) hX dX5_digest_131 (by decide) rfl rfl ?_
      refine JJ.iinc (v := 1) (ls' := [(0, .ref (xad X 0)), (1, .long (f_LT_with x1 q11)), (3, .int (x3 + (1 : Int32)))]) hX 2 dX5_digest_132 rfl (by decide) (by decide) rfl rfl ?_
      refine JJ.goto (tgt := 116) hX dX5_digest_135 (by decide) ?_
      exact ih _ _ _ h K
set_option maxRecDepth 100000 in
theorem ct_LT_digest (σ : ST) (res : Int64) (h : f_LT_digest σ = some res) : Ct 6 yX5_digest cX5_digest 4 (some .long) (fun ad => [.ref (ad 0)]) σ (some (.long res)) σ := by
  refine Ct.of (ls := fun ad => [(0, .ref (ad 0))]) (by decide +kernel) (fun ad => Nat.le_of_ble_eq_true rfl) (fun ad => rfl) (fun X hX hM => ?_)
  replace hX : Ok X RX5 cX5_digest 4 6 := hX
  unfold f_LT_digest at h
  refine JJ.ldc2 hX lc_RX5_215 dX5_digest_0 ?_
  refine JJ.lstore_n (ls' := [(0, .ref (xad X 0)), (1, .long (977 : Int64))]) hX dX5_digest_3 (by decide) rfl rfl ?_
  refine JJ.iconst (v := 0) hX dX5_digest_4 (by decide) ?_
  refine JJ.istore_n (ls' := [(0, .ref (xad X 0)), (1, .long (977 : Int64)), (3, .int (0 : Int32))]) hX dX5_digest_5 (by decide) rfl rfl ?_
  obtain ⟨e3, h3, h⟩ := bnd h
  refine lp_LT_digest_6 hX 400 _ _ _ h3 ?_
  refine JJ.iconst (v := 0) hX dX5_digest_30 (by decide) ?_
  refine JJ.istore_n (ls' := [(0, .ref (xad X 0)), (1, .long e3), (3, .int (0 : Int32))]) hX dX5_digest_31 (by decide) rfl rfl ?_
  obtain ⟨e6, h6, h⟩ := bnd h
  refine lp_LT_digest_32 hX 400 _ _ _ h6 ?_
  refine JJ.aload_n hX 0 dX5_digest_56 rfl ?_
  refine fg_X5_19_0 hX dX5_digest_57 ?_
  refine JJ.callVi hX (ct_Mine_isThere  _ _ rfl) cal_yX1_isThere cav_yX1_isThere lm_RX5_183 rfl rfl rfl (Rcv.obj hX (ci := 1) rfl rfl) (Nat.le_of_ble_eq_true rfl) ⟨by decide, by decide⟩ dX5_digest_60 ?_
  refine JJ.if_eq (tgt := 82) hX dX5_digest_63 (by decide) (fun c7 => ?_) (fun c7 => ?_)
  · replace h := ipos c7 h
    refine JJ.iconst (v := 0) hX dX5_digest_82 (by decide) ?_
    refine JJ.istore_n (ls' := [(0, .ref (xad X 0)), (1, .long e6), (3, .int (0 : Int32))]) hX dX5_digest_83 (by decide) rfl rfl ?_
    obtain ⟨e9, h9, h⟩ := bnd h
    refine lp_LT_digest_84 hX 400 _ _ _ h9 ?_
    refine JJ.iconst (v := 0) hX dX5_digest_114 (by decide) ?_
    refine JJ.istore_n (ls' := [(0, .ref (xad X 0)), (1, .long e9), (3, .int (0 : Int32))]) hX dX5_digest_115 (by decide) rfl rfl ?_
    obtain ⟨e12, h12, h⟩ := bnd h
    refine lp_LT_digest_116 hX 400 _ _ _ h12 ?_
    refine JJ.lload_n hX 0 dX5_digest_138 rfl ?_
    obtain rfl := Option.some.inj h
    exact JJ.lret hX hM dX5_digest_139
  · replace h := ineg c7 h
    refine JJ.lload_n hX 1 dX5_digest_66 rfl ?_
    refine JJ.aload_n hX 0 dX5_digest_67 rfl ?_
    obtain ⟨q13, h13, h⟩ := bnd h
    refine JJ.callVi hX (ct_LT_where  _ _ h13) cal_yX5_where cav_yX5_where lm_RX5_224 rfl rfl rfl (Rcv.obj hX (ci := 5) rfl rfl) (Nat.le_of_ble_eq_true rfl) ⟨by decide, by decide⟩ dX5_digest_68 ?_
    refine JJ.callSl hX (ct_LT_with _ _ _ _ rfl) cal_yX5_with cas_yX5_with lm_RX5_227 rfl rfl (Nat.le_of_ble_eq_true rfl) ⟨by decide, by decide⟩ dX5_digest_71 ?_
    refine JJ.aload_n hX 0 dX5_digest_74 rfl ?_
    obtain ⟨q14, h14, h⟩ := bnd h
    refine JJ.callVi hX (ct_LT_next  _ _ h14) cal_yX5_next cav_yX5_next lm_RX5_230 rfl rfl rfl (Rcv.obj hX (ci := 5) rfl rfl) (Nat.le_of_ble_eq_true rfl) ⟨by decide, by decide⟩ dX5_digest_75 ?_
    refine JJ.callSl hX (ct_LT_with _ _ _ _ rfl) cal_yX5_with cas_yX5_with lm_RX5_227 rfl rfl (Nat.le_of_ble_eq_true rfl) ⟨by decide, by decide⟩ dX5_digest_78 ?_
    refine JJ.lstore_n (ls' := [(0, .ref (xad X 0)), (1, .long (f_LT_with (f_LT_with e6 q13) q14))]) hX dX5_digest_81 (by decide) rfl rfl ?_
    refine JJ.iconst (v := 0) hX dX5_digest_82 (by decide) ?_
    refine JJ.istore_n (ls' := [(0, .ref (xad X 0)), (1, .long (f_LT_with (f_LT_with e6 q13) q14)), (3, .int (0 : Int32))]) hX dX5_digest_83 (by decide) rfl rfl ?_
    obtain ⟨e15, h15, h⟩ := bnd h
    refine lp_LT_digest_84 hX 400 _ _ _ h15 ?_
    refine JJ.iconst (v := 0) hX dX5_digest_114 (by decide) ?_
    refine JJ.istore_n (ls' := [(0, .ref (xad X 0)), (1, .long e15), (3, .int (0 : Int32))]) hX dX5_digest_115 (by decide) rfl rfl ?_
    obtain ⟨e16, h16, h⟩ := bnd h
    refine lp_LT_digest_116 hX 400 _ _ _ h16 ?_
    refine JJ.lload_n hX 0 dX5_digest_138 rfl ?_
    obtain rfl := Option.some.inj h
    exact JJ.lret hX hM dX5_digest_139
