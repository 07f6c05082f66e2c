set_option maxRecDepth 100000 in
theorem ct_M_say (p1 : Int64) (σ : ST) (res : ST) (h : f_M_say p1 σ = res) : Ct 0 yX6_say cX6_say 3 none (fun ad => [.long p1, .ref (ad 31)]) σ none res := by
  refine Ct.of (ls := fun ad => [(0, .ref (ad 31)), (1, .long p1)]) (by decide +kernel) (fun ad => Nat.le_of_ble_eq_true rfl) (fun ad => rfl) (fun X hX hM => ?_)
  replace hX : Ok X RX6 cX6_say 3 0 := hX
  unfold f_M_say at h
  refine JJ.aload_n hX 0 dX6_say_0 rfl ?_
  refine JJ.ldc2 hX lc_RX6_216 dX6_say_1 ?_
  refine JJ.aload_n hX 0 dX6_say_4 rfl ?_
  refine fg_X6_218_31 hX dX6_say_5 ?_
  refine JJ.lmul hX dX6_say_8 ?_
  refine JJ.lload_n hX 1 dX6_say_9 rfl ?_
  refine JJ.ladd hX dX6_say_10 ?_
  refine fp_X6_218_31 hX dX6_say_11 ?_
  subst h
  exact JJ.vret hX hM dX6_say_14
set_option maxRecDepth 100000 in
theorem lp_M_sayCrossing_2 {X : CX} (hX : Ok X RX6 cX6_sayCrossing 3 4) : ∀ (n : Nat) (x1 : Int32) (x2 : Int32) (σ : ST) (e : (ST)), f_M_sayCrossing_L2 n x1 x2 σ = some e → JJ X 25 [(0, .ref (xad X 31)), (1, .int x1)] [] e → JJ X 2 [(0, .ref (xad X 31)), (1, .int x1), (2, .int x2)] [] σ := by
  intro n
  induction n with
  | zero =>
    intro x1 x2 σ e h
    rw [f_M_sayCrossing_L2] at h
    cases h
  | succ n ih =>
    intro x1 x2 σ e h K
    rw [f_M_sayCrossing_L2] at h
    refine JJ.iload_n hX 2 dX6_sayCrossing_2 rfl ?_
    refine JJ.bipush (v := 6) hX dX6_sayCrossing_3 (by decide) ?_
    refine JJ.icmp_ge (tgt := 25) hX dX6_sayCrossing_5 (by decide) (fun c1 => ?_) (fun c1 => ?_)
    · replace h := ipos c1 h
      obtain rfl := Option.some.inj h
      exact JJ.sub [0, 1] rfl K
    · replace h := ineg c1 h
      refine JJ.aload_n hX 0 dX6_sayCrossing_8 rfl ?_
      refine JJ.aload_n hX 0 dX6_sayCrossing_9 rfl ?_
      refine JJ.iload_n hX 1 dX6_sayCrossing_10 rfl ?_
      refine JJ.iload_n hX 2 dX6_sayCrossing_11 rfl ?_
      obtain ⟨q2, h2, h⟩ := bnd h
      refine JJ.callVi hX (ct_M_tellCrossing _ _ _ _ h2) cal_yX6_tellCrossing cav_yX6_tellCrossing lm_RX6_111 rfl rfl rfl (Rcv.obj hX (ci := 6) rfl rfl) (Nat.le_of_ble_eq_true rfl) ⟨by decide, by decide⟩ dX6_sayCrossing_12 ?_
      refine JJ.i2l hX dX6_sayCrossing_15 ?_
      refine JJ.callVv hX (ct_M_say _ _ _ rfl) cal_yX6_say cav_yX6_say lm_RX6_222 rfl rfl rfl (Rcv.obj hX (ci := 6) rfl rfl) (Nat.le_of_ble_eq_true rfl) ⟨by decide, by decide⟩ dX6_sayCrossing_16 ?_
      refine JJ.iinc (v := 1) (ls' := [(0, .ref (xad X 31)), (1, .int x1), (2, .int (x2 + (1 : Int32)))]) hX 2 dX6_sayCrossing_19 rfl (by decide) (by decide) rfl rfl ?_
      refine JJ.goto (tgt := 2) hX dX6_sayCrossing_22 (by decide) ?_
      exact ih _ _ _ _ h K
set_option maxRecDepth 100000 in
theorem lp_M_sayCrossing_49 {X : CX} (hX : Ok X RX6 cX6_sayCrossing 3 4) : ∀ (n : Nat) (x1 : Int32) (x2 : Int32) (σ : ST) (e : (ST)), f_M_sayCrossing_L49 n x1 x2 σ = some e → JJ X 123 [] [] e → JJ X 49 [(0, .ref (xad X 31)), (1, .int x1), (2, .int x2)] [] σ := by
  intro n
  induction n with
  | zero =>
    intro x1 x2 σ e h
    rw [f_M_sayCrossing_L49] at h
    cases h
  | succ n ih =>
    intro x1 x2 σ e h K
    rw [f_M_sayCrossing_L49] at h
    refine JJ.iload_n hX 2 dX6_sayCrossing_49 rfl ?_
    refine JJ.aload_n hX 0 dX6_sayCrossing_50 rfl ?_
    refine fg_X6_84_31 hX dX6_sayCrossing_51 ?_
    refine JJ.icmp_ge (tgt := 123) hX dX6_sayCrossing_54 (by decide) (fun c6 => ?_) (fun c6 => ?_)
    · replace h := ipos c6 h
      obtain rfl := Option.some.inj h
      exact JJ.sub [] rfl K
    · replace h := ineg c6 h
      refine JJ.aload_n hX 0 dX6_sayCrossing_57 rfl ?_
      refine JJ.aload_n hX 0 dX6_sayCrossing_58 rfl ?_
      refine JJ.iload_n hX 1 dX6_sayCrossing_59 rfl ?_
      refine JJ.iload_n hX 2 dX6_sayCrossing_60 rfl ?_
      refine JJ.iconst (v := 0) hX dX6_sayCrossing_61 (by decide) ?_
      obtain ⟨q7, h7, h⟩ := bnd h
      refine JJ.callVi hX (ct_M_wayOf _ _ _ _ _ h7) cal_yX6_wayOf cav_yX6_wayOf lm_RX6_138 rfl rfl rfl (Rcv.obj hX (ci := 6) rfl rfl) (Nat.le_of_ble_eq_true rfl) ⟨by decide, by decide⟩ dX6_sayCrossing_62 ?_
      refine JJ.i2l hX dX6_sayCrossing_65 ?_
      refine JJ.callVv hX (ct_M_say _ _ _ rfl) cal_yX6_say cav_yX6_say lm_RX6_222 rfl rfl rfl (Rcv.obj hX (ci := 6) rfl rfl) (Nat.le_of_ble_eq_true rfl) ⟨by decide, by decide⟩ dX6_sayCrossing_66 ?_
      refine JJ.aload_n hX 0 dX6_sayCrossing_69 rfl ?_
      refine JJ.aload_n hX 0 dX6_sayCrossing_70 rfl ?_
      refine JJ.iload_n hX 1 dX6_sayCrossing_71 rfl ?_
      refine JJ.iload_n hX 2 dX6_sayCrossing_72 rfl ?_
      refine JJ.iconst (v := 1) hX dX6_sayCrossing_73 (by decide) ?_
      obtain ⟨q8, h8, h⟩ := bnd h
      refine JJ.callVi hX (ct_M_wayOf _ _ _ _ _ h8) cal_yX6_wayOf cav_yX6_wayOf lm_RX6_138 rfl rfl rfl (Rcv.obj hX (ci := 6) rfl rfl) (Nat.le_of_ble_eq_true rfl) ⟨by decide, by decide⟩ dX6_sayCrossing_74 ?_
      refine JJ.i2l hX dX6_sayCrossing_77 ?_
      refine JJ.callVv hX (ct_M_say _ _ _ rfl) cal_yX6_say cav_yX6_say lm_RX6_222 rfl rfl rfl (Rcv.obj hX (ci := 6) rfl rfl) (Nat.le_of_ble_eq_true rfl) ⟨by decide, by decide⟩ dX6_sayCrossing_78 ?_
      refine JJ.aload_n hX 0 dX6_sayCrossing_81 rfl ?_
      refine JJ.aload_n hX 0 dX6_sayCrossing_82 rfl ?_
      refine JJ.iload_n hX 1 dX6_sayCrossing_83 rfl ?_
      refine JJ.iload_n hX 2 dX6_sayCrossing_84 rfl ?_
      refine JJ.iconst (v := 2) hX dX6_sayCrossing_85 (by decide) ?_
      obtain ⟨q9, h9, h⟩ := bnd h
      refine JJ.callVi hX (ct_M_wayOf _ _ _ _ _ h9) cal_yX6_wayOf cav_yX6_wayOf lm_RX6_138 rfl rfl rfl (Rcv.obj hX (ci := 6) rfl rfl) (Nat.le_of_ble_eq_true rfl) ⟨by decide, by decide⟩ dX6_sayCrossing_86 ?_
      refine JJ.i2l hX dX6_sayCrossing_89 ?_
      refine JJ.callVv hX (ct_M_say _ _ _ rfl) cal_yX6_say cav_yX6_say lm_RX6_222 rfl rfl rfl (Rcv.obj hX (ci := 6) rfl rfl) (Nat.le_of_ble_eq_true rfl) ⟨by decide, by decide⟩ dX6_sayCrossing_90 ?_
      refine JJ.aload_n hX 0 dX6_sayCrossing_93 rfl ?_
      refine JJ.aload_n hX 0 dX6_sayCrossing_94 rfl ?_
      refine JJ.iload_n hX 1 dX6_sayCrossing_95 rfl ?_
      refine JJ.iload_n hX 2 dX6_sayCrossing_96 rfl ?_
      refine JJ.iconst (v := 0) hX dX6_sayCrossing_97 (by decide) ?_
      obtain ⟨q10, h10, h⟩ := bnd h
      refine JJ.callVi hX (ct_M_apartOf _ _ _ _ _ h10) cal_yX6_apartOf cav_yX6_apartOf lm_RX6_158 rfl rfl rfl (Rcv.obj hX (ci := 6) rfl rfl) (Nat.le_of_ble_eq_true rfl) ⟨by decide, by decide⟩ dX6_sayCrossing_98 ?_
      refine JJ.i2l hX dX6_sayCrossing_101 ?_
      refine JJ.callVv hX (ct_M_say _ _ _ rfl) cal_yX6_say cav_yX6_say lm_RX6_222 rfl rfl rfl (Rcv.obj hX (ci := 6) rfl rfl) (Nat.le_of_ble_eq_true rfl) ⟨by decide, by decide⟩ dX6_sayCrossing_102 ?_
      refine JJ.aload_n hX 0 dX6_sayCrossing_105 rfl ?_
      refine JJ.aload_n hX 0 dX6_sayCrossing_106 rfl ?_
      refine JJ.iload_n hX 1 dX6_sayCrossing_107 rfl ?_
      refine JJ.iload_n hX 2 dX6_sayCrossing_108 rfl ?_
      refine JJ.iconst (v := 1) hX dX6_sayCrossing_109 (by decide) ?_
      obtain ⟨q11, h11, h⟩ := bnd h
      refine JJ.callVi hX (ct_M_apartOf _ _ _ _ _ h11) cal_yX6_apartOf cav_yX6_apartOf lm_RX6_158 rfl rfl rfl (Rcv.obj hX (ci := 6) rfl rfl) (Nat.le_of_ble_eq_true rfl) ⟨by decide, by decide⟩ dX6_sayCrossing_110 ?_
      refine JJ.i2l hX dX6_sayCrossing_113 ?_
      refine JJ.callVv hX (ct_M_say _ _ _ rfl) cal_yX6_say cav_yX6_say lm_RX6_222 rfl rfl rfl (Rcv.obj hX (ci := 6) rfl rfl) (Nat.le_of_ble_eq_true rfl) ⟨by decide, by decide⟩ dX6_sayCrossing_114 ?_
      refine JJ.iinc (v := 1) (ls' := [(0, .ref (xad X 31)), (1, .int x1), (2, .int (x2 + (1 : Int32)))]) hX 2 dX6_sayCrossing_117 rfl (by decide) (by decide) rfl rfl ?_
      refine JJ.goto (tgt := 49) hX dX6_sayCrossing_120 (by decide) ?_
      exact ih _ _ _ _ h K
set_option maxRecDepth 100000 in
theorem ct_M_sayCrossing (p1 : Int32) (σ : ST) (res : ST) (h : f_M_sayCrossing p1 σ = some res) : Ct 4 yX6_sayCrossing cX6_sayCrossing 3 none (fun ad => [.int p1, .ref (ad 31)]) σ none res := by
  refine Ct.of (ls := fun ad => [(0, .ref (ad 31)), (1, .int p1)]) (by decide +kernel) (fun ad => Nat.le_of_ble_eq_true rfl) (fun ad => rfl) (fun X hX hM => ?_)
  replace hX : Ok X RX6 cX6_sayCrossing 3 4 := hX
  unfold f_M_sayCrossing at h
  refine JJ.iconst (v := 0) hX dX6_sayCrossing_0 (by decide) ?_
  refine JJ.istore_n (ls' := [(0, .ref (xad X 31)), (1, .int p1), (2, .int (0 : Int32))]) hX dX6_sayCrossing_1 (by decide) rfl rfl ?_
  obtain ⟨e3, h3, h⟩ := bnd h
  refine lp_M_sayCrossing_2 hX 400 _ _ _ _ h3 ?_
  refine JJ.aload_n hX 0 dX6_sayCrossing_25 rfl ?_
  refine JJ.aload_n hX 0 dX6_sayCrossing_26 rfl ?_
  refine JJ.iload_n hX 1 dX6_sayCrossing_27 rfl ?_
  refine JJ.iconst (v := 0) hX dX6_sayCrossing_28 (by decide) ?_
  obtain ⟨q4, h4, h⟩ := bnd h
  refine JJ.callVi hX (ct_M_roundOf _ _ _ _ h4) cal_yX6_roundOf cav_yX6_roundOf lm_RX6_145 rfl rfl rfl (Rcv.obj hX (ci := 6) rfl rfl) (Nat.le_of_ble_eq_true rfl) ⟨by decide, by decide⟩ dX6_sayCrossing_29 ?_
  refine JJ.i2l hX dX6_sayCrossing_32 ?_
  refine JJ.callVv hX (ct_M_say _ _ _ rfl) cal_yX6_say cav_yX6_say lm_RX6_222 rfl rfl rfl (Rcv.obj hX (ci := 6) rfl rfl) (Nat.le_of_ble_eq_true rfl) ⟨by decide, by decide⟩ dX6_sayCrossing_33 ?_
  refine JJ.aload_n hX 0 dX6_sayCrossing_36 rfl ?_
  refine JJ.aload_n hX 0 dX6_sayCrossing_37 rfl ?_
  refine JJ.iload_n hX 1 dX6_sayCrossing_38 rfl ?_
  refine JJ.iconst (v := 1) hX dX6_sayCrossing_39 (by decide) ?_
  obtain ⟨q5, h5, h⟩ := bnd h
  refine JJ.callVi hX (ct_M_roundOf _ _ _ _ h5) cal_yX6_roundOf cav_yX6_roundOf lm_RX6_145 rfl rfl rfl (Rcv.obj hX (ci := 6) rfl rfl) (Nat.le_of_ble_eq_true rfl) ⟨by decide, by decide⟩ dX6_sayCrossing_40 ?_
  refine JJ.i2l hX dX6_sayCrossing_43 ?_
  refine JJ.callVv hX (ct_M_say _ _ _ rfl) cal_yX6_say cav_yX6_say lm_RX6_222 rfl rfl rfl (Rcv.obj hX (ci := 6) rfl rfl) (Nat.le_of_ble_eq_true rfl) ⟨by decide, by decide⟩ dX6_sayCrossing_44 ?_
  refine JJ.iconst (v := 0) hX dX6_sayCrossing_47 (by decide) ?_
  refine JJ.istore_n (ls' := [(0, .ref (xad X 31)), (1, .int p1), (2, .int (0 : Int32))]) hX dX6_sayCrossing_48 (by decide) rfl rfl ?_
  obtain ⟨e12, h12, h⟩ := bnd h
  refine lp_M_sayCrossing_49 hX 400 _ _ _ _ h12 ?_
  obtain rfl := Option.some.inj h
  exact JJ.vret hX hM dX6_sayCrossing_123
set_option maxRecDepth 100000 in
theorem lp_M_digest_9 {X : CX} (hX : Ok X RX6 cX6_digest 3 5) : ∀ (n : Nat) (x1 : Int32) (σ : ST) (e : (ST)), f_M_digest_L9 n x1 σ = some e → JJ X 28 [(0, .ref (xad X 31))] [] e → JJ X 9 [(0, .ref (xad X 31)), (1, .int x1)] [] σ := by
  intro n
  induction n with
  | zero =>
    intro x1 σ e h
    rw [f_M_digest_L9] at h
    cases h
  | succ n ih =>
    intro x1 σ e h K
    rw [f_M_digest_L9] at h
    refine JJ.iload_n hX 1 dX6_digest_9 rfl ?_
    refine JJ.aload_n hX 0 dX6_digest_10 rfl ?_
    refine fg_X6_84_31 hX dX6_digest_11 ?_
    refine JJ.icmp_ge (tgt := 28) hX dX6_digest_14 (by decide) (fun c1 => ?_) (fun c1 => ?_)
    · replace h := ipos c1 h
      obtain rfl := Option.some.inj h
      exact JJ.sub [0] rfl K
    · replace h := ineg c1 h
      refine JJ.aload_n hX 0 dX6_digest_17 rfl ?_
      refine JJ.iload_n hX 1 dX6_digest_18 rfl ?_
      obtain ⟨q2, h2, h⟩ := bnd h
      refine JJ.callVv hX (ct_M_sayCrossing _ _ _ h2) cal_yX6_sayCrossing cav_yX6_sayCrossing lm_RX6_228 rfl rfl rfl (Rcv.obj hX (ci := 6) rfl rfl) (Nat.le_of_ble_eq_true rfl) ⟨by decide, by decide⟩ dX6_digest_19 ?_
      refine JJ.iinc (v := 1) (ls' := [(0, .ref (xad X 31)), (1, .int (x1 + (1 : Int32)))]) hX 1 dX6_digest_22 rfl (by decide) (by decide) rfl rfl ?_
      refine JJ.goto (tgt := 9) hX dX6_digest_25 (by decide) ?_
      exact ih _ _ _ h K
set_option maxRecDepth 100000 in
theorem lp_M_digest_40 {X : CX} (hX : Ok X RX6 cX6_digest 3 5) : ∀ (n : Nat) (x1 : Int32) (x2 : Int32) (σ : ST) (e : (ST)), f_M_digest_L40 n x1 x2 σ = some e → JJ X 62 [(0, .ref (xad X 31)), (1, .int x1)] [] e → JJ X 40 [(0, .ref (xad X 31)), (1, .int x1), (2, .int x2)] [] σ := by
  intro n
  induction n with
  | zero =>
    intro x1 x2 σ e h
    rw [f_M_digest_L40] at h
    cases h
  | succ n ih =>
    intro x1 x2 σ e h K
    rw [f_M_digest_L40] at h
    refine JJ.iload_n hX 2 dX6_digest_40 rfl ?_
    refine JJ.iconst (v := 5) hX dX6_digest_41 (by decide) ?_
    refine JJ.icmp_ge (tgt := 62) hX dX6_digest_42 (by decide) (fun c5 => ?_) (fun c5 => ?_)
    · replace h := ipos c5 h
      obtain rfl := Option.some.inj h
      exact JJ.sub [0, 1] rfl K
    · replace h := ineg c5 h
      refine JJ.aload_n hX 0 dX6_digest_45 rfl ?_
      refine JJ.aload_n hX 0 dX6_digest_46 rfl ?_
      refine JJ.iload_n hX 1 dX6_digest_47 rfl ?_
      refine JJ.iload_n hX 2 dX6_digest_48 rfl ?_
      obtain ⟨q6, h6, h⟩ := bnd h
      refine JJ.callVi hX (ct_M_tell _ _ _ _ h6) cal_yX6_tell cav_yX6_tell lm_RX6_126 rfl rfl rfl (Rcv.obj hX (ci := 6) rfl rfl) (Nat.le_of_ble_eq_true rfl) ⟨by decide, by decide⟩ dX6_digest_49 ?_
      refine JJ.i2l hX dX6_digest_52 ?_
      refine JJ.callVv hX (ct_M_say _ _ _ rfl) cal_yX6_say cav_yX6_say lm_RX6_222 rfl rfl rfl (Rcv.obj hX (ci := 6) rfl rfl) (Nat.le_of_ble_eq_true rfl) ⟨by decide, by decide⟩ dX6_digest_53 ?_
      refine JJ.iinc (v := 1) (ls' := [(0, .ref (xad X 31)), (1, .int x1), (2, .int (x2 + (1 : Int32)))]) hX 2 dX6_digest_56 rfl (by decide) (by decide) rfl rfl ?_
      refine JJ.goto (tgt := 40) hX dX6_digest_59 (by decide) ?_
      exact ih _ _ _ _ h K
set_option maxRecDepth 100000 in
theorem lp_M_digest_64 {X : CX} (hX : Ok X RX6 cX6_digest 3 5) : ∀ (n : Nat) (x1 : Int32) (x2 : Int32) (σ : ST) (e : (ST)), f_M_digest_L64 n x1 x2 σ = some e → JJ X 103 [(0, .ref (xad X 31)), (1, .int x1)] [] e → JJ X 64 [(0, .ref (xad X 31)), (1, .int x1), (2, .int x2)] [] σ := by
  intro n
  induction n with
  | zero =>
    intro x1 x2 σ e h
    rw [f_M_digest_L64] at h
    cases h
  | succ n ih =>
    intro x1 x2 σ e h K
    rw [f_M_digest_L64] at h
    refine JJ.iload_n hX 2 dX6_digest_64 rfl ?_
    refine JJ.aload_n hX 0 dX6_digest_65 rfl ?_
    refine fg_X6_90_31 hX dX6_digest_66 ?_
    refine JJ.icmp_ge (tgt := 103) hX dX6_digest_69 (by decide) (fun c8 => ?_) (fun c8 => ?_)
    · replace h := ipos c8 h
      obtain rfl := Option.some.inj h
      exact JJ.sub [0, 1] rfl K
    · replace h := ineg c8 h
      refine JJ.aload_n hX 0 dX6_digest_72 rfl ?_
      refine JJ.aload_n hX 0 dX6_digest_73 rfl ?_
      refine JJ.aload_n hX 0 dX6_digest_74 rfl ?_
      refine fg_X6_22_31 hX dX6_digest_75 ?_
      refine JJ.iconst (v := 4) hX dX6_digest_78 (by decide) ?_
      refine JJ.iload_n hX 1 dX6_digest_79 rfl ?_
      refine JJ.imul hX dX6_digest_80 ?_
      obtain ⟨c9, h⟩ := gte h
      refine ald_36 hX c9 dX6_digest_81 ?_
      refine JJ.aload_n hX 0 dX6_digest_82 rfl ?_
      refine fg_X6_22_31 hX dX6_digest_83 ?_
      refine JJ.iconst (v := 4) hX dX6_digest_86 (by decide) ?_
      refine JJ.iload_n hX 2 dX6_digest_87 rfl ?_
      refine JJ.imul hX dX6_digest_88 ?_
      obtain ⟨c10, h⟩ := gte h
      refine ald_36 hX c10 dX6_digest_89 ?_
      obtain ⟨q11, h11, h⟩ := bnd h
      refine JJ.callVi hX (ct_M_meetOf _ _ _ _ h11) cal_yX6_meetOf cav_yX6_meetOf lm_RX6_152 rfl rfl rfl (Rcv.obj hX (ci := 6) rfl rfl) (Nat.le_of_ble_eq_true rfl) ⟨by decide, by decide⟩ dX6_digest_90 ?_
      refine JJ.i2l hX dX6_digest_93 ?_
      refine JJ.callVv hX (ct_M_say _ _ _ rfl) cal_yX6_say cav_yX6_say lm_RX6_222 rfl rfl rfl (Rcv.obj hX (ci := 6) rfl rfl) (Nat.le_of_ble_eq_true rfl) ⟨by decide, by decide⟩ dX6_digest_94 ?_
      refine JJ.iinc (v := 1) (ls' := [(0, .ref (xad X 31)), (1, .int x1), (2, .int (x2 + (1 : Int32)))]) hX 2 dX6_digest_97 rfl (by decide) (by decide) rfl rfl ?_
      refine JJ.goto (tgt := 64) hX dX6_digest_100 (by decide) ?_
      exact ih _ _ _ _ h K
set_option maxRecDepth 100000 in
theorem lp_M_digest_30 {X : CX} (hX : Ok X RX6 cX6_digest 3 5) : ∀ (n : Nat) (x1 : Int32) (σ : ST) (e : (ST)), f_M_digest_L30 n x1 σ = some e → JJ X 109 [(0, .ref (xad X 31))] [] e → JJ X 30 [(0, .ref (xad X 31)), (1, .int x1)] [] σ := by
  intro n
  induction n with
  | zero =>
    intro x1 σ e h
    rw [f_M_digest_L30] at h
    cases h
  | succ n ih =>
    intro x1 σ e h K
    rw [f_M_digest_L30] at h
    refine JJ.iload_n hX 1 dX6_digest_30 rfl ?_
    refine JJ.aload_n hX 0 dX6_digest_31 rfl ?_
    refine fg_X6_90_31 hX dX6_digest_32 ?_
    refine JJ.icmp_ge (tgt := 109) hX dX6_digest_35 (by decide) (fun c4 => ?_) (fun c4 => ?_)
    · replace h := ipos c4 h
      obtain rfl := Option.some.inj h
      exact JJ.sub [0] rfl K
    · replace h := ineg c4 h
      refine JJ.iconst (v := 0) hX dX6_digest_38 (by decide) ?_
      refine JJ.istore_n (ls' := [(0, .ref (xad X 31)), (1, .int x1), (2, .int (0 : Int32))]) hX dX6_digest_39 (by decide) rfl rfl ?_
      obtain ⟨e7, h7, h⟩ := bnd h
      refine lp_M_digest_40 hX 400 _ _ _ _ h7 ?_
      refine JJ.iconst (v := 0) hX dX6_digest_62 (by decide) ?_
      refine JJ.istore_n (ls' := [(0, .ref (xad X 31)), (1, .int x1), (2, .int (0 : Int32))]) hX dX6_digest_63 (by decide) rfl rfl ?_
      obtain ⟨e12, h12, h⟩ := bnd h
      refine lp_M_digest_64 hX 400 _ _ _ _ h12 ?_
      refine JJ.iinc (v := 1) (ls' := [(0, .ref (xad X 31)), (1, .int (x1 + (1 : Int32)))]) hX 1 dX6_digest_103 rfl (by decide) (by decide) rfl rfl ?_
      refine JJ.goto (tgt := 30) hX dX6_digest_106 (by decide) ?_
      exact ih _ _ _ h K
set_option maxRecDepth 100000 in
theorem lp_M_digest_136 {X : CX} (hX : Ok X RX6 cX6_digest 3 5) : ∀ (n : Nat) (x1 : Int32) (σ : ST) (e : (ST)), f_M_digest_L136 n x1 σ = some e → JJ X 161 [(0, .ref (xad X 31))] [] e → JJ X 136 [(0, .ref (xad X 31)), (1, .int x1)] [] σ := by
  intro n
  induction n with
  | zero =>
    intro x1 σ e h
    rw [f_M_digest_L136] at h
    cases h
  | succ n ih =>
    intro x1 σ e h K
    rw [f_M_digest_L136] at h
    refine JJ.iload_n hX 1 dX6_digest_136 rfl ?_
    refine JJ.aload_n hX 0 dX6_digest_137 rfl ?_
    refine fg_X6_53_31 hX dX6_digest_138 ?_
    refine JJ.icmp_ge (tgt := 161) hX dX6_digest_141 (by decide) (fun c15 => ?_) (fun c15 => ?_)
    · replace h := ipos c15 h
      obtain rfl := Option.some.inj h
      exact JJ.sub [0] rfl K
    · replace h := ineg c15 h
      refine JJ.aload_n hX 0 dX6_digest_144 rfl ?_
      refine JJ.aload_n hX 0 dX6_digest_145 rfl ?_
      refine fg_X6_7_31 hX dX6_digest_146 ?_
      refine JJ.iload_n hX 1 dX6_digest_149 rfl ?_
      obtain ⟨c16, h⟩ := gte h
      refine ald_32 hX c16 dX6_digest_150 ?_
      refine JJ.i2l hX dX6_digest_151 ?_
      refine JJ.callVv hX (ct_M_say _ _ _ rfl) cal_yX6_say cav_yX6_say lm_RX6_222 rfl rfl rfl (Rcv.obj hX (ci := 6) rfl rfl) (Nat.le_of_ble_eq_true rfl) ⟨by decide, by decide⟩ dX6_digest_152 ?_
      refine JJ.iinc (v := 1) (ls' := [(0, .ref (xad X 31)), (1, .int (x1 + (1 : Int32)))]) hX 1 dX6_digest_155 rfl (by decide) (by decide) rfl rfl ?_
      refine JJ.goto (tgt := 136) hX dX6_digest_158 (by decide) ?_
      exact ih _ _ _ h K
set_option maxRecDepth 100000 in
theorem lp_M_digest_163 {X : CX} (hX : Ok X RX6 cX6_digest 3 5) : ∀ (n : Nat) (x1 : Int32) (σ : ST) (e : (ST)), f_M_digest_L163 n x1 σ = some e → JJ X 185 [(0, .ref (xad X 31))] [] e → JJ X 163 [(0, .ref (xad X 31)), (1, .int x1)] [] σ := by
  intro n
  induction n with
  | zero =>
    intro x1 σ e h
    rw [f_M_digest_L163] at h
    cases h
  | succ n ih =>
    intro x1 σ e h K
    rw [f_M_digest_L163] at h
    refine JJ.iload_n hX 1 dX6_digest_163 rfl ?_
    refine JJ.bipush (v := 9) hX dX6_digest_164 (by decide) ?_
    refine JJ.icmp_ge (tgt := 185) hX dX6_digest_166 (by decide) (fun c18 => ?_) (fun c18 => ?_)
    · replace h := ipos c18 h
      obtain rfl := Option.some.inj h
      exact JJ.sub [0] rfl K
    · replace h := ineg c18 h
      refine JJ.aload_n hX 0 dX6_digest_169 rfl ?_
      refine JJ.aload_n hX 0 dX6_digest_170 rfl ?_
      refine JJ.iload_n hX 1 dX6_digest_171 rfl ?_
      obtain ⟨q19, h19, h⟩ := bnd h
      refine JJ.callVi hX (ct_M_countOf _ _ _ h19) cal_yX6_countOf cav_yX6_countOf lm_RX6_213 rfl rfl rfl (Rcv.obj hX (ci := 6) rfl rfl) (Nat.le_of_ble_eq_true rfl) ⟨by decide, by decide⟩ dX6_digest_172 ?_
      refine JJ.i2l hX dX6_digest_175 ?_
      refine JJ.callVv hX (ct_M_say _ _ _ rfl) cal_yX6_say cav_yX6_say lm_RX6_222 rfl rfl rfl (Rcv.obj hX (ci := 6) rfl rfl) (Nat.le_of_ble_eq_true rfl) ⟨by decide, by decide⟩ dX6_digest_176 ?_
      refine JJ.iinc (v := 1) (ls' := [(0, .ref (xad X 31)), (1, .int (x1 + (1 : Int32)))]) hX 1 dX6_digest_179 rfl (by decide) (by decide) rfl rfl ?_
      refine JJ.goto (tgt := 163) hX dX6_digest_182 (by decide) ?_
      exact ih _ _ _ h K
set_option maxRecDepth 100000 in
theorem ct_M_digest (σ : ST) (res : Int64 × ST) (h : f_M_digest σ = some res) : Ct 5 yX6_digest cX6_digest 3 (some .long) (fun ad => [.ref (ad 31)]) σ (some (.long res.1)) res.2 := by
  refine Ct.of (ls := fun ad => [(0, .ref (ad 31))]) (by decide +kernel) (fun ad => Nat.le_of_ble_eq_true rfl) (fun ad => rfl) (fun X hX hM => ?_)
  replace hX : Ok X RX6 cX6_digest 3 5 := hX
  unfold f_M_digest at h
  refine JJ.aload_n hX 0 dX6_digest_0 rfl ?_
  refine JJ.ldc2 hX lc_RX6_226 dX6_digest_1 ?_
  refine fp_X6_218_31 hX dX6_digest_4 ?_
  refine JJ.iconst (v := 0) hX dX6_digest_7 (by decide) ?_
  refine JJ.istore_n (ls' := [(0, .ref (xad X 31)), (1, .int (0 : Int32))]) hX dX6_digest_8 (by decide) rfl rfl ?_
  obtain ⟨e3, h3, h⟩ := bnd h
  refine lp_M_digest_9 hX 400 _ _ _ h3 ?_
  refine JJ.iconst (v := 0) hX dX6_digest_28 (by decide) ?_
  refine JJ.istore_n (ls' := [(0, .ref (xad X 31)), (1, .int (0 : Int32))]) hX dX6_digest_29 (by decide) rfl rfl ?_
  obtain ⟨e13, h13, h⟩ := bnd h
  refine lp_M_digest_30 hX 400 _ _ _ h13 ?_
  refine JJ.aload_n hX 0 dX6_digest_109 rfl ?_
  refine JJ.callVi hX (ct_M_lacks  _ _ rfl) cal_yX6_lacks cav_yX6_lacks lm_RX6_167 rfl rfl rfl (Rcv.obj hX (ci := 6) rfl rfl) (Nat.le_of_ble_eq_true rfl) ⟨by decide, by decide⟩ dX6_digest_110 ?_
  refine JJ.if_ne (tgt := 134) hX dX6_digest_113 (by decide) (fun c14 => ?_) (fun c14 => ?_)
  · replace h := ineg c14 h
    refine JJ.iconst (v := 0) hX dX6_digest_134 (by decide) ?_
    refine JJ.istore_n (ls' := [(0, .ref (xad X 31)), (1, .int (0 : Int32))]) hX dX6_digest_135 (by decide) rfl rfl ?_
    obtain ⟨e17, h17, h⟩ := bnd h
    refine lp_M_digest_136 hX 400 _ _ _ h17 ?_
    refine JJ.iconst (v := 0) hX dX6_digest_161 (by decide) ?_
    refine JJ.istore_n (ls' := [(0, .ref (xad X 31)), (1, .int (0 : Int32))]) hX dX6_digest_162 (by decide) rfl rfl ?_
    obtain ⟨e20, h20, h⟩ := bnd h
    refine lp_M_digest_163 hX 400 _ _ _ h20 ?_
    refine JJ.aload_n hX 0 dX6_digest_185 rfl ?_
    refine fg_X6_218_31 hX dX6_digest_186 ?_
    obtain rfl := Option.some.inj h
    exact JJ.lret hX hM dX6_digest_189
  · replace h := ipos c14 h
    refine JJ.aload_n hX 0 dX6_digest_116 rfl ?_
    refine JJ.aload_n hX 0 dX6_digest_117 rfl ?_
    obtain ⟨q21, h21, h⟩ := bnd h
    refine JJ.callVi hX (ct_M_whereOf  _ _ h21) cal_yX6_whereOf cav_yX6_whereOf lm_RX6_171 rfl rfl rfl (Rcv.obj hX (ci := 6) rfl rfl) (Nat.le_of_ble_eq_true rfl) ⟨by decide, by decide⟩ dX6_digest_118 ?_
    refine JJ.i2l hX dX6_digest_121 ?_
    refine JJ.callVv hX (ct_M_say _ _ _ rfl) cal_yX6_say cav_yX6_say lm_RX6_222 rfl rfl rfl (Rcv.obj hX (ci := 6) rfl rfl) (Nat.le_of_ble_eq_true rfl) ⟨by decide, by decide⟩ dX6_digest_122 ?_
    refine JJ.aload_n hX 0 dX6_digest_125 rfl ?_
    refine JJ.aload_n hX 0 dX6_digest_126 rfl ?_
    obtain ⟨q22, h22, h⟩ := bnd h
    refine JJ.callVi hX (ct_M_nextOf  _ _ h22) cal_yX6_nextOf cav_yX6_nextOf lm_RX6_180 rfl rfl rfl (Rcv.obj hX (ci := 6) rfl rfl) (Nat.le_of_ble_eq_true rfl) ⟨by decide, by decide⟩ dX6_digest_127 ?_
    refine JJ.i2l hX dX6_digest_130 ?_
    refine JJ.callVv hX (ct_M_say _ _ _ rfl) cal_yX6_say cav_yX6_say lm_RX6_222 rfl rfl rfl (Rcv.obj hX (ci := 6) rfl rfl) (Nat.le_of_ble_eq_true rfl) ⟨by decide, by decide⟩ dX6_digest_131 ?_
    refine JJ.iconst (v := 0) hX dX6_digest_134 (by decide) ?_
    refine JJ.istore_n (ls' := [(0, .ref (xad X 31)), (1, .int (0 : Int32))]) hX dX6_digest_135 (by decide) rfl rfl ?_
    obtain ⟨e23, h23, h⟩ := bnd h
    refine lp_M_digest_136 hX 400 _ _ _ h23 ?_
    refine JJ.iconst (v := 0) hX dX6_digest_161 (by decide) ?_
    refine JJ.istore_n (ls' := [(0, .ref (xad X 31)), (1, .int (0 : Int32))]) hX dX6_digest_162 (by decide) rfl rfl ?_
    obtain ⟨e24, h24, h⟩ := bnd h
    refine lp_M_digest_163 hX 400 _ _ _ h24 ?_
    refine JJ.aload_n hX 0 dX6_digest_185 rfl ?_
    refine fg_X6_218_31 hX dX6_digest_186 ?_
    obtain rfl := Option.some.inj h
    exact JJ.lret hX hM dX6_digest_189
