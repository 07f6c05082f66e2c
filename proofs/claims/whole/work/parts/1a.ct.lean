set_option maxRecDepth 100000 in
theorem ct_Page_write (p1 : Int32) (σ : ST) (res : ST) (h : f_Page_write p1 σ = res) : Ct 1 yX2_write cX2_write 2 none (fun ad => [.int p1, .ref (ad 1)]) σ none res := by
  refine Ct.of (ls := fun ad => [(0, .ref (ad 1)), (1, .int p1)]) (by decide +kernel) (fun ad => Nat.le_of_ble_eq_true rfl) (fun ad => rfl) (fun X hX hM => ?_)
  replace hX : Ok X RX2 cX2_write 2 1 := hX
  unfold f_Page_write at h
  refine JJ.aload_n hX 0 dX2_write_0 rfl ?_
  refine fg_X2_9_1 hX dX2_write_1 ?_
  refine JJ.aload_n hX 0 dX2_write_4 rfl ?_
  refine fg_X2_15_1 hX dX2_write_5 ?_
  refine JJ.iload_n hX 1 dX2_write_8 rfl ?_
  refine JJ.callSNv hX (ct_put 2 28 (by decide) (fun _ _ _ => rfl) (fun _ _ _ _ _ => rfl) _ _ _ _ rfl) cal_yX5_put cas_yX5_put lm_RX2_19 rfl rfl (Nat.le_of_ble_eq_true rfl) ⟨by decide, by decide⟩ dX2_write_9 ?_
  refine JJ.aload_n hX 0 dX2_write_12 rfl ?_
  refine JJ.dup hX dX2_write_13 rfl ?_
  refine fg_X2_15_1 hX dX2_write_14 ?_
  refine JJ.iconst (v := 1) hX dX2_write_17 (by decide) ?_
  refine JJ.iadd hX dX2_write_18 ?_
  refine fp_X2_15_1 hX dX2_write_19 ?_
  subst h
  exact JJ.vret hX hM dX2_write_22
set_option maxRecDepth 100000 in
theorem ct_LT_letter (p1 : Int32) (σ : ST) (res : Int32 × ST) (h : f_LT_letter p1 σ = res) : Ct 2 yX5_letter cX5_letter 2 (some .int) (fun ad => [.int p1, .ref (ad 0)]) σ (some (.int res.1)) res.2 := by
  refine Ct.of (ls := fun ad => [(0, .ref (ad 0)), (1, .int p1)]) (by decide +kernel) (fun ad => Nat.le_of_ble_eq_true rfl) (fun ad => rfl) (fun X hX hM => ?_)
  replace hX : Ok X RX5 cX5_letter 2 2 := hX
  unfold f_LT_letter at h
  refine JJ.iload_n hX 1 dX5_letter_0 rfl ?_
  refine JJ.iconst (v := 1) hX dX5_letter_1 (by decide) ?_
  refine JJ.icmp_lt (tgt := 11) hX dX5_letter_2 (by decide) (fun c1 => ?_) (fun c1 => ?_)
  · replace h := ipos c1 h
    refine JJ.bipush (v := -102) hX dX5_letter_11 (by decide) ?_
    subst h
    exact JJ.iret hX hM dX5_letter_13
  · replace h := ineg c1 h
    refine JJ.iload_n hX 1 dX5_letter_5 rfl ?_
    refine JJ.bipush (v := 126) hX dX5_letter_6 (by decide) ?_
    refine JJ.icmp_le (tgt := 14) hX dX5_letter_8 (by decide) (fun c2 => ?_) (fun c2 => ?_)
    · replace h := ipos c2 h
      refine JJ.aload_n hX 0 dX5_letter_14 rfl ?_
      refine fg_X5_12_0 hX dX5_letter_15 ?_
      refine fg_X5_42_1 hX dX5_letter_18 ?_
      refine JJ.bipush (v := 28) hX dX5_letter_21 (by decide) ?_
      refine JJ.icmp_lt (tgt := 29) hX dX5_letter_23 (by decide) (fun c3 => ?_) (fun c3 => ?_)
      · replace h := ipos c3 h
        refine JJ.aload_n hX 0 dX5_letter_29 rfl ?_
        refine fg_X5_12_0 hX dX5_letter_30 ?_
        refine JJ.iload_n hX 1 dX5_letter_33 rfl ?_
        refine JJ.callVv hX (ct_Page_write _ _ _ rfl) cal_yX2_write cav_yX2_write lm_RX5_46 rfl rfl rfl (Rcv.obj hX (ci := 2) rfl rfl) (Nat.le_of_ble_eq_true rfl) ⟨by decide, by decide⟩ dX5_letter_34 ?_
        refine JJ.aload_n hX 0 dX5_letter_37 rfl ?_
        refine fg_X5_12_0 hX dX5_letter_38 ?_
        refine fg_X5_42_1 hX dX5_letter_41 ?_
        subst h
        exact JJ.iret hX hM dX5_letter_44
      · replace h := ineg c3 h
        refine JJ.bipush (v := -104) hX dX5_letter_26 (by decide) ?_
        subst h
        exact JJ.iret hX hM dX5_letter_28
    · replace h := ineg c2 h
      refine JJ.bipush (v := -102) hX dX5_letter_11 (by decide) ?_
      subst h
      exact JJ.iret hX hM dX5_letter_13
set_option maxRecDepth 100000 in
theorem ct_M_in (p0 : Int64) (p2 : Int64) (p4 : Int64) (σ : ST) (res : Int32) (h : f_M_in p0 p2 p4 = res) : Ct 0 yX6_in cX6_in 6 (some .boolean) (fun ad => [.long p4, .long p2, .long p0]) σ (some (.int res)) σ := by
  refine Ct.of (ls := fun ad => [(0, .long p0), (2, .long p2), (4, .long p4)]) (by decide +kernel) (fun ad => Nat.le_of_ble_eq_true rfl) (fun ad => rfl) (fun X hX hM => ?_)
  replace hX : Ok X RX6 cX6_in 6 0 := hX
  unfold f_M_in at h
  refine JJ.lload_n hX 0 dX6_in_0 rfl ?_
  refine JJ.lload_n hX 1 dX6_in_1 rfl ?_
  refine JJ.lcmp hX dX6_in_2 ?_
  refine JJ.if_lt (tgt := 17) hX dX6_in_3 (by decide) (fun c1 => ?_) (fun c1 => ?_)
  · replace h := ipos c1 h
    refine JJ.iconst (v := 0) hX dX6_in_17 (by decide) ?_
    subst h
    exact JJ.zret hX hM (by decide) dX6_in_18
  · replace h := ineg c1 h
    refine JJ.lload_n hX 0 dX6_in_6 rfl ?_
    refine JJ.lload hX 2 dX6_in_7 rfl ?_
    refine JJ.lcmp hX dX6_in_9 ?_
    refine JJ.if_gt (tgt := 17) hX dX6_in_10 (by decide) (fun c2 => ?_) (fun c2 => ?_)
    · replace h := ipos c2 h
      refine JJ.iconst (v := 0) hX dX6_in_17 (by decide) ?_
      subst h
      exact JJ.zret hX hM (by decide) dX6_in_18
    · replace h := ineg c2 h
      refine JJ.iconst (v := 1) hX dX6_in_13 (by decide) ?_
      refine JJ.goto (tgt := 18) hX dX6_in_14 (by decide) ?_
      subst h
      exact JJ.zret hX hM (by decide) dX6_in_18
set_option maxRecDepth 100000 in
theorem ct_M_letter (p1 : Int32) (σ : ST) (res : Int32 × ST) (h : f_M_letter p1 σ = some res) : Ct 1 yX6_letter cX6_letter 2 (some .int) (fun ad => [.int p1, .ref (ad 31)]) σ (some (.int res.1)) res.2 := by
  refine Ct.of (ls := fun ad => [(0, .ref (ad 31)), (1, .int p1)]) (by decide +kernel) (fun ad => Nat.le_of_ble_eq_true rfl) (fun ad => rfl) (fun X hX hM => ?_)
  replace hX : Ok X RX6 cX6_letter 2 1 := hX
  unfold f_M_letter at h
  refine JJ.iload_n hX 1 dX6_letter_0 rfl ?_
  refine JJ.i2l hX dX6_letter_1 ?_
  refine JJ.lconst (v := 1) hX dX6_letter_2 (by decide) ?_
  refine JJ.ldc2 hX lc_RX6_47 dX6_letter_3 ?_
  refine JJ.callSi hX (ct_M_in _ _ _ _ _ rfl) cal_yX6_in cas_yX6_in lm_RX6_49 rfl rfl (Nat.le_of_ble_eq_true rfl) ⟨by decide, by decide⟩ dX6_letter_6 ?_
  refine JJ.if_ne (tgt := 15) hX dX6_letter_9 (by decide) (fun c1 => ?_) (fun c1 => ?_)
  · replace h := ineg c1 h
    refine JJ.aload_n hX 0 dX6_letter_15 rfl ?_
    refine fg_X6_53_31 hX dX6_letter_16 ?_
    refine JJ.bipush (v := 28) hX dX6_letter_19 (by decide) ?_
    refine JJ.icmp_ne (tgt := 27) hX dX6_letter_21 (by decide) (fun c2 => ?_) (fun c2 => ?_)
    · replace h := ineg c2 h
      refine JJ.aload_n hX 0 dX6_letter_27 rfl ?_
      refine fg_X6_7_31 hX dX6_letter_28 ?_
      refine JJ.aload_n hX 0 dX6_letter_31 rfl ?_
      refine fg_X6_53_31 hX dX6_letter_32 ?_
      refine JJ.iload_n hX 1 dX6_letter_35 rfl ?_
      obtain ⟨c3, h⟩ := gte h
      refine ast_32 hX c3 dX6_letter_36 ?_
      refine JJ.aload_n hX 0 dX6_letter_37 rfl ?_
      refine JJ.dup hX dX6_letter_38 rfl ?_
      refine fg_X6_53_31 hX dX6_letter_39 ?_
      refine JJ.iconst (v := 1) hX dX6_letter_42 (by decide) ?_
      refine JJ.iadd hX dX6_letter_43 ?_
      refine fp_X6_53_31 hX dX6_letter_44 ?_
      refine JJ.aload_n hX 0 dX6_letter_47 rfl ?_
      refine fg_X6_53_31 hX dX6_letter_48 ?_
      obtain rfl := Option.some.inj h
      exact JJ.iret hX hM dX6_letter_51
    · replace h := ipos c2 h
      refine JJ.bipush (v := -104) hX dX6_letter_24 (by decide) ?_
      obtain rfl := Option.some.inj h
      exact JJ.iret hX hM dX6_letter_26
  · replace h := ipos c1 h
    refine JJ.bipush (v := -102) hX dX6_letter_12 (by decide) ?_
    obtain rfl := Option.some.inj h
    exact JJ.iret hX hM dX6_letter_14
set_option maxRecDepth 100000 in
theorem ct_LT_blank (σ : ST) (res : Int32 × ST) (h : f_LT_blank σ = res) : Ct 0 yX5_blank cX5_blank 2 (some .int) (fun ad => [.ref (ad 0)]) σ (some (.int res.1)) res.2 := by
  refine Ct.of (ls := fun ad => [(0, .ref (ad 0))]) (by decide +kernel) (fun ad => Nat.le_of_ble_eq_true rfl) (fun ad => rfl) (fun X hX hM => ?_)
  replace hX : Ok X RX5 cX5_blank 2 0 := hX
  unfold f_LT_blank at h
  refine JJ.aload_n hX 0 dX5_blank_0 rfl ?_
  refine fg_X5_12_0 hX dX5_blank_1 ?_
  refine fg_X5_42_1 hX dX5_blank_4 ?_
  refine JJ.istore_n (ls' := [(0, .ref (xad X 0)), (1, .int (gI σ 101))]) hX dX5_blank_7 (by decide) rfl rfl ?_
  refine JJ.aload_n hX 0 dX5_blank_8 rfl ?_
  refine fg_X5_12_0 hX dX5_blank_9 ?_
  refine JJ.iconst (v := 0) hX dX5_blank_12 (by decide) ?_
  refine fp_X5_42_1 hX dX5_blank_13 ?_
  refine JJ.iload_n hX 1 dX5_blank_16 rfl ?_
  subst h
  exact JJ.iret hX hM dX5_blank_17
set_option maxRecDepth 100000 in
theorem ct_M_blank (σ : ST) (res : Int32 × ST) (h : f_M_blank σ = res) : Ct 0 yX6_blank cX6_blank 2 (some .int) (fun ad => [.ref (ad 31)]) σ (some (.int res.1)) res.2 := by
  refine Ct.of (ls := fun ad => [(0, .ref (ad 31))]) (by decide +kernel) (fun ad => Nat.le_of_ble_eq_true rfl) (fun ad => rfl) (fun X hX hM => ?_)
  replace hX : Ok X RX6 cX6_blank 2 0 := hX
  unfold f_M_blank at h
  refine JJ.aload_n hX 0 dX6_blank_0 rfl ?_
  refine fg_X6_53_31 hX dX6_blank_1 ?_
  refine JJ.istore_n (ls' := [(0, .ref (xad X 31)), (1, .int (gI σ 3101))]) hX dX6_blank_4 (by decide) rfl rfl ?_
  refine JJ.aload_n hX 0 dX6_blank_5 rfl ?_
  refine JJ.iconst (v := 0) hX dX6_blank_6 (by decide) ?_
  refine fp_X6_53_31 hX dX6_blank_7 ?_
  refine JJ.iload_n hX 1 dX6_blank_10 rfl ?_
  subst h
  exact JJ.iret hX hM dX6_blank_11
set_option maxRecDepth 100000 in
theorem ct_Page_codeAt (p1 : Int32) (σ : ST) (res : Int32) (h : f_Page_codeAt p1 σ = res) : Ct 1 yX2_codeAt cX2_codeAt 2 (some .int) (fun ad => [.int p1, .ref (ad 1)]) σ (some (.int res)) σ := by
  refine Ct.of (ls := fun ad => [(0, .ref (ad 1)), (1, .int p1)]) (by decide +kernel) (fun ad => Nat.le_of_ble_eq_true rfl) (fun ad => rfl) (fun X hX hM => ?_)
  replace hX : Ok X RX2 cX2_codeAt 2 1 := hX
  unfold f_Page_codeAt at h
  refine JJ.aload_n hX 0 dX2_codeAt_0 rfl ?_
  refine fg_X2_9_1 hX dX2_codeAt_1 ?_
  refine JJ.iload_n hX 1 dX2_codeAt_4 rfl ?_
  refine JJ.callSNi hX (ct_cell 2 28 (by decide) (fun _ _ _ => rfl) _ _ _ rfl) cal_yX5_cell cas_yX5_cell lm_RX2_23 rfl rfl (Nat.le_of_ble_eq_true rfl) ⟨by decide, by decide⟩ dX2_codeAt_5 ?_
  subst h
  exact JJ.iret hX hM dX2_codeAt_8
set_option maxRecDepth 100000 in
theorem ct_String_isLatin1 (σ : ST) (res : Int32) (h : f_String_isLatin1 = res) : Ct 0 yJ0_isLatin1_aae02 cJ0_isLatin1_aae02 1 (some .boolean) (fun ad => [.ref (ad 43)]) σ (some (.int res)) σ := by
  refine Ct.of (ls := fun ad => [(0, .ref (ad 43))]) (by decide +kernel) (fun ad => Nat.le_of_ble_eq_true rfl) (fun ad => rfl) (fun X hX hM => ?_)
  replace hX : Ok X RJ0 cJ0_isLatin1_aae02 1 0 := hX
  unfold f_String_isLatin1 at h
  refine JJ.compact hX lf_RJ0_38 dJ0_isLatin1_aae02_0 ?_
  refine JJ.if_eq (tgt := 17) hX dJ0_isLatin1_aae02_3 (by decide) (fun c1 => absurd c1 (by decide)) (fun _ => ?_)
  refine JJ.aload_n hX 0 dJ0_isLatin1_aae02_6 rfl ?_
  refine JJ.strC hX lf_RJ0_15 dJ0_isLatin1_aae02_7 ?_
  refine JJ.if_ne (tgt := 17) hX dJ0_isLatin1_aae02_10 (by decide) (fun c2 => absurd c2 (by decide)) (fun _ => ?_)
  refine JJ.iconst (v := 1) hX dJ0_isLatin1_aae02_13 (by decide) ?_
  refine JJ.goto (tgt := 18) hX dJ0_isLatin1_aae02_14 (by decide) ?_
  subst h
  exact JJ.zret hX hM (by decide) dJ0_isLatin1_aae02_18
set_option maxRecDepth 100000 in
theorem ct_String_coder (σ : ST) (res : Int32) (h : f_String_coder = res) : Ct 0 yJ0_coder_7d493 cJ0_coder_7d493 1 (some .byte) (fun ad => [.ref (ad 43)]) σ (some (.int res)) σ := by
  refine Ct.of (ls := fun ad => [(0, .ref (ad 43))]) (by decide +kernel) (fun ad => Nat.le_of_ble_eq_true rfl) (fun ad => rfl) (fun X hX hM => ?_)
  replace hX : Ok X RJ0 cJ0_coder_7d493 1 0 := hX
  unfold f_String_coder at h
  refine JJ.compact hX lf_RJ0_38 dJ0_coder_7d493_0 ?_
  refine JJ.if_eq (tgt := 13) hX dJ0_coder_7d493_3 (by decide) (fun c1 => absurd c1 (by decide)) (fun _ => ?_)
  refine JJ.aload_n hX 0 dJ0_coder_7d493_6 rfl ?_
  refine JJ.strC hX lf_RJ0_15 dJ0_coder_7d493_7 ?_
  refine JJ.goto (tgt := 14) hX dJ0_coder_7d493_10 (by decide) ?_
  subst h
  exact JJ.zret hX hM (by decide) dJ0_coder_7d493_14
set_option maxRecDepth 100000 in
theorem ct_String_length (σ : ST) (res : Int32) (h : f_String_length = res) : Ct 1 yJ0_length_8abf5 cJ0_length_8abf5 1 (some .int) (fun ad => [.ref (ad 43)]) σ (some (.int res)) σ := by
  refine Ct.of (ls := fun ad => [(0, .ref (ad 43))]) (by decide +kernel) (fun ad => Nat.le_of_ble_eq_true rfl) (fun ad => rfl) (fun X hX hM => ?_)
  replace hX : Ok X RJ0 cJ0_length_8abf5 1 1 := hX
  unfold f_String_length at h
  refine JJ.aload_n hX 0 dJ0_length_8abf5_0 rfl ?_
  refine JJ.strV hX lf_RJ0_9 dJ0_length_8abf5_1 ?_
  refine JJ.blen hX dJ0_length_8abf5_4 ?_
  refine JJ.aload_n hX 0 dJ0_length_8abf5_5 rfl ?_
  refine JJ.callVi (v := (0 : Int32)) hX (ct_String_coder  _ _ rfl) cal_yJ0_coder_7d493 cav_yJ0_coder_7d493 lm_RJ0_335 rfl rfl rfl (Rcv.str hX) (Nat.le_of_ble_eq_true rfl) ⟨by decide, by decide⟩ dJ0_length_8abf5_6 ?_
  refine JJ.ishr hX dJ0_length_8abf5_9 ?_
  subst h
  exact JJ.iret hX hM dJ0_length_8abf5_10
set_option maxRecDepth 100000 in
theorem ct_Latin1_canEncode (p0 : Int32) (σ : ST) (res : Int32) (h : f_Latin1_canEncode p0 = res) : Ct 0 yJ1_canEncode_9a6ad cJ1_canEncode_9a6ad 1 (some .boolean) (fun ad => [.int p0]) σ (some (.int res)) σ := by
  refine Ct.of (ls := fun ad => [(0, .int p0)]) (by decide +kernel) (fun ad => Nat.le_of_ble_eq_true rfl) (fun ad => rfl) (fun X hX hM => ?_)
  replace hX : Ok X RJ1 cJ1_canEncode_9a6ad 1 0 := hX
  unfold f_Latin1_canEncode at h
  refine JJ.iload_n hX 0 dJ1_canEncode_9a6ad_0 rfl ?_
  refine JJ.if_lt (tgt := 15) hX dJ1_canEncode_9a6ad_1 (by decide) (fun c1 => ?_) (fun c1 => ?_)
  · replace h := ipos c1 h
    refine JJ.iconst (v := 0) hX dJ1_canEncode_9a6ad_15 (by decide) ?_
    subst h
    exact JJ.zret hX hM (by decide) dJ1_canEncode_9a6ad_16
  · replace h := ineg c1 h
    refine JJ.iload_n hX 0 dJ1_canEncode_9a6ad_4 rfl ?_
    refine JJ.sipush (v := 255) hX dJ1_canEncode_9a6ad_5 (by decide) ?_
    refine JJ.icmp_gt (tgt := 15) hX dJ1_canEncode_9a6ad_8 (by decide) (fun c2 => ?_) (fun c2 => ?_)
    · replace h := ipos c2 h
      refine JJ.iconst (v := 0) hX dJ1_canEncode_9a6ad_15 (by decide) ?_
      subst h
      exact JJ.zret hX hM (by decide) dJ1_canEncode_9a6ad_16
    · replace h := ineg c2 h
      refine JJ.iconst (v := 1) hX dJ1_canEncode_9a6ad_11 (by decide) ?_
      refine JJ.goto (tgt := 16) hX dJ1_canEncode_9a6ad_12 (by decide) ?_
      subst h
      exact JJ.zret hX hM (by decide) dJ1_canEncode_9a6ad_16
set_option maxRecDepth 100000 in
theorem lp_Latin1_indexOfChar_7 {X : CX} {σ : ST} (hX : Ok X RJ1 cJ1_indexOfChar_4cfef 6 0) (res : Int32) (hM : OkM X (some .int) (some (.int res)) σ) : ∀ (n : Nat) (x3 : Int32) (x4 : Int32) (x5 : Int32) (e : ((Unit) ⊕ (Int32))), f_Latin1_indexOfChar_L7 n x3 x4 x5 σ = some e → (∀ v, e = .inl v → JJ X 31 [] [] σ) → (∀ r, e = .inr r → r = res) → JJ X 7 [(0, .ref (xad X 44)), (3, .int x3), (4, .int x4), (5, .int x5)] [] σ := by
  intro n
  induction n with
  | zero =>
    intro x3 x4 x5 e h
    rw [f_Latin1_indexOfChar_L7] at h
    cases h
  | succ n ih =>
    intro x3 x4 x5 e h K Kr
    rw [f_Latin1_indexOfChar_L7] at h
    refine JJ.iload hX 3 dJ1_indexOfChar_4cfef_7 rfl ?_
    refine JJ.iload_n hX 1 dJ1_indexOfChar_4cfef_9 rfl ?_
    refine JJ.icmp_ge (tgt := 31) hX dJ1_indexOfChar_4cfef_10 (by decide) (fun c1 => ?_) (fun c1 => ?_)
    · replace h := ipos c1 h
      obtain rfl := Option.some.inj h
      exact JJ.sub [] rfl (K _ rfl)
    · replace h := ineg c1 h
      refine JJ.aload_n hX 0 dJ1_indexOfChar_4cfef_13 rfl ?_
      refine JJ.iload hX 3 dJ1_indexOfChar_4cfef_14 rfl ?_
      obtain ⟨c2, h⟩ := gte h
      refine JJ.bald hX (inB_in c2) dJ1_indexOfChar_4cfef_16 ?_
      refine JJ.iload hX 2 dJ1_indexOfChar_4cfef_17 rfl ?_
      refine JJ.icmp_ne (tgt := 25) hX dJ1_indexOfChar_4cfef_19 (by decide) (fun c3 => ?_) (fun c3 => ?_)
      · replace h := ineg c3 h
        refine JJ.iinc (v := 1) (ls' := [(0, .ref (xad X 44)), (3, .int x3), (4, .int x4), (5, .int (x5 + (1 : Int32)))]) hX 3 dJ1_indexOfChar_4cfef_25 rfl (by decide) (by decide) rfl rfl ?_
        refine JJ.goto (tgt := 7) hX dJ1_indexOfChar_4cfef_28 (by decide) ?_
        exact ih _ _ _ _ h K Kr
      · replace h := ipos c3 h
        refine JJ.iload hX 3 dJ1_indexOfChar_4cfef_22 rfl ?_
        have hr := Kr _ (Option.some.inj h).symm
        subst hr
        exact JJ.iret hX hM dJ1_indexOfChar_4cfef_24
set_option maxRecDepth 100000 in
theorem ct_Latin1_indexOfChar (p1 : Int32) (p2 : Int32) (p3 : Int32) (σ : ST) (res : Int32) (h : f_Latin1_indexOfChar p1 p2 p3 σ = some res) : Ct 0 yJ1_indexOfChar_4cfef cJ1_indexOfChar_4cfef 6 (some .int) (fun ad => [.int p3, .int p2, .int p1, .ref (ad 44)]) σ (some (.int res)) σ := by
  refine Ct.of (ls := fun ad => [(0, .ref (ad 44)), (1, .int p1), (2, .int p2), (3, .int p3)]) (by decide +kernel) (fun ad => Nat.le_of_ble_eq_true rfl) (fun ad => rfl) (fun X hX hM => ?_)
  replace hX : Ok X RJ1 cJ1_indexOfChar_4cfef 6 0 := hX
  unfold f_Latin1_indexOfChar at h
  refine JJ.iload_n hX 1 dJ1_indexOfChar_4cfef_0 rfl ?_
  refine JJ.i2b hX dJ1_indexOfChar_4cfef_1 ?_
  refine JJ.istore (ls' := [(0, .ref (xad X 44)), (1, .int p1), (2, .int p2), (3, .int p3), (4, .int ((p1).toInt8.toInt32))]) hX dJ1_indexOfChar_4cfef_2 (by decide) rfl rfl ?_
  refine JJ.iload_n hX 2 dJ1_indexOfChar_4cfef_4 rfl ?_
  refine JJ.istore (ls' := [(0, .ref (xad X 44)), (1, .int p1), (2, .int p2), (3, .int p3), (4, .int ((p1).toInt8.toInt32)), (5, .int p2)]) hX dJ1_indexOfChar_4cfef_5 (by decide) rfl rfl ?_
  obtain ⟨e4, h4, h⟩ := bnd h
  refine JJ.sub (ls' := [(0, .ref (xad X 44)), (3, .int p3), (4, .int ((p1).toInt8.toInt32)), (5, .int p2)]) [0, 3, 4, 5] rfl ?_
  refine lp_Latin1_indexOfChar_7 hX res hM 400 _ _ _ _ h4 (fun v4 hv4 => ?_) (fun r4 hr4 => by subst hr4; exact Option.some.inj h)
  subst hv4
  dsimp only at h
  refine JJ.iconst (v := -1) hX dJ1_indexOfChar_4cfef_31 (by decide) ?_
  obtain rfl := Option.some.inj h
  exact JJ.iret hX hM dJ1_indexOfChar_4cfef_32
set_option maxRecDepth 100000 in
theorem ct_Latin1_indexOf (p1 : Int32) (p2 : Int32) (p3 : Int32) (σ : ST) (res : Int32) (h : f_Latin1_indexOf p1 p2 p3 σ = some res) : Ct 1 yJ1_indexOf_4cfef cJ1_indexOf_4cfef 4 (some .int) (fun ad => [.int p3, .int p2, .int p1, .ref (ad 44)]) σ (some (.int res)) σ := by
  refine Ct.of (ls := fun ad => [(0, .ref (ad 44)), (1, .int p1), (2, .int p2), (3, .int p3)]) (by decide +kernel) (fun ad => Nat.le_of_ble_eq_true rfl) (fun ad => rfl) (fun X hX hM => ?_)
  replace hX : Ok X RJ1 cJ1_indexOf_4cfef 4 1 := hX
  unfold f_Latin1_indexOf at h
  refine JJ.iload_n hX 1 dJ1_indexOf_4cfef_0 rfl ?_
  refine JJ.callSi hX (ct_Latin1_canEncode _ _ _ rfl) cal_yJ1_canEncode_9a6ad cas_yJ1_canEncode_9a6ad lm_RJ1_88 rfl rfl (Nat.le_of_ble_eq_true rfl) ⟨by decide, by decide⟩ dJ1_indexOf_4cfef_1 ?_
  refine JJ.if_ne (tgt := 9) hX dJ1_indexOf_4cfef_4 (by decide) (fun c1 => ?_) (fun c1 => ?_)
  · replace h := ineg c1 h
    refine JJ.iload_n hX 2 dJ1_indexOf_4cfef_9 rfl ?_
    refine JJ.iconst (v := 0) hX dJ1_indexOf_4cfef_10 (by decide) ?_
    refine JJ.mmax hX lm_RJ1_92 cas_math_max ini_math cod_math_max (Nat.le_of_ble_eq_true rfl) (by decide) dJ1_indexOf_4cfef_11 ?_
    refine JJ.istore_n (ls' := [(0, .ref (xad X 44)), (1, .int p1), (2, .int (if p2 < (0 : Int32) then (0 : Int32) else p2)), (3, .int p3)]) hX dJ1_indexOf_4cfef_14 (by decide) rfl rfl ?_
    refine JJ.iload_n hX 3 dJ1_indexOf_4cfef_15 rfl ?_
    refine JJ.aload_n hX 0 dJ1_indexOf_4cfef_16 rfl ?_
    refine JJ.blen hX dJ1_indexOf_4cfef_17 ?_
    refine JJ.mmin hX lm_RJ1_38 cas_math_min ini_math cod_math_min (Nat.le_of_ble_eq_true rfl) (by decide) dJ1_indexOf_4cfef_18 ?_
    refine JJ.istore_n (ls' := [(0, .ref (xad X 44)), (1, .int p1), (2, .int (if p2 < (0 : Int32) then (0 : Int32) else p2)), (3, .int (if (5 : Int32) < p3 then (5 : Int32) else p3))]) hX dJ1_indexOf_4cfef_21 (by decide) rfl rfl ?_
    refine JJ.iload_n hX 2 dJ1_indexOf_4cfef_22 rfl ?_
    refine JJ.iload_n hX 3 dJ1_indexOf_4cfef_23 rfl ?_
    refine JJ.icmp_lt (tgt := 29) hX dJ1_indexOf_4cfef_24 (by decide) (fun c2 => ?_) (fun c2 => ?_)
    · replace h := ipos c2 h
      refine JJ.aload_n hX 0 dJ1_indexOf_4cfef_29 rfl ?_
      refine JJ.iload_n hX 1 dJ1_indexOf_4cfef_30 rfl ?_
      refine JJ.iload_n hX 2 dJ1_indexOf_4cfef_31 rfl ?_
      refine JJ.iload_n hX 3 dJ1_indexOf_4cfef_32 rfl ?_
      obtain ⟨q3, h3, h⟩ := bnd h
      refine JJ.callSi hX (ct_Latin1_indexOfChar _ _ _ _ _ h3) cal_yJ1_indexOfChar_4cfef cas_yJ1_indexOfChar_4cfef lm_RJ1_95 rfl rfl (Nat.le_of_ble_eq_true rfl) ⟨by decide, by decide⟩ dJ1_indexOf_4cfef_33 ?_
      obtain rfl := Option.some.inj h
      exact JJ.iret hX hM dJ1_indexOf_4cfef_36
    · replace h := ineg c2 h
      refine JJ.iconst (v := -1) hX dJ1_indexOf_4cfef_27 (by decide) ?_
      obtain rfl := Option.some.inj h
      exact JJ.iret hX hM dJ1_indexOf_4cfef_28
  · replace h := ipos c1 h
    refine JJ.iconst (v := -1) hX dJ1_indexOf_4cfef_7 (by decide) ?_
    obtain rfl := Option.some.inj h
    exact JJ.iret hX hM dJ1_indexOf_4cfef_8
set_option maxRecDepth 100000 in
theorem ct_String_indexOf2 (p1 : Int32) (p2 : Int32) (σ : ST) (res : Int32) (h : f_String_indexOf2 p1 p2 σ = some res) : Ct 2 yJ0_indexOf_7cf53 cJ0_indexOf_7cf53 3 (some .int) (fun ad => [.int p2, .int p1, .ref (ad 43)]) σ (some (.int res)) σ := by
  refine Ct.of (ls := fun ad => [(0, .ref (ad 43)), (1, .int p1), (2, .int p2)]) (by decide +kernel) (fun ad => Nat.le_of_ble_eq_true rfl) (fun ad => rfl) (fun X hX hM => ?_)
  replace hX : Ok X RJ0 cJ0_indexOf_7cf53 3 2 := hX
  unfold f_String_indexOf2 at h
  refine JJ.aload_n hX 0 dJ0_indexOf_7cf53_0 rfl ?_
  refine JJ.callVi (v := (1 : Int32)) hX (ct_String_isLatin1  _ _ rfl) cal_yJ0_isLatin1_aae02 cav_yJ0_isLatin1_aae02 lm_RJ0_492 rfl rfl rfl (Rcv.str hX) (Nat.le_of_ble_eq_true rfl) ⟨by decide, by decide⟩ dJ0_indexOf_7cf53_1 ?_
  refine JJ.if_eq (tgt := 23) hX dJ0_indexOf_7cf53_4 (by decide) (fun c1 => absurd c1 (by decide)) (fun _ => ?_)
  refine JJ.aload_n hX 0 dJ0_indexOf_7cf53_7 rfl ?_
  refine JJ.strV hX lf_RJ0_9 dJ0_indexOf_7cf53_8 ?_
  refine JJ.iload_n hX 1 dJ0_indexOf_7cf53_11 rfl ?_
  refine JJ.iload_n hX 2 dJ0_indexOf_7cf53_12 rfl ?_
  refine JJ.aload_n hX 0 dJ0_indexOf_7cf53_13 rfl ?_
  refine JJ.callVi hX (ct_String_length  _ _ rfl) cal_yJ0_length_8abf5 cav_yJ0_length_8abf5 lm_RJ0_505 rfl rfl rfl (Rcv.str hX) (Nat.le_of_ble_eq_true rfl) ⟨by decide, by decide⟩ dJ0_indexOf_7cf53_14 ?_
  obtain ⟨q2, h2, h⟩ := bnd h
  refine JJ.callSi hX (ct_Latin1_indexOf _ _ _ _ _ h2) cal_yJ1_indexOf_4cfef cas_yJ1_indexOf_4cfef lm_RJ0_637 rfl rfl (Nat.le_of_ble_eq_true rfl) ⟨by decide, by decide⟩ dJ0_indexOf_7cf53_17 ?_
  refine JJ.goto (tgt := 36) hX dJ0_indexOf_7cf53_20 (by decide) ?_
  obtain rfl := Option.some.inj h
  exact JJ.iret hX hM dJ0_indexOf_7cf53_36
set_option maxRecDepth 100000 in
theorem ct_String_indexOf1 (p1 : Int32) (σ : ST) (res : Int32) (h : f_String_indexOf1 p1 σ = some res) : Ct 3 yJ0_indexOf_0f7a4 cJ0_indexOf_0f7a4 2 (some .int) (fun ad => [.int p1, .ref (ad 43)]) σ (some (.int res)) σ := by
  refine Ct.of (ls := fun ad => [(0, .ref (ad 43)), (1, .int p1)]) (by decide +kernel) (fun ad => Nat.le_of_ble_eq_true rfl) (fun ad => rfl) (fun X hX hM => ?_)
  replace hX : Ok X RJ0 cJ0_indexOf_0f7a4 2 3 := hX
  unfold f_String_indexOf1 at h
  refine JJ.aload_n hX 0 dJ0_indexOf_0f7a4_0 rfl ?_
  refine JJ.iload_n hX 1 dJ0_indexOf_0f7a4_1 rfl ?_
  refine JJ.iconst (v := 0) hX dJ0_indexOf_0f7a4_2 (by decide) ?_
  obtain ⟨q1, h1, h⟩ := bnd h
  refine JJ.callVi hX (ct_String_indexOf2 _ _ _ _ h1) cal_yJ0_indexOf_7cf53 cav_yJ0_indexOf_7cf53 lm_RJ0_633 rfl rfl rfl (Rcv.str hX) (Nat.le_of_ble_eq_true rfl) ⟨by decide, by decide⟩ dJ0_indexOf_0f7a4_3 ?_
  obtain rfl := Option.some.inj h
  exact JJ.iret hX hM dJ0_indexOf_0f7a4_6
set_option maxRecDepth 100000 in
theorem ct_Page_kindOfSign (p0 : Int32) (σ : ST) (res : Int32) (h : f_Page_kindOfSign p0 σ = some res) : Ct 4 yX2_kindOfSign cX2_kindOfSign 1 (some .int) (fun ad => [.int p0]) σ (some (.int res)) σ := by
  refine Ct.of (ls := fun ad => [(0, .int p0)]) (by decide +kernel) (fun ad => Nat.le_of_ble_eq_true rfl) (fun ad => rfl) (fun X hX hM => ?_)
  replace hX : Ok X RX2 cX2_kindOfSign 1 4 := hX
  unfold f_Page_kindOfSign at h
  refine JJ.ldcS hX dX2_kindOfSign_0 ?_
  refine JJ.iload_n hX 0 dX2_kindOfSign_2 rfl ?_
  refine JJ.i2c hX dX2_kindOfSign_3 ?_
  obtain ⟨q1, h1, h⟩ := bnd h
  refine JJ.callVi hX (ct_String_indexOf1 _ _ _ h1) cal_yJ0_indexOf_0f7a4 cav_yJ0_indexOf_0f7a4 lm_RX2_60 rfl rfl rfl (Rcv.str hX) (Nat.le_of_ble_eq_true rfl) ⟨by decide, by decide⟩ dX2_kindOfSign_4 ?_
  obtain rfl := Option.some.inj h
  exact JJ.iret hX hM dX2_kindOfSign_7
set_option maxRecDepth 100000 in
theorem ct_Page_digitAt (p1 : Int32) (σ : ST) (res : Int32) (h : f_Page_digitAt p1 σ = res) : Ct 1 yX2_digitAt cX2_digitAt 2 (some .int) (fun ad => [.int p1, .ref (ad 1)]) σ (some (.int res)) σ := by
  refine Ct.of (ls := fun ad => [(0, .ref (ad 1)), (1, .int p1)]) (by decide +kernel) (fun ad => Nat.le_of_ble_eq_true rfl) (fun ad => rfl) (fun X hX hM => ?_)
  replace hX : Ok X RX2 cX2_digitAt 2 1 := hX
  unfold f_Page_digitAt at h
  refine JJ.aload_n hX 0 dX2_digitAt_0 rfl ?_
  refine fg_X2_9_1 hX dX2_digitAt_1 ?_
  refine JJ.iload_n hX 1 dX2_digitAt_4 rfl ?_
  refine JJ.callSNi hX (ct_cell 2 28 (by decide) (fun _ _ _ => rfl) _ _ _ rfl) cal_yX5_cell cas_yX5_cell lm_RX2_23 rfl rfl (Nat.le_of_ble_eq_true rfl) ⟨by decide, by decide⟩ dX2_digitAt_5 ?_
  refine JJ.bipush (v := 48) hX dX2_digitAt_8 (by decide) ?_
  refine JJ.isub hX dX2_digitAt_10 ?_
  subst h
  exact JJ.iret hX hM dX2_digitAt_11
set_option maxRecDepth 100000 in
theorem ct_Page_fitsInCrossings (p1 : Int32) (σ : ST) (res : Int32) (h : f_Page_fitsInCrossings p1 σ = some res) : Ct 5 yX2_fitsInCrossings cX2_fitsInCrossings 3 (some .boolean) (fun ad => [.int p1, .ref (ad 1)]) σ (some (.int res)) σ := by
  refine Ct.of (ls := fun ad => [(0, .ref (ad 1)), (1, .int p1)]) (by decide +kernel) (fun ad => Nat.le_of_ble_eq_true rfl) (fun ad => rfl) (fun X hX hM => ?_)
  replace hX : Ok X RX2 cX2_fitsInCrossings 3 5 := hX
  unfold f_Page_fitsInCrossings at h
  refine JJ.iload_n hX 1 dX2_fitsInCrossings_0 rfl ?_
  refine JJ.iconst (v := 4) hX dX2_fitsInCrossings_1 (by decide) ?_
  refine JJ.idiv hX dX2_fitsInCrossings_2 (by decide) ?_
  refine JJ.iconst (v := 1) hX dX2_fitsInCrossings_3 (by decide) ?_
  refine JJ.iadd hX dX2_fitsInCrossings_4 ?_
  refine JJ.istore_n (ls' := [(0, .ref (xad X 1)), (1, .int p1), (2, .int ((p1 / (4 : Int32)) + (1 : Int32)))]) hX dX2_fitsInCrossings_5 (by decide) rfl rfl ?_
  refine JJ.iload_n hX 1 dX2_fitsInCrossings_6 rfl ?_
  refine JJ.iconst (v := 4) hX dX2_fitsInCrossings_7 (by decide) ?_
  refine JJ.irem hX dX2_fitsInCrossings_8 (by decide) ?_
  by_cases c1 : (p1 - p1 / (4 : Int32) * (4 : Int32)) = (0 : Int32)
  · replace h := ipos c1 h
    refine JJ.lookup (off := 27) (tgt := 36) hX dX2_fitsInCrossings_9 (by decide) (by rw [c1]; rfl) (by decide) ?_
    refine JJ.aload_n hX 0 dX2_fitsInCrossings_36 rfl ?_
    refine JJ.iload_n hX 1 dX2_fitsInCrossings_37 rfl ?_
    refine JJ.callVi hX (ct_Page_codeAt _ _ _ rfl) cal_yX2_codeAt cav_yX2_codeAt lm_RX2_41 rfl rfl rfl (Rcv.obj hX (ci := 2) rfl rfl) (Nat.le_of_ble_eq_true rfl) ⟨by decide, by decide⟩ dX2_fitsInCrossings_38 ?_
    obtain ⟨q3, h3, h⟩ := bnd h
    refine JJ.callSi hX (ct_Page_kindOfSign _ _ _ h3) cal_yX2_kindOfSign cas_yX2_kindOfSign lm_RX2_55 rfl rfl (Nat.le_of_ble_eq_true rfl) ⟨by decide, by decide⟩ dX2_fitsInCrossings_41 ?_
    refine JJ.iconst (v := -1) hX dX2_fitsInCrossings_44 (by decide) ?_
    refine JJ.icmp_eq (tgt := 52) hX dX2_fitsInCrossings_45 (by decide) (fun c4 => ?_) (fun c4 => ?_)
    · replace h := ipos c4 h
      refine JJ.iconst (v := 0) hX dX2_fitsInCrossings_52 (by decide) ?_
      obtain rfl := Option.some.inj h
      exact JJ.zret hX hM (by decide) dX2_fitsInCrossings_53
    · replace h := ineg c4 h
      refine JJ.iconst (v := 1) hX dX2_fitsInCrossings_48 (by decide) ?_
      refine JJ.goto (tgt := 53) hX dX2_fitsInCrossings_49 (by decide) ?_
      obtain rfl := Option.some.inj h
      exact JJ.zret hX hM (by decide) dX2_fitsInCrossings_53
  · replace h := ineg c1 h
    by_cases c2 : (p1 - p1 / (4 : Int32) * (4 : Int32)) = (3 : Int32)
    · replace h := ipos c2 h
      refine JJ.lookup (off := 45) (tgt := 54) hX dX2_fitsInCrossings_9 (by decide) (by rw [c2]; rfl) (by decide) ?_
      refine JJ.aload_n hX 0 dX2_fitsInCrossings_54 rfl ?_
      refine JJ.iload_n hX 1 dX2_fitsInCrossings_55 rfl ?_
      refine JJ.callVi hX (ct_Page_codeAt _ _ _ rfl) cal_yX2_codeAt cav_yX2_codeAt lm_RX2_41 rfl rfl rfl (Rcv.obj hX (ci := 2) rfl rfl) (Nat.le_of_ble_eq_true rfl) ⟨by decide, by decide⟩ dX2_fitsInCrossings_56 ?_
      refine JJ.bipush (v := 44) hX dX2_fitsInCrossings_59 (by decide) ?_
      refine JJ.icmp_ne (tgt := 70) hX dX2_fitsInCrossings_61 (by decide) (fun c5 => ?_) (fun c5 => ?_)
      · replace h := ineg c5 h
        refine JJ.aload_n hX 0 dX2_fitsInCrossings_70 rfl ?_
        refine JJ.iload_n hX 1 dX2_fitsInCrossings_71 rfl ?_
        refine JJ.callVi hX (ct_Page_codeAt _ _ _ rfl) cal_yX2_codeAt cav_yX2_codeAt lm_RX2_41 rfl rfl rfl (Rcv.obj hX (ci := 2) rfl rfl) (Nat.le_of_ble_eq_true rfl) ⟨by decide, by decide⟩ dX2_fitsInCrossings_72 ?_
        refine JJ.bipush (v := 59) hX dX2_fitsInCrossings_75 (by decide) ?_
        refine JJ.icmp_ne (tgt := 89) hX dX2_fitsInCrossings_77 (by decide) (fun c6 => ?_) (fun c6 => ?_)
        · replace h := ineg c6 h
          refine JJ.iconst (v := 0) hX dX2_fitsInCrossings_89 (by decide) ?_
          obtain rfl := Option.some.inj h
          exact JJ.zret hX hM (by decide) dX2_fitsInCrossings_90
        · replace h := ipos c6 h
          refine JJ.iload_n hX 2 dX2_fitsInCrossings_80 rfl ?_
          refine JJ.iconst (v := 2) hX dX2_fitsInCrossings_81 (by decide) ?_
          refine JJ.icmp_lt (tgt := 89) hX dX2_fitsInCrossings_82 (by decide) (fun c7 => ?_) (fun c7 => ?_)
          · replace h := ipos c7 h
            refine JJ.iconst (v := 0) hX dX2_fitsInCrossings_89 (by decide) ?_
            obtain rfl := Option.some.inj h
            exact JJ.zret hX hM (by decide) dX2_fitsInCrossings_90
          · replace h := ineg c7 h
            refine JJ.iconst (v := 1) hX dX2_fitsInCrossings_85 (by decide) ?_
            refine JJ.goto (tgt := 90) hX dX2_fitsInCrossings_86 (by decide) ?_
            obtain rfl := Option.some.inj h
            exact JJ.zret hX hM (by decide) dX2_fitsInCrossings_90
      · replace h := ipos c5 h
        refine JJ.iload_n hX 2 dX2_fitsInCrossings_64 rfl ?_
        refine JJ.bipush (v := 6) hX dX2_fitsInCrossings_65 (by decide) ?_
        refine JJ.icmp_lt (tgt := 85) hX dX2_fitsInCrossings_67 (by decide) (fun c8 => ?_) (fun c8 => ?_)
        · replace h := ipos c8 h
          refine JJ.iconst (v := 1) hX dX2_fitsInCrossings_85 (by decide) ?_
          refine JJ.goto (tgt := 90) hX dX2_fitsInCrossings_86 (by decide) ?_
          obtain rfl := Option.some.inj h
          exact JJ.zret hX hM (by decide) dX2_fitsInCrossings_90
        · replace h := ineg c8 h
          refine JJ.aload_n hX 0 dX2_fitsInCrossings_70 rfl ?_
          refine JJ.iload_n hX 1 dX2_fitsInCrossings_71 rfl ?_
          refine JJ.callVi hX (ct_Page_codeAt _ _ _ rfl) cal_yX2_codeAt cav_yX2_codeAt lm_RX2_41 rfl rfl rfl (Rcv.obj hX (ci := 2) rfl rfl) (Nat.le_of_ble_eq_true rfl) ⟨by decide, by decide⟩ dX2_fitsInCrossings_72 ?_
          refine JJ.bipush (v := 59) hX dX2_fitsInCrossings_75 (by decide) ?_
          refine JJ.icmp_ne (tgt := 89) hX dX2_fitsInCrossings_77 (by decide) (fun c9 => ?_) (fun c9 => ?_)
          · replace h := ineg c9 h
            refine JJ.iconst (v := 0) hX dX2_fitsInCrossings_89 (by decide) ?_
            obtain rfl := Option.some.inj h
            exact JJ.zret hX hM (by decide) dX2_fitsInCrossings_90
          · replace h := ipos c9 h
            refine JJ.iload_n hX 2 dX2_fitsInCrossings_80 rfl ?_
            refine JJ.iconst (v := 2) hX dX2_fitsInCrossings_81 (by decide) ?_
            refine JJ.icmp_lt (tgt := 89) hX dX2_fitsInCrossings_82 (by decide) (fun c10 => ?_) (fun c10 => ?_)
            · replace h := ipos c10 h
              refine JJ.iconst (v := 0) hX dX2_fitsInCrossings_89 (by decide) ?_
              obtain rfl := Option.some.inj h
              exact JJ.zret hX hM (by decide) dX2_fitsInCrossings_90
            · replace h := ineg c10 h
              refine JJ.iconst (v := 1) hX dX2_fitsInCrossings_85 (by decide) ?_
              refine JJ.goto (tgt := 90) hX dX2_fitsInCrossings_86 (by decide) ?_
              obtain rfl := Option.some.inj h
              exact JJ.zret hX hM (by decide) dX2_fitsInCrossings_90
    · replace h := ineg c2 h
      refine JJ.lookup (off := 82) (tgt := 91) hX dX2_fitsInCrossings_9 (by decide) (lk_out2 (a := 0) (b := 3) (o0 := 27) (o1 := 45) c1 c2) (by decide) ?_
      refine JJ.aload_n hX 0 dX2_fitsInCrossings_91 rfl ?_
      refine JJ.iload_n hX 1 dX2_fitsInCrossings_92 rfl ?_
      refine JJ.callVi hX (ct_Page_digitAt _ _ _ rfl) cal_yX2_digitAt cav_yX2_digitAt lm_RX2_52 rfl rfl rfl (Rcv.obj hX (ci := 2) rfl rfl) (Nat.le_of_ble_eq_true rfl) ⟨by decide, by decide⟩ dX2_fitsInCrossings_93 ?_
      refine JJ.if_lt (tgt := 113) hX dX2_fitsInCrossings_96 (by decide) (fun c11 => ?_) (fun c11 => ?_)
      · replace h := ipos c11 h
        refine JJ.iconst (v := 0) hX dX2_fitsInCrossings_113 (by decide) ?_
        obtain rfl := Option.some.inj h
        exact JJ.zret hX hM (by decide) dX2_fitsInCrossings_114
      · replace h := ineg c11 h
        refine JJ.aload_n hX 0 dX2_fitsInCrossings_99 rfl ?_
        refine JJ.iload_n hX 1 dX2_fitsInCrossings_100 rfl ?_
        refine JJ.callVi hX (ct_Page_digitAt _ _ _ rfl) cal_yX2_digitAt cav_yX2_digitAt lm_RX2_52 rfl rfl rfl (Rcv.obj hX (ci := 2) rfl rfl) (Nat.le_of_ble_eq_true rfl) ⟨by decide, by decide⟩ dX2_fitsInCrossings_101 ?_
        refine JJ.bipush (v := 6) hX dX2_fitsInCrossings_104 (by decide) ?_
        refine JJ.icmp_ge (tgt := 113) hX dX2_fitsInCrossings_106 (by decide) (fun c12 => ?_) (fun c12 => ?_)
        · replace h := ipos c12 h
          refine JJ.iconst (v := 0) hX dX2_fitsInCrossings_113 (by decide) ?_
          obtain rfl := Option.some.inj h
          exact JJ.zret hX hM (by decide) dX2_fitsInCrossings_114
        · replace h := ineg c12 h
          refine JJ.iconst (v := 1) hX dX2_fitsInCrossings_109 (by decide) ?_
          refine JJ.goto (tgt := 114) hX dX2_fitsInCrossings_110 (by decide) ?_
          obtain rfl := Option.some.inj h
          exact JJ.zret hX hM (by decide) dX2_fitsInCrossings_114
set_option maxRecDepth 100000 in
theorem ct_Page_fitsAsOil (p1 : Int32) (σ : ST) (res : Int32) (h : f_Page_fitsAsOil p1 σ = res) : Ct 2 yX2_fitsAsOil cX2_fitsAsOil 2 (some .boolean) (fun ad => [.int p1, .ref (ad 1)]) σ (some (.int res)) σ := by
  refine Ct.of (ls := fun ad => [(0, .ref (ad 1)), (1, .int p1)]) (by decide +kernel) (fun ad => Nat.le_of_ble_eq_true rfl) (fun ad => rfl) (fun X hX hM => ?_)
  replace hX : Ok X RX2 cX2_fitsAsOil 2 2 := hX
  unfold f_Page_fitsAsOil at h
  refine JJ.aload_n hX 0 dX2_fitsAsOil_0 rfl ?_
  refine JJ.iload_n hX 1 dX2_fitsAsOil_1 rfl ?_
  refine JJ.iconst (v := 1) hX dX2_fitsAsOil_2 (by decide) ?_
  refine JJ.isub hX dX2_fitsAsOil_3 ?_
  refine JJ.callVi hX (ct_Page_codeAt _ _ _ rfl) cal_yX2_codeAt cav_yX2_codeAt lm_RX2_41 rfl rfl rfl (Rcv.obj hX (ci := 2) rfl rfl) (Nat.le_of_ble_eq_true rfl) ⟨by decide, by decide⟩ dX2_fitsAsOil_4 ?_
  refine JJ.bipush (v := 59) hX dX2_fitsAsOil_7 (by decide) ?_
  refine JJ.icmp_ne (tgt := 35) hX dX2_fitsAsOil_9 (by decide) (fun c1 => ?_) (fun c1 => ?_)
  · replace h := ineg c1 h
    refine JJ.iconst (v := 0) hX dX2_fitsAsOil_35 (by decide) ?_
    subst h
    exact JJ.zret hX hM (by decide) dX2_fitsAsOil_36
  · replace h := ipos c1 h
    refine JJ.aload_n hX 0 dX2_fitsAsOil_12 rfl ?_
    refine JJ.iload_n hX 1 dX2_fitsAsOil_13 rfl ?_
    refine JJ.callVi hX (ct_Page_digitAt _ _ _ rfl) cal_yX2_digitAt cav_yX2_digitAt lm_RX2_52 rfl rfl rfl (Rcv.obj hX (ci := 2) rfl rfl) (Nat.le_of_ble_eq_true rfl) ⟨by decide, by decide⟩ dX2_fitsAsOil_14 ?_
    refine JJ.iconst (v := 1) hX dX2_fitsAsOil_17 (by decide) ?_
    refine JJ.icmp_lt (tgt := 35) hX dX2_fitsAsOil_18 (by decide) (fun c2 => ?_) (fun c2 => ?_)
    · replace h := ipos c2 h
      refine JJ.iconst (v := 0) hX dX2_fitsAsOil_35 (by decide) ?_
      subst h
      exact JJ.zret hX hM (by decide) dX2_fitsAsOil_36
    · replace h := ineg c2 h
      refine JJ.aload_n hX 0 dX2_fitsAsOil_21 rfl ?_
      refine JJ.iload_n hX 1 dX2_fitsAsOil_22 rfl ?_
      refine JJ.callVi hX (ct_Page_digitAt _ _ _ rfl) cal_yX2_digitAt cav_yX2_digitAt lm_RX2_52 rfl rfl rfl (Rcv.obj hX (ci := 2) rfl rfl) (Nat.le_of_ble_eq_true rfl) ⟨by decide, by decide⟩ dX2_fitsAsOil_23 ?_
      refine JJ.bipush (v := 9) hX dX2_fitsAsOil_26 (by decide) ?_
      refine JJ.icmp_gt (tgt := 35) hX dX2_fitsAsOil_28 (by decide) (fun c3 => ?_) (fun c3 => ?_)
      · replace h := ipos c3 h
        refine JJ.iconst (v := 0) hX dX2_fitsAsOil_35 (by decide) ?_
        subst h
        exact JJ.zret hX hM (by decide) dX2_fitsAsOil_36
      · replace h := ineg c3 h
        refine JJ.iconst (v := 1) hX dX2_fitsAsOil_31 (by decide) ?_
        refine JJ.goto (tgt := 36) hX dX2_fitsAsOil_32 (by decide) ?_
        subst h
        exact JJ.zret hX hM (by decide) dX2_fitsAsOil_36
set_option maxRecDepth 100000 in
theorem lp_Page_firstMisfit_4 {X : CX} {σ : ST} (hX : Ok X RX2 cX2_firstMisfit 4 6) (res : Int32) (hM : OkM X (some .int) (some (.int res)) σ) : ∀ (n : Nat) (x1 : Int32) (x2 : Int32) (e : ((Unit) ⊕ (Int32))), f_Page_firstMisfit_L4 n x1 x2 σ = some e → (∀ v, e = .inl v → JJ X 62 [(0, .ref (xad X 1))] [] σ) → (∀ r, e = .inr r → r = res) → JJ X 4 [(0, .ref (xad X 1)), (1, .int x1), (2, .int x2)] [] σ := by
  intro n
  induction n with
  | zero =>
    intro x1 x2 e h
    rw [f_Page_firstMisfit_L4] at h
    cases h
  | succ n ih =>
    intro x1 x2 e h K Kr
    rw [f_Page_firstMisfit_L4] at h
    refine JJ.iload_n hX 2 dX2_firstMisfit_4 rfl ?_
    refine JJ.aload_n hX 0 dX2_firstMisfit_5 rfl ?_
    refine fg_X2_15_1 hX dX2_firstMisfit_6 ?_
    refine JJ.icmp_ge (tgt := 62) hX dX2_firstMisfit_9 (by decide) (fun c1 => ?_) (fun c1 => ?_)
    · replace h := ipos c1 h
      obtain rfl := Option.some.inj h
      exact JJ.sub [0] rfl (K _ rfl)
    · replace h := ineg c1 h
      refine JJ.iload_n hX 1 dX2_firstMisfit_12 rfl ?_
      refine JJ.if_eq (tgt := 24) hX dX2_firstMisfit_13 (by decide) (fun c2 => ?_) (fun c2 => ?_)
      · replace h := ipos c2 h
        refine JJ.aload_n hX 0 dX2_firstMisfit_24 rfl ?_
        refine JJ.iload_n hX 2 dX2_firstMisfit_25 rfl ?_
        obtain ⟨q3, h3, h⟩ := bnd h
        refine JJ.callVi hX (ct_Page_fitsInCrossings _ _ _ h3) cal_yX2_fitsInCrossings cav_yX2_fitsInCrossings lm_RX2_49 rfl rfl rfl (Rcv.obj hX (ci := 2) rfl rfl) (Nat.le_of_ble_eq_true rfl) ⟨by decide, by decide⟩ dX2_firstMisfit_26 ?_
        refine JJ.istore_n (ls' := [(0, .ref (xad X 1)), (1, .int x1), (2, .int x2), (3, .int q3)]) hX dX2_firstMisfit_29 (by decide) rfl rfl ?_
        refine JJ.iload_n hX 3 dX2_firstMisfit_30 rfl ?_
        refine JJ.if_ne (tgt := 36) hX dX2_firstMisfit_31 (by decide) (fun c4 => ?_) (fun c4 => ?_)
        · replace h := ineg c4 h
          refine JJ.iload_n hX 1 dX2_firstMisfit_36 rfl ?_
          refine JJ.if_ne (tgt := 50) hX dX2_firstMisfit_37 (by decide) (fun c5 => ?_) (fun c5 => ?_)
          · replace h := ineg c5 h
            refine JJ.iconst (v := 1) hX dX2_firstMisfit_50 (by decide) ?_
            refine JJ.goto (tgt := 55) hX dX2_firstMisfit_51 (by decide) ?_
            refine JJ.istore_n (ls' := [(0, .ref (xad X 1)), (1, .int (1 : Int32)), (2, .int x2), (3, .int q3)]) hX dX2_firstMisfit_55 (by decide) rfl rfl ?_
            refine JJ.iinc (v := 1) (ls' := [(0, .ref (xad X 1)), (1, .int (1 : Int32)), (2, .int (x2 + (1 : Int32))), (3, .int q3)]) hX 2 dX2_firstMisfit_56 rfl (by decide) (by decide) rfl rfl ?_
            refine JJ.goto (tgt := 4) hX dX2_firstMisfit_59 (by decide) ?_
            refine JJ.sub (ls' := [(0, .ref (xad X 1)), (1, .int (1 : Int32)), (2, .int (x2 + (1 : Int32)))]) [0, 1, 2] rfl ?_
            exact ih _ _ _ h K Kr
          · replace h := ipos c5 h
            refine JJ.aload_n hX 0 dX2_firstMisfit_40 rfl ?_
            refine JJ.iload_n hX 2 dX2_firstMisfit_41 rfl ?_
            refine JJ.callVi hX (ct_Page_codeAt _ _ _ rfl) cal_yX2_codeAt cav_yX2_codeAt lm_RX2_41 rfl rfl rfl (Rcv.obj hX (ci := 2) rfl rfl) (Nat.le_of_ble_eq_true rfl) ⟨by decide, by decide⟩ dX2_firstMisfit_42 ?_
            refine JJ.bipush (v := 59) hX dX2_firstMisfit_45 (by decide) ?_
            refine JJ.icmp_ne (tgt := 54) hX dX2_firstMisfit_47 (by decide) (fun c6 => ?_) (fun c6 => ?_)
            · replace h := ineg c6 h
              refine JJ.iconst (v := 0) hX dX2_firstMisfit_54 (by decide) ?_
              refine JJ.istore_n (ls' := [(0, .ref (xad X 1)), (1, .int (0 : Int32)), (2, .int x2), (3, .int q3)]) hX dX2_firstMisfit_55 (by decide) rfl rfl ?_
              refine JJ.iinc (v := 1) (ls' := [(0, .ref (xad X 1)), (1, .int (0 : Int32)), (2, .int (x2 + (1 : Int32))), (3, .int q3)]) hX 2 dX2_firstMisfit_56 rfl (by decide) (by decide) rfl rfl ?_
              refine JJ.goto (tgt := 4) hX dX2_firstMisfit_59 (by decide) ?_
              refine JJ.sub (ls' := [(0, .ref (xad X 1)), (1, .int (0 : Int32)), (2, .int (x2 + (1 : Int32)))]) [0, 1, 2] rfl ?_
              exact ih _ _ _ h K Kr
            · replace h := ipos c6 h
              refine JJ.iconst (v := 1) hX dX2_firstMisfit_50 (by decide) ?_
              refine JJ.goto (tgt := 55) hX dX2_firstMisfit_51 (by decide) ?_
              refine JJ.istore_n (ls' := [(0, .ref (xad X 1)), (1, .int (1 : Int32)), (2, .int x2), (3, .int q3)]) hX dX2_firstMisfit_55 (by decide) rfl rfl ?_
              refine JJ.iinc (v := 1) (ls' := [(0, .ref (xad X 1)), (1, .int (1 : Int32)), (2, .int (x2 + (1 : Int32))), (3, .int q3)]) hX 2 dX2_firstMisfit_56 rfl (by decide) (by decide) rfl rfl ?_
              refine JJ.goto (tgt := 4) hX dX2_firstMisfit_59 (by decide) ?_
              refine JJ.sub (ls' := [(0, .ref (xad X 1)), (1, .int (1 : Int32)), (2, .int (x2 + (1 : Int32)))]) [0, 1, 2] rfl ?_
              exact ih _ _ _ h K Kr
        · replace h := ipos c4 h
          refine JJ.iload_n hX 2 dX2_firstMisfit_34 rfl ?_
          have hr := Kr _ (Option.some.inj h).symm
          subst hr
          exact JJ.iret hX hM dX2_firstMisfit_35
      · replace h := ineg c2 h
        refine JJ.aload_n hX 0 dX2_firstMisfit_16 rfl ?_
        refine JJ.iload_n hX 2 dX2_firstMisfit_17 rfl ?_
        refine JJ.callVi hX (ct_Page_fitsAsOil _ _ _ rfl) cal_yX2_fitsAsOil cav_yX2_fitsAsOil lm_RX2_45 rfl rfl rfl (Rcv.obj hX (ci := 2) rfl rfl) (Nat.le_of_ble_eq_true rfl) ⟨by decide, by decide⟩ dX2_firstMisfit_18 ?_
        refine JJ.goto (tgt := 29) hX dX2_firstMisfit_21 (by decide) ?_
        refine JJ.istore_n (ls' := [(0, .ref (xad X 1)), (1, .int x1), (2, .int x2), (3, .int (f_Page_fitsAsOil x2 σ))]) hX dX2_firstMisfit_29 (by decide) rfl rfl ?_
        refine JJ.iload_n hX 3 dX2_firstMisfit_30 rfl ?_
        refine JJ.if_ne (tgt := 36) hX dX2_firstMisfit_31 (by decide) (fun c7 => ?_) (fun c7 => ?_)
        · replace h := ineg c7 h
          refine JJ.iload_n hX 1 dX2_firstMisfit_36 rfl ?_
          refine JJ.if_ne (tgt := 50) hX dX2_firstMisfit_37 (by decide) (fun c8 => ?_) (fun c8 => ?_)
          · replace h := ineg c8 h
            refine JJ.iconst (v := 1) hX dX2_firstMisfit_50 (by decide) ?_
            refine JJ.goto (tgt := 55) hX dX2_firstMisfit_51 (by decide) ?_
            refine JJ.istore_n (ls' := [(0, .ref (xad X 1)), (1, .int (1 : Int32)), (2, .int x2), (3, .int (f_Page_fitsAsOil x2 σ))]) hX dX2_firstMisfit_55 (by decide) rfl rfl ?_
            refine JJ.iinc (v := 1) (ls' := [(0, .ref (xad X 1)), (1, .int (1 : Int32)), (2, .int (x2 + (1 : Int32))), (3, .int (f_Page_fitsAsOil x2 σ))]) hX 2 dX2_firstMisfit_56 rfl (by decide) (by decide) rfl rfl ?_
            refine JJ.goto (tgt := 4) hX dX2_firstMisfit_59 (by decide) ?_
            refine JJ.sub (ls' := [(0, .ref (xad X 1)), (1, .int (1 : Int32)), (2, .int (x2 + (1 : Int32)))]) [0, 1, 2] rfl ?_
            exact ih _ _ _ h K Kr
          · replace h := ipos c8 h
            refine JJ.aload_n hX 0 dX2_firstMisfit_40 rfl ?_
            refine JJ.iload_n hX 2 dX2_firstMisfit_41 rfl ?_
            refine JJ.callVi hX (ct_Page_codeAt _ _ _ rfl) cal_yX2_codeAt cav_yX2_codeAt lm_RX2_41 rfl rfl rfl (Rcv.obj hX (ci := 2) rfl rfl) (Nat.le_of_ble_eq_true rfl) ⟨by decide, by decide⟩ dX2_firstMisfit_42 ?_
            refine JJ.bipush (v := 59) hX dX2_firstMisfit_45 (by decide) ?_
            refine JJ.icmp_ne (tgt := 54) hX dX2_firstMisfit_47 (by decide) (fun c9 => ?_) (fun c9 => ?_)
            · replace h := ineg c9 h
              refine JJ.iconst (v := 0) hX dX2_firstMisfit_54 (by decide) ?_
              refine JJ.istore_n (ls' := [(0, .ref (xad X 1)), (1, .int (0 : Int32)), (2, .int x2), (3, .int (f_Page_fitsAsOil x2 σ))]) hX dX2_firstMisfit_55 (by decide) rfl rfl ?_
              refine JJ.iinc (v := 1) (ls' := [(0, .ref (xad X 1)), (1, .int (0 : Int32)), (2, .int (x2 + (1 : Int32))), (3, .int (f_Page_fitsAsOil x2 σ))]) hX 2 dX2_firstMisfit_56 rfl (by decide) (by decide) rfl rfl ?_
              refine JJ.goto (tgt := 4) hX dX2_firstMisfit_59 (by decide) ?_
              refine JJ.sub (ls' := [(0, .ref (xad X 1)), (1, .int (0 : Int32)), (2, .int (x2 + (1 : Int32)))]) [0, 1, 2] rfl ?_
              exact ih _ _ _ h K Kr
            · replace h := ipos c9 h
              refine JJ.iconst (v := 1) hX dX2_firstMisfit_50 (by decide) ?_
              refine JJ.goto (tgt := 55) hX dX2_firstMisfit_51 (by decide) ?_
              refine JJ.istore_n (ls' := [(0, .ref (xad X 1)), (1, .int (1 : Int32)), (2, .int x2), (3, .int (f_Page_fitsAsOil x2 σ))]) hX dX2_firstMisfit_55 (by decide) rfl rfl ?_
              refine JJ.iinc (v := 1) (ls' := [(0, .ref (xad X 1)), (1, .int (1 : Int32)), (2, .int (x2 + (1 : Int32))), (3, .int (f_Page_fitsAsOil x2 σ))]) hX 2 dX2_firstMisfit_56 rfl (by decide) (by decide) rfl rfl ?_
              refine JJ.goto (tgt := 4) hX dX2_firstMisfit_59 (by decide) ?_
              refine JJ.sub (ls' := [(0, .ref (xad X 1)), (1, .int (1 : Int32)), (2, .int (x2 + (1 : Int32)))]) [0, 1, 2] rfl ?_
              exact ih _ _ _ h K Kr
        · replace h := ipos c7 h
          refine JJ.iload_n hX 2 dX2_firstMisfit_34 rfl ?_
          have hr := Kr _ (Option.some.inj h).symm
          subst hr
          exact JJ.iret hX hM dX2_firstMisfit_35
set_option maxRecDepth 100000 in
theorem ct_Page_firstMisfit (σ : ST) (res : Int32) (h : f_Page_firstMisfit σ = some res) : Ct 6 yX2_firstMisfit cX2_firstMisfit 4 (some .int) (fun ad => [.ref (ad 1)]) σ (some (.int res)) σ := by
  refine Ct.of (ls := fun ad => [(0, .ref (ad 1))]) (by decide +kernel) (fun ad => Nat.le_of_ble_eq_true rfl) (fun ad => rfl) (fun X hX hM => ?_)
  replace hX : Ok X RX2 cX2_firstMisfit 4 6 := hX
  unfold f_Page_firstMisfit at h
  refine JJ.iconst (v := 0) hX dX2_firstMisfit_0 (by decide) ?_
  refine JJ.istore_n (ls' := [(0, .ref (xad X 1)), (1, .int (0 : Int32))]) hX dX2_firstMisfit_1 (by decide) rfl rfl ?_
  refine JJ.iconst (v := 0) hX dX2_firstMisfit_2 (by decide) ?_
  refine JJ.istore_n (ls' := [(0, .ref (xad X 1)), (1, .int (0 : Int32)), (2, .int (0 : Int32))]) hX dX2_firstMisfit_3 (by decide) rfl rfl ?_
  obtain ⟨e10, h10, h⟩ := bnd h
  refine lp_Page_firstMisfit_4 hX res hM 400 _ _ _ h10 (fun v10 hv10 => ?_) (fun r10 hr10 => by subst hr10; exact Option.some.inj h)
  subst hv10
  dsimp only at h
  refine JJ.aload_n hX 0 dX2_firstMisfit_62 rfl ?_
  refine fg_X2_15_1 hX dX2_firstMisfit_63 ?_
  obtain rfl := Option.some.inj h
  exact JJ.iret hX hM dX2_firstMisfit_66
set_option maxRecDepth 100000 in
theorem ct_Page_isClosed (σ : ST) (res : Int32) (h : f_Page_isClosed σ = res) : Ct 2 yX2_isClosed cX2_isClosed 1 (some .boolean) (fun ad => [.ref (ad 1)]) σ (some (.int res)) σ := by
  refine Ct.of (ls := fun ad => [(0, .ref (ad 1))]) (by decide +kernel) (fun ad => Nat.le_of_ble_eq_true rfl) (fun ad => rfl) (fun X hX hM => ?_)
  replace hX : Ok X RX2 cX2_isClosed 1 2 := hX
  unfold f_Page_isClosed at h
  refine JJ.aload_n hX 0 dX2_isClosed_0 rfl ?_
  refine JJ.aload_n hX 0 dX2_isClosed_1 rfl ?_
  refine fg_X2_15_1 hX dX2_isClosed_2 ?_
  refine JJ.iconst (v := 2) hX dX2_isClosed_5 (by decide) ?_
  refine JJ.isub hX dX2_isClosed_6 ?_
  refine JJ.callVi hX (ct_Page_codeAt _ _ _ rfl) cal_yX2_codeAt cav_yX2_codeAt lm_RX2_41 rfl rfl rfl (Rcv.obj hX (ci := 2) rfl rfl) (Nat.le_of_ble_eq_true rfl) ⟨by decide, by decide⟩ dX2_isClosed_7 ?_
  refine JJ.bipush (v := 59) hX dX2_isClosed_10 (by decide) ?_
  refine JJ.icmp_ne (tgt := 19) hX dX2_isClosed_12 (by decide) (fun c1 => ?_) (fun c1 => ?_)
  · replace h := ineg c1 h
    refine JJ.iconst (v := 0) hX dX2_isClosed_19 (by decide) ?_
    subst h
    exact JJ.zret hX hM (by decide) dX2_isClosed_20
  · replace h := ipos c1 h
    refine JJ.iconst (v := 1) hX dX2_isClosed_15 (by decide) ?_
    refine JJ.goto (tgt := 20) hX dX2_isClosed_16 (by decide) ?_
    subst h
    exact JJ.zret hX hM (by decide) dX2_isClosed_20
set_option maxRecDepth 100000 in
theorem lp_Page_firstLeadingNowhere_9 {X : CX} {σ : ST} (hX : Ok X RX2 cX2_firstLeadingNowhere 4 2) (res : Int32) (hM : OkM X (some .int) (some (.int res)) σ) : ∀ (n : Nat) (x1 : Int32) (x2 : Int32) (e : ((Unit) ⊕ (Int32))), f_Page_firstLeadingNowhere_L9 n x1 x2 σ = some e → (∀ v, e = .inl v → JJ X 57 [(0, .ref (xad X 1))] [] σ) → (∀ r, e = .inr r → r = res) → JJ X 9 [(0, .ref (xad X 1)), (1, .int x1), (2, .int x2)] [] σ := by
  intro n
  induction n with
  | zero =>
    intro x1 x2 e h
    rw [f_Page_firstLeadingNowhere_L9] at h
    cases h
  | succ n ih =>
    intro x1 x2 e h K Kr
    rw [f_Page_firstLeadingNowhere_L9] at h
    refine JJ.iload_n hX 2 dX2_firstLeadingNowhere_9 rfl ?_
    refine JJ.iconst (v := 4) hX dX2_firstLeadingNowhere_10 (by decide) ?_
    refine JJ.iload_n hX 1 dX2_firstLeadingNowhere_11 rfl ?_
    refine JJ.imul hX dX2_firstLeadingNowhere_12 ?_
    refine JJ.icmp_ge (tgt := 57) hX dX2_firstLeadingNowhere_13 (by decide) (fun c1 => ?_) (fun c1 => ?_)
    · replace h := ipos c1 h
      obtain rfl := Option.some.inj h
      exact JJ.sub [0] rfl (K _ rfl)
    · replace h := ineg c1 h
      refine JJ.iload_n hX 2 dX2_firstLeadingNowhere_16 rfl ?_
      refine JJ.iconst (v := 4) hX dX2_firstLeadingNowhere_17 (by decide) ?_
      refine JJ.irem hX dX2_firstLeadingNowhere_18 (by decide) ?_
      refine JJ.iconst (v := 1) hX dX2_firstLeadingNowhere_19 (by decide) ?_
      refine JJ.icmp_eq (tgt := 30) hX dX2_firstLeadingNowhere_20 (by decide) (fun c2 => ?_) (fun c2 => ?_)
      · replace h := ipos c2 h
        refine JJ.iconst (v := 1) hX dX2_firstLeadingNowhere_30 (by decide) ?_
        refine JJ.goto (tgt := 35) hX dX2_firstLeadingNowhere_31 (by decide) ?_
        refine JJ.istore_n (ls' := [(0, .ref (xad X 1)), (1, .int x1), (2, .int x2), (3, .int (1 : Int32))]) hX dX2_firstLeadingNowhere_35 (by decide) rfl rfl ?_
        refine JJ.iload_n hX 3 dX2_firstLeadingNowhere_36 rfl ?_
        refine JJ.if_eq (tgt := 51) hX dX2_firstLeadingNowhere_37 (by decide) (fun c3 => absurd c3 (by decide)) (fun _ => ?_)
        refine JJ.aload_n hX 0 dX2_firstLeadingNowhere_40 rfl ?_
        refine JJ.iload_n hX 2 dX2_firstLeadingNowhere_41 rfl ?_
        refine JJ.callVi hX (ct_Page_digitAt _ _ _ rfl) cal_yX2_digitAt cav_yX2_digitAt lm_RX2_52 rfl rfl rfl (Rcv.obj hX (ci := 2) rfl rfl) (Nat.le_of_ble_eq_true rfl) ⟨by decide, by decide⟩ dX2_firstLeadingNowhere_42 ?_
        refine JJ.iload_n hX 1 dX2_firstLeadingNowhere_45 rfl ?_
        refine JJ.icmp_lt (tgt := 51) hX dX2_firstLeadingNowhere_46 (by decide) (fun c4 => ?_) (fun c4 => ?_)
        · replace h := ipos c4 h
          refine JJ.iinc (v := 1) (ls' := [(0, .ref (xad X 1)), (1, .int x1), (2, .int (x2 + (1 : Int32))), (3, .int (1 : Int32))]) hX 2 dX2_firstLeadingNowhere_51 rfl (by decide) (by decide) rfl rfl ?_
          refine JJ.goto (tgt := 9) hX dX2_firstLeadingNowhere_54 (by decide) ?_
          refine JJ.sub (ls' := [(0, .ref (xad X 1)), (1, .int x1), (2, .int (x2 + (1 : Int32)))]) [0, 1, 2] rfl ?_
          exact ih _ _ _ h K Kr
        · replace h := ineg c4 h
          refine JJ.iload_n hX 2 dX2_firstLeadingNowhere_49 rfl ?_
          have hr := Kr _ (Option.some.inj h).symm
          subst hr
          exact JJ.iret hX hM dX2_firstLeadingNowhere_50
      · replace h := ineg c2 h
        refine JJ.iload_n hX 2 dX2_firstLeadingNowhere_23 rfl ?_
        refine JJ.iconst (v := 4) hX dX2_firstLeadingNowhere_24 (by decide) ?_
        refine JJ.irem hX dX2_firstLeadingNowhere_25 (by decide) ?_
        refine JJ.iconst (v := 2) hX dX2_firstLeadingNowhere_26 (by decide) ?_
        refine JJ.icmp_ne (tgt := 34) hX dX2_firstLeadingNowhere_27 (by decide) (fun c5 => ?_) (fun c5 => ?_)
        · replace h := ineg c5 h
          refine JJ.iconst (v := 0) hX dX2_firstLeadingNowhere_34 (by decide) ?_
          refine JJ.istore_n (ls' := [(0, .ref (xad X 1)), (1, .int x1), (2, .int x2), (3, .int (0 : Int32))]) hX dX2_firstLeadingNowhere_35 (by decide) rfl rfl ?_
          refine JJ.iload_n hX 3 dX2_firstLeadingNowhere_36 rfl ?_
          refine JJ.if_eq (tgt := 51) hX dX2_firstLeadingNowhere_37 (by decide) (fun _ => ?_) (fun c6 => absurd c6 (by decide))
          refine JJ.iinc (v := 1) (ls' := [(0, .ref (xad X 1)), (1, .int x1), (2, .int (x2 + (1 : Int32))), (3, .int (0 : Int32))]) hX 2 dX2_firstLeadingNowhere_51 rfl (by decide) (by decide) rfl rfl ?_
          refine JJ.goto (tgt := 9) hX dX2_firstLeadingNowhere_54 (by decide) ?_
          refine JJ.sub (ls' := [(0, .ref (xad X 1)), (1, .int x1), (2, .int (x2 + (1 : Int32)))]) [0, 1, 2] rfl ?_
          exact ih _ _ _ h K Kr
        · replace h := ipos c5 h
          refine JJ.iconst (v := 1) hX dX2_firstLeadingNowhere_30 (by decide) ?_
          refine JJ.goto (tgt := 35) hX dX2_firstLeadingNowhere_31 (by decide) ?_
          refine JJ.istore_n (ls' := [(0, .ref (xad X 1)), (1, .int x1), (2, .int x2), (3, .int (1 : Int32))]) hX dX2_firstLeadingNowhere_35 (by decide) rfl rfl ?_
          refine JJ.iload_n hX 3 dX2_firstLeadingNowhere_36 rfl ?_
          refine JJ.if_eq (tgt := 51) hX dX2_firstLeadingNowhere_37 (by decide) (fun c7 => absurd c7 (by decide)) (fun _ => ?_)
          refine JJ.aload_n hX 0 dX2_firstLeadingNowhere_40 rfl ?_
          refine JJ.iload_n hX 2 dX2_firstLeadingNowhere_41 rfl ?_
          refine JJ.callVi hX (ct_Page_digitAt _ _ _ rfl) cal_yX2_digitAt cav_yX2_digitAt lm_RX2_52 rfl rfl rfl (Rcv.obj hX (ci := 2) rfl rfl) (Nat.le_of_ble_eq_true rfl) ⟨by decide, by decide⟩ dX2_firstLeadingNowhere_42 ?_
          refine JJ.iload_n hX 1 dX2_firstLeadingNowhere_45 rfl ?_
          refine JJ.icmp_lt (tgt := 51) hX dX2_firstLeadingNowhere_46 (by decide) (fun c8 => ?_) (fun c8 => ?_)
          · replace h := ipos c8 h
            refine JJ.iinc (v := 1) (ls' := [(0, .ref (xad X 1)), (1, .int x1), (2, .int (x2 + (1 : Int32))), (3, .int (1 : Int32))]) hX 2 dX2_firstLeadingNowhere_51 rfl (by decide) (by decide) rfl rfl ?_
            refine JJ.goto (tgt := 9) hX dX2_firstLeadingNowhere_54 (by decide) ?_
            refine JJ.sub (ls' := [(0, .ref (xad X 1)), (1, .int x1), (2, .int (x2 + (1 : Int32)))]) [0, 1, 2] rfl ?_
            exact ih _ _ _ h K Kr
          · replace h := ineg c8 h
            refine JJ.iload_n hX 2 dX2_firstLeadingNowhere_49 rfl ?_
            have hr := Kr _ (Option.some.inj h).symm
            subst hr
            exact JJ.iret hX hM dX2_firstLeadingNowhere_50
set_option maxRecDepth 100000 in
theorem ct_Page_firstLeadingNowhere (σ : ST) (res : Int32) (h : f_Page_firstLeadingNowhere σ = some res) : Ct 2 yX2_firstLeadingNowhere cX2_firstLeadingNowhere 4 (some .int) (fun ad => [.ref (ad 1)]) σ (some (.int res)) σ := by
  refine Ct.of (ls := fun ad => [(0, .ref (ad 1))]) (by decide +kernel) (fun ad => Nat.le_of_ble_eq_true rfl) (fun ad => rfl) (fun X hX hM => ?_)
  replace hX : Ok X RX2 cX2_firstLeadingNowhere 4 2 := hX
  unfold f_Page_firstLeadingNowhere at h
  refine JJ.aload_n hX 0 dX2_firstLeadingNowhere_0 rfl ?_
  refine fg_X2_15_1 hX dX2_firstLeadingNowhere_1 ?_
  refine JJ.iconst (v := 4) hX dX2_firstLeadingNowhere_4 (by decide) ?_
  refine JJ.idiv hX dX2_firstLeadingNowhere_5 (by decide) ?_
  refine JJ.istore_n (ls' := [(0, .ref (xad X 1)), (1, .int ((gI σ 101) / (4 : Int32)))]) hX dX2_firstLeadingNowhere_6 (by decide) rfl rfl ?_
  refine JJ.iconst (v := 0) hX dX2_firstLeadingNowhere_7 (by decide) ?_
  refine JJ.istore_n (ls' := [(0, .ref (xad X 1)), (1, .int ((gI σ 101) / (4 : Int32))), (2, .int (0 : Int32))]) hX dX2_firstLeadingNowhere_8 (by decide) rfl rfl ?_
  obtain ⟨e9, h9, h⟩ := bnd h
  refine lp_Page_firstLeadingNowhere_9 hX res hM 400 _ _ _ h9 (fun v9 hv9 => ?_) (fun r9 hr9 => by subst hr9; exact Option.some.inj h)
  subst hv9
  dsimp only at h
  refine JJ.aload_n hX 0 dX2_firstLeadingNowhere_57 rfl ?_
  refine fg_X2_15_1 hX dX2_firstLeadingNowhere_58 ?_
  obtain rfl := Option.some.inj h
  exact JJ.iret hX hM dX2_firstLeadingNowhere_61
set_option maxRecDepth 100000 in
theorem ct_Page_faultPlace (σ : ST) (res : Int32) (h : f_Page_faultPlace σ = some res) : Ct 7 yX2_faultPlace cX2_faultPlace 2 (some .int) (fun ad => [.ref (ad 1)]) σ (some (.int res)) σ := by
  refine Ct.of (ls := fun ad => [(0, .ref (ad 1))]) (by decide +kernel) (fun ad => Nat.le_of_ble_eq_true rfl) (fun ad => rfl) (fun X hX hM => ?_)
  replace hX : Ok X RX2 cX2_faultPlace 2 7 := hX
  unfold f_Page_faultPlace at h
  refine JJ.aload_n hX 0 dX2_faultPlace_0 rfl ?_
  obtain ⟨q1, h1, h⟩ := bnd h
  refine JJ.callVi hX (ct_Page_firstMisfit  _ _ h1) cal_yX2_firstMisfit cav_yX2_firstMisfit lm_RX2_35 rfl rfl rfl (Rcv.obj hX (ci := 2) rfl rfl) (Nat.le_of_ble_eq_true rfl) ⟨by decide, by decide⟩ dX2_faultPlace_1 ?_
  refine JJ.istore_n (ls' := [(0, .ref (xad X 1)), (1, .int q1)]) hX dX2_faultPlace_4 (by decide) rfl rfl ?_
  refine JJ.iload_n hX 1 dX2_faultPlace_5 rfl ?_
  refine JJ.aload_n hX 0 dX2_faultPlace_6 rfl ?_
  refine fg_X2_15_1 hX dX2_faultPlace_7 ?_
  refine JJ.icmp_lt (tgt := 20) hX dX2_faultPlace_10 (by decide) (fun c2 => ?_) (fun c2 => ?_)
  · replace h := ipos c2 h
    refine JJ.iload_n hX 1 dX2_faultPlace_20 rfl ?_
    obtain rfl := Option.some.inj h
    exact JJ.iret hX hM dX2_faultPlace_21
  · replace h := ineg c2 h
    refine JJ.aload_n hX 0 dX2_faultPlace_13 rfl ?_
    refine JJ.callVi hX (ct_Page_isClosed  _ _ rfl) cal_yX2_isClosed cav_yX2_isClosed lm_RX2_27 rfl rfl rfl (Rcv.obj hX (ci := 2) rfl rfl) (Nat.le_of_ble_eq_true rfl) ⟨by decide, by decide⟩ dX2_faultPlace_14 ?_
    refine JJ.if_ne (tgt := 22) hX dX2_faultPlace_17 (by decide) (fun c3 => ?_) (fun c3 => ?_)
    · replace h := ineg c3 h
      refine JJ.aload_n hX 0 dX2_faultPlace_22 rfl ?_
      obtain ⟨q4, h4, h⟩ := bnd h
      refine JJ.callVi hX (ct_Page_firstLeadingNowhere  _ _ h4) cal_yX2_firstLeadingNowhere cav_yX2_firstLeadingNowhere lm_RX2_38 rfl rfl rfl (Rcv.obj hX (ci := 2) rfl rfl) (Nat.le_of_ble_eq_true rfl) ⟨by decide, by decide⟩ dX2_faultPlace_23 ?_
      obtain rfl := Option.some.inj h
      exact JJ.iret hX hM dX2_faultPlace_26
    · replace h := ipos c3 h
      refine JJ.iload_n hX 1 dX2_faultPlace_20 rfl ?_
      obtain rfl := Option.some.inj h
      exact JJ.iret hX hM dX2_faultPlace_21
set_option maxRecDepth 100000 in
theorem ct_LT_fault (σ : ST) (res : Int32) (h : f_LT_fault σ = some res) : Ct 8 yX5_fault cX5_fault 1 (some .int) (fun ad => [.ref (ad 0)]) σ (some (.int res)) σ := by
  refine Ct.of (ls := fun ad => [(0, .ref (ad 0))]) (by decide +kernel) (fun ad => Nat.le_of_ble_eq_true rfl) (fun ad => rfl) (fun X hX hM => ?_)
  replace hX : Ok X RX5 cX5_fault 1 8 := hX
  unfold f_LT_fault at h
  refine JJ.aload_n hX 0 dX5_fault_0 rfl ?_
  refine fg_X5_12_0 hX dX5_fault_1 ?_
  obtain ⟨q1, h1, h⟩ := bnd h
  refine JJ.callVi hX (ct_Page_faultPlace  _ _ h1) cal_yX2_faultPlace cav_yX2_faultPlace lm_RX5_50 rfl rfl rfl (Rcv.obj hX (ci := 2) rfl rfl) (Nat.le_of_ble_eq_true rfl) ⟨by decide, by decide⟩ dX5_fault_4 ?_
  obtain rfl := Option.some.inj h
  exact JJ.iret hX hM dX5_fault_7
set_option maxRecDepth 100000 in
theorem ct_M_kindBy (p0 : Int32) (σ : ST) (res : Int32) (h : f_M_kindBy p0 = res) : Ct 0 yX6_kindBy cX6_kindBy 1 (some .int) (fun ad => [.int p0]) σ (some (.int res)) σ := by
  refine Ct.of (ls := fun ad => [(0, .int p0)]) (by decide +kernel) (fun ad => Nat.le_of_ble_eq_true rfl) (fun ad => rfl) (fun X hX hM => ?_)
  replace hX : Ok X RX6 cX6_kindBy 1 0 := hX
  unfold f_M_kindBy at h
  refine JJ.iload_n hX 0 dX6_kindBy_0 rfl ?_
  refine JJ.bipush (v := 46) hX dX6_kindBy_1 (by decide) ?_
  refine JJ.icmp_ne (tgt := 10) hX dX6_kindBy_3 (by decide) (fun c1 => ?_) (fun c1 => ?_)
  · replace h := ineg c1 h
    refine JJ.iload_n hX 0 dX6_kindBy_10 rfl ?_
    refine JJ.bipush (v := 100) hX dX6_kindBy_11 (by decide) ?_
    refine JJ.icmp_ne (tgt := 20) hX dX6_kindBy_13 (by decide) (fun c2 => ?_) (fun c2 => ?_)
    · replace h := ineg c2 h
      refine JJ.iload_n hX 0 dX6_kindBy_20 rfl ?_
      refine JJ.bipush (v := 115) hX dX6_kindBy_21 (by decide) ?_
      refine JJ.icmp_ne (tgt := 30) hX dX6_kindBy_23 (by decide) (fun c3 => ?_) (fun c3 => ?_)
      · replace h := ineg c3 h
        refine JJ.iload_n hX 0 dX6_kindBy_30 rfl ?_
        refine JJ.bipush (v := 98) hX dX6_kindBy_31 (by decide) ?_
        refine JJ.icmp_ne (tgt := 40) hX dX6_kindBy_33 (by decide) (fun c4 => ?_) (fun c4 => ?_)
        · replace h := ineg c4 h
          refine JJ.iload_n hX 0 dX6_kindBy_40 rfl ?_
          refine JJ.bipush (v := 119) hX dX6_kindBy_41 (by decide) ?_
          refine JJ.icmp_ne (tgt := 50) hX dX6_kindBy_43 (by decide) (fun c5 => ?_) (fun c5 => ?_)
          · replace h := ineg c5 h
            refine JJ.iconst (v := -1) hX dX6_kindBy_50 (by decide) ?_
            subst h
            exact JJ.iret hX hM dX6_kindBy_51
          · replace h := ipos c5 h
            refine JJ.iconst (v := 4) hX dX6_kindBy_46 (by decide) ?_
            refine JJ.goto (tgt := 51) hX dX6_kindBy_47 (by decide) ?_
            subst h
            exact JJ.iret hX hM dX6_kindBy_51
        · replace h := ipos c4 h
          refine JJ.iconst (v := 3) hX dX6_kindBy_36 (by decide) ?_
          refine JJ.goto (tgt := 51) hX dX6_kindBy_37 (by decide) ?_
          subst h
          exact JJ.iret hX hM dX6_kindBy_51
      · replace h := ipos c3 h
        refine JJ.iconst (v := 2) hX dX6_kindBy_26 (by decide) ?_
        refine JJ.goto (tgt := 51) hX dX6_kindBy_27 (by decide) ?_
        subst h
        exact JJ.iret hX hM dX6_kindBy_51
    · replace h := ipos c2 h
      refine JJ.iconst (v := 1) hX dX6_kindBy_16 (by decide) ?_
      refine JJ.goto (tgt := 51) hX dX6_kindBy_17 (by decide) ?_
      subst h
      exact JJ.iret hX hM dX6_kindBy_51
  · replace h := ipos c1 h
    refine JJ.iconst (v := 0) hX dX6_kindBy_6 (by decide) ?_
    refine JJ.goto (tgt := 51) hX dX6_kindBy_7 (by decide) ?_
    subst h
    exact JJ.iret hX hM dX6_kindBy_51
set_option maxRecDepth 100000 in
theorem ct_M_go (p1 : Int32) (σ : ST) (res : Int32 × ST) (h : f_M_go p1 σ = some res) : Ct 1 yX6_go cX6_go 4 (some .boolean) (fun ad => [.int p1, .ref (ad 31)]) σ (some (.int res.1)) res.2 := by
  refine Ct.of (ls := fun ad => [(0, .ref (ad 31)), (1, .int p1)]) (by decide +kernel) (fun ad => Nat.le_of_ble_eq_true rfl) (fun ad => rfl) (fun X hX hM => ?_)
  replace hX : Ok X RX6 cX6_go 4 1 := hX
  unfold f_M_go at h
  refine JJ.iload_n hX 1 dX6_go_0 rfl ?_
  refine JJ.bipush (v := 48) hX dX6_go_1 (by decide) ?_
  refine JJ.isub hX dX6_go_3 ?_
  refine JJ.istore_n (ls' := [(0, .ref (xad X 31)), (1, .int p1), (2, .int (p1 - (48 : Int32)))]) hX dX6_go_4 (by decide) rfl rfl ?_
  refine JJ.aload_n hX 0 dX6_go_5 rfl ?_
  refine fg_X6_56_31 hX dX6_go_6 ?_
  refine JJ.istore_n (ls' := [(0, .ref (xad X 31)), (1, .int p1), (2, .int (p1 - (48 : Int32))), (3, .int (gI σ 3105))]) hX dX6_go_9 (by decide) rfl rfl ?_
  refine JJ.aload_n hX 0 dX6_go_10 rfl ?_
  refine JJ.dup hX dX6_go_11 rfl ?_
  refine fg_X6_56_31 hX dX6_go_12 ?_
  refine JJ.iconst (v := 1) hX dX6_go_15 (by decide) ?_
  refine JJ.iadd hX dX6_go_16 ?_
  refine fp_X6_56_31 hX dX6_go_17 ?_
  refine JJ.iload_n hX 3 dX6_go_20 rfl ?_
  by_cases c1 : (gI σ 3105) = (0 : Int32)
  · replace h := ipos c1 h
    refine JJ.tableIn (v := 0) (tgt := 56) hX c1 dX6_go_21 (by decide) (by decide) rfl (by decide) ?_
    refine JJ.aload_n hX 0 dX6_go_56 rfl ?_
    refine fg_X6_13_31 hX dX6_go_57 ?_
    refine JJ.iconst (v := 3) hX dX6_go_60 (by decide) ?_
    refine JJ.aload_n hX 0 dX6_go_61 rfl ?_
    refine fg_X6_59_31 hX dX6_go_62 ?_
    refine JJ.imul hX dX6_go_65 ?_
    refine JJ.iload_n hX 1 dX6_go_66 rfl ?_
    refine JJ.callSi hX (ct_M_kindBy _ _ _ rfl) cal_yX6_kindBy cas_yX6_kindBy lm_RX6_62 rfl rfl (Nat.le_of_ble_eq_true rfl) ⟨by decide, by decide⟩ dX6_go_67 ?_
    obtain ⟨c2, h⟩ := gte h
    refine ast_33 hX c2 dX6_go_70 ?_
    refine JJ.iload_n hX 1 dX6_go_71 rfl ?_
    refine JJ.callSi hX (ct_M_kindBy _ _ _ rfl) cal_yX6_kindBy cas_yX6_kindBy lm_RX6_62 rfl rfl (Nat.le_of_ble_eq_true rfl) ⟨by decide, by decide⟩ dX6_go_72 ?_
    refine JJ.iconst (v := -1) hX dX6_go_75 (by decide) ?_
    refine JJ.icmp_eq (tgt := 83) hX dX6_go_76 (by decide) (fun c3 => ?_) (fun c3 => ?_)
    · replace h := ipos c3 h
      refine JJ.iconst (v := 0) hX dX6_go_83 (by decide) ?_
      obtain rfl := Option.some.inj h
      exact JJ.zret hX hM (by decide) dX6_go_84
    · replace h := ineg c3 h
      refine JJ.iconst (v := 1) hX dX6_go_79 (by decide) ?_
      refine JJ.goto (tgt := 84) hX dX6_go_80 (by decide) ?_
      obtain rfl := Option.some.inj h
      exact JJ.zret hX hM (by decide) dX6_go_84
  · replace h := ineg c1 h
    by_cases c4 : (gI σ 3105) = (1 : Int32)
    · replace h := ipos c4 h
      refine JJ.tableIn (v := 1) (tgt := 85) hX c4 dX6_go_21 (by decide) (by decide) rfl (by decide) ?_
      refine JJ.aload_n hX 0 dX6_go_85 rfl ?_
      refine fg_X6_13_31 hX dX6_go_86 ?_
      refine JJ.iconst (v := 3) hX dX6_go_89 (by decide) ?_
      refine JJ.aload_n hX 0 dX6_go_90 rfl ?_
      refine fg_X6_59_31 hX dX6_go_91 ?_
      refine JJ.imul hX dX6_go_94 ?_
      refine JJ.iconst (v := 1) hX dX6_go_95 (by decide) ?_
      refine JJ.iadd hX dX6_go_96 ?_
      refine JJ.iload_n hX 2 dX6_go_97 rfl ?_
      obtain ⟨c5, h⟩ := gte h
      refine ast_33 hX c5 dX6_go_98 ?_
      refine JJ.iload_n hX 2 dX6_go_99 rfl ?_
      refine JJ.i2l hX dX6_go_100 ?_
      refine JJ.lconst (v := 0) hX dX6_go_101 (by decide) ?_
      refine JJ.ldc2 hX lc_RX6_66 dX6_go_102 ?_
      refine JJ.callSi hX (ct_M_in _ _ _ _ _ rfl) cal_yX6_in cas_yX6_in lm_RX6_49 rfl rfl (Nat.le_of_ble_eq_true rfl) ⟨by decide, by decide⟩ dX6_go_105 ?_
      obtain rfl := Option.some.inj h
      exact JJ.bret hX hM dX6_go_108
    · replace h := ineg c4 h
      by_cases c6 : (gI σ 3105) = (2 : Int32)
      · replace h := ipos c6 h
        refine JJ.tableIn (v := 2) (tgt := 109) hX c6 dX6_go_21 (by decide) (by decide) rfl (by decide) ?_
        refine JJ.aload_n hX 0 dX6_go_109 rfl ?_
        refine fg_X6_13_31 hX dX6_go_110 ?_
        refine JJ.iconst (v := 3) hX dX6_go_113 (by decide) ?_
        refine JJ.aload_n hX 0 dX6_go_114 rfl ?_
        refine fg_X6_59_31 hX dX6_go_115 ?_
        refine JJ.imul hX dX6_go_118 ?_
        refine JJ.iconst (v := 2) hX dX6_go_119 (by decide) ?_
        refine JJ.iadd hX dX6_go_120 ?_
        refine JJ.iload_n hX 2 dX6_go_121 rfl ?_
        obtain ⟨c7, h⟩ := gte h
        refine ast_33 hX c7 dX6_go_122 ?_
        refine JJ.aload_n hX 0 dX6_go_123 rfl ?_
        refine JJ.dup hX dX6_go_124 rfl ?_
        refine fg_X6_59_31 hX dX6_go_125 ?_
        refine JJ.iconst (v := 1) hX dX6_go_128 (by decide) ?_
        refine JJ.iadd hX dX6_go_129 ?_
        refine fp_X6_59_31 hX dX6_go_130 ?_
        refine JJ.iload_n hX 2 dX6_go_133 rfl ?_
        refine JJ.i2l hX dX6_go_134 ?_
        refine JJ.lconst (v := 0) hX dX6_go_135 (by decide) ?_
        refine JJ.ldc2 hX lc_RX6_66 dX6_go_136 ?_
        refine JJ.callSi hX (ct_M_in _ _ _ _ _ rfl) cal_yX6_in cas_yX6_in lm_RX6_49 rfl rfl (Nat.le_of_ble_eq_true rfl) ⟨by decide, by decide⟩ dX6_go_139 ?_
        obtain rfl := Option.some.inj h
        exact JJ.bret hX hM dX6_go_142
      · replace h := ineg c6 h
        by_cases c8 : (gI σ 3105) = (3 : Int32)
        · replace h := ipos c8 h
          refine JJ.tableIn (v := 3) (tgt := 143) hX c8 dX6_go_21 (by decide) (by decide) rfl (by decide) ?_
          refine JJ.aload_n hX 0 dX6_go_143 rfl ?_
          refine JJ.iload_n hX 1 dX6_go_144 rfl ?_
          refine JJ.bipush (v := 44) hX dX6_go_145 (by decide) ?_
          refine JJ.icmp_ne (tgt := 154) hX dX6_go_147 (by decide) (fun c9 => ?_) (fun c9 => ?_)
          · replace h := ineg c9 h
            refine JJ.iconst (v := 4) hX dX6_go_154 (by decide) ?_
            refine fp_X6_56_31 hX dX6_go_155 ?_
            refine JJ.iload_n hX 1 dX6_go_158 rfl ?_
            refine JJ.bipush (v := 44) hX dX6_go_159 (by decide) ?_
            refine JJ.icmp_ne (tgt := 181) hX dX6_go_161 (by decide) (fun c10 => ?_) (fun c10 => ?_)
            · replace h := ineg c10 h
              refine JJ.iload_n hX 1 dX6_go_181 rfl ?_
              refine JJ.bipush (v := 59) hX dX6_go_182 (by decide) ?_
              refine JJ.icmp_ne (tgt := 199) hX dX6_go_184 (by decide) (fun c11 => ?_) (fun c11 => ?_)
              · replace h := ineg c11 h
                refine JJ.iconst (v := 0) hX dX6_go_199 (by decide) ?_
                obtain rfl := Option.some.inj h
                exact JJ.zret hX hM (by decide) dX6_go_200
              · replace h := ipos c11 h
                refine JJ.aload_n hX 0 dX6_go_187 rfl ?_
                refine fg_X6_59_31 hX dX6_go_188 ?_
                refine JJ.iconst (v := 1) hX dX6_go_191 (by decide) ?_
                refine JJ.icmp_le (tgt := 199) hX dX6_go_192 (by decide) (fun c12 => ?_) (fun c12 => ?_)
                · replace h := ipos c12 h
                  refine JJ.iconst (v := 0) hX dX6_go_199 (by decide) ?_
                  obtain rfl := Option.some.inj h
                  exact JJ.zret hX hM (by decide) dX6_go_200
                · replace h := ineg c12 h
                  refine JJ.iconst (v := 1) hX dX6_go_195 (by decide) ?_
                  refine JJ.goto (tgt := 200) hX dX6_go_196 (by decide) ?_
                  obtain rfl := Option.some.inj h
                  exact JJ.zret hX hM (by decide) dX6_go_200
            · replace h := ipos c10 h
              refine JJ.aload_n hX 0 dX6_go_164 rfl ?_
              refine fg_X6_59_31 hX dX6_go_165 ?_
              refine JJ.bipush (v := 6) hX dX6_go_168 (by decide) ?_
              refine JJ.icmp_ge (tgt := 177) hX dX6_go_170 (by decide) (fun c13 => ?_) (fun c13 => ?_)
              · replace h := ipos c13 h
                refine JJ.iconst (v := 0) hX dX6_go_177 (by decide) ?_
                refine JJ.goto (tgt := 200) hX dX6_go_178 (by decide) ?_
                obtain rfl := Option.some.inj h
                exact JJ.zret hX hM (by decide) dX6_go_200
              · replace h := ineg c13 h
                refine JJ.iconst (v := 1) hX dX6_go_173 (by decide) ?_
                refine JJ.goto (tgt := 200) hX dX6_go_174 (by decide) ?_
                obtain rfl := Option.some.inj h
                exact JJ.zret hX hM (by decide) dX6_go_200
          · replace h := ipos c9 h
            refine JJ.iconst (v := 0) hX dX6_go_150 (by decide) ?_
            refine JJ.goto (tgt := 155) hX dX6_go_151 (by decide) ?_
            refine fp_X6_56_31 hX dX6_go_155 ?_
            refine JJ.iload_n hX 1 dX6_go_158 rfl ?_
            refine JJ.bipush (v := 44) hX dX6_go_159 (by decide) ?_
            refine JJ.icmp_ne (tgt := 181) hX dX6_go_161 (by decide) (fun c14 => ?_) (fun c14 => ?_)
            · replace h := ineg c14 h
              refine JJ.iload_n hX 1 dX6_go_181 rfl ?_
              refine JJ.bipush (v := 59) hX dX6_go_182 (by decide) ?_
              refine JJ.icmp_ne (tgt := 199) hX dX6_go_184 (by decide) (fun c15 => ?_) (fun c15 => ?_)
              · replace h := ineg c15 h
                refine JJ.iconst (v := 0) hX dX6_go_199 (by decide) ?_
                obtain rfl := Option.some.inj h
                exact JJ.zret hX hM (by decide) dX6_go_200
              · replace h := ipos c15 h
                refine JJ.aload_n hX 0 dX6_go_187 rfl ?_
                refine fg_X6_59_31 hX dX6_go_188 ?_
                refine JJ.iconst (v := 1) hX dX6_go_191 (by decide) ?_
                refine JJ.icmp_le (tgt := 199) hX dX6_go_192 (by decide) (fun c16 => ?_) (fun c16 => ?_)
                · replace h := ipos c16 h
                  refine JJ.iconst (v := 0) hX dX6_go_199 (by decide) ?_
                  obtain rfl := Option.some.inj h
                  exact JJ.zret hX hM (by decide) dX6_go_200
                · replace h := ineg c16 h
                  refine JJ.iconst (v := 1) hX dX6_go_195 (by decide) ?_
                  refine JJ.goto (tgt := 200) hX dX6_go_196 (by decide) ?_
                  obtain rfl := Option.some.inj h
                  exact JJ.zret hX hM (by decide) dX6_go_200
            · replace h := ipos c14 h
              refine JJ.aload_n hX 0 dX6_go_164 rfl ?_
              refine fg_X6_59_31 hX dX6_go_165 ?_
              refine JJ.bipush (v := 6) hX dX6_go_168 (by decide) ?_
              refine JJ.icmp_ge (tgt := 177) hX dX6_go_170 (by decide) (fun c17 => ?_) (fun c17 => ?_)
              · replace h := ipos c17 h
                refine JJ.iconst (v := 0) hX dX6_go_177 (by decide) ?_
                refine JJ.goto (tgt := 200) hX dX6_go_178 (by decide) ?_
                obtain rfl := Option.some.inj h
                exact JJ.zret hX hM (by decide) dX6_go_200
              · replace h := ineg c17 h
                refine JJ.iconst (v := 1) hX dX6_go_173 (by decide) ?_
                refine JJ.goto (tgt := 200) hX dX6_go_174 (by decide) ?_
                obtain rfl := Option.some.inj h
                exact JJ.zret hX hM (by decide) dX6_go_200
        · replace h := ineg c8 h
          by_cases c18 : (gI σ 3105) = (4 : Int32)
          · replace h := ipos c18 h
            refine JJ.tableIn (v := 4) (tgt := 201) hX c18 dX6_go_21 (by decide) (by decide) rfl (by decide) ?_
            refine JJ.aload_n hX 0 dX6_go_201 rfl ?_
            refine JJ.iload_n hX 2 dX6_go_202 rfl ?_
            refine fp_X6_68_31 hX dX6_go_203 ?_
            refine JJ.iload_n hX 2 dX6_go_206 rfl ?_
            refine JJ.i2l hX dX6_go_207 ?_
            refine JJ.lconst (v := 1) hX dX6_go_208 (by decide) ?_
            refine JJ.ldc2 hX lc_RX6_71 dX6_go_209 ?_
            refine JJ.callSi hX (ct_M_in _ _ _ _ _ rfl) cal_yX6_in cas_yX6_in lm_RX6_49 rfl rfl (Nat.le_of_ble_eq_true rfl) ⟨by decide, by decide⟩ dX6_go_212 ?_
            obtain rfl := Option.some.inj h
            exact JJ.bret hX hM dX6_go_215
          · replace h := ineg c18 h
            refine JJ.tableOut (tgt := 216) hX dX6_go_21 (sw_out (n := 4) (fun k hk => by
              rcases k with _|_|_|_|_|k
              · exact c1
              · exact c4
              · exact c6
              · exact c8
              · exact c18
              · exact absurd hk (by omega)) (by decide)) (by decide) ?_
            refine JJ.iconst (v := 0) hX dX6_go_216 (by decide) ?_
            obtain rfl := Option.some.inj h
            exact JJ.zret hX hM (by decide) dX6_go_217
