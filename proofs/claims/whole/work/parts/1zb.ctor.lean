theorem dfl_0 : ∀ j, j < 8 → defaultValue (tyX0 j) = vp_V [.int 0, .null, .null, .null, .null, .int 0, .null, .null] j := by
  intro j hj
  rcases j with _|_|_|_|_|_|_|_|j
  · rfl
  · rfl
  · rfl
  · rfl
  · rfl
  · rfl
  · rfl
  · rfl
  · exact absurd hj (by omega)
theorem dfl_1 : ∀ j, j < 5 → defaultValue (tyX1 j) = vp_V [.int 0, .int 0, .null, .null, .null] j := by
  intro j hj
  rcases j with _|_|_|_|_|j
  · rfl
  · rfl
  · rfl
  · rfl
  · rfl
  · exact absurd hj (by omega)
theorem dfl_2 : ∀ j, j < 2 → defaultValue (tyX2 j) = vp_V [.null, .int 0] j := by
  intro j hj
  rcases j with _|_|j
  · rfl
  · rfl
  · exact absurd hj (by omega)
theorem dfl_3 : ∀ j, j < 1 → defaultValue (tyX3 j) = vp_V [.null] j := by
  intro j hj
  rcases j with _|j
  · rfl
  · exact absurd hj (by omega)
theorem dfl_4 : ∀ j, j < 6 → defaultValue (tyX4 j) = vp_V [.null, .null, .null, .null, .null, .null] j := by
  intro j hj
  rcases j with _|_|_|_|_|_|j
  · rfl
  · rfl
  · rfl
  · rfl
  · rfl
  · rfl
  · exact absurd hj (by omega)
theorem dfl_5 : ∀ j, j < 7 → defaultValue (tyX5 j) = vp_V [.null, .null, .null, .null, .null, .int 0, .int 0] j := by
  intro j hj
  rcases j with _|_|_|_|_|_|_|j
  · rfl
  · rfl
  · rfl
  · rfl
  · rfl
  · rfl
  · rfl
  · exact absurd hj (by omega)
theorem dfl_6 : ∀ j, j < 25 → defaultValue (tyX6 j) = vp_V [.null, .int 0, .null, .int 0, .int 0, .int 0, .int 0, .int 0, .int 0, .null, .null, .int 0, .null, .null, .null, .null, .int 0, .null, .int 0, .int 0, .int 0, .int 0, .null, .null, .long 0] j := by
  intro j hj
  rcases j with _|_|_|_|_|_|_|_|_|_|_|_|_|_|_|_|_|_|_|_|_|_|_|_|_|j
  · rfl
  · rfl
  · rfl
  · rfl
  · rfl
  · rfl
  · rfl
  · rfl
  · rfl
  · rfl
  · rfl
  · rfl
  · rfl
  · rfl
  · rfl
  · rfl
  · rfl
  · rfl
  · rfl
  · rfl
  · rfl
  · rfl
  · rfl
  · rfl
  · rfl
  · exact absurd hj (by omega)
def wn_RX2 (h0 : Nat) (cA : ClassId) (qs : List Nat) : va_W := [(h0, .inr (2, [.ref (qs.getD 0 0), .int 0])), ((qs.getD 0 0), .inl (cA, 28, .inl (fun _ => 0)))]
set_option maxRecDepth 100000 in
set_option maxHeartbeats 4000000 in
theorem cn_RX2 : Cn 1 yX2_init cX2_init 1 2 [.null, .int 0] [] 1 (wn_RX2) 1 28 := by
  refine Cn.of (ls := fun h0 => [(0, .ref h0)]) (by decide +kernel) rfl (fun _ => Nat.le_of_ble_eq_true rfl) (fun _ => rfl) (fun X h0 hX hM => ?_)
  replace hX : OkC X RX2 cX2_init 1 1 1 28 := hX
  refine JC.aload_n hX 0 dX2_init_0 rfl ?_
  refine JC.objInit hX lm_RX2_3 oi_inst oi_code dX2_init_1 (by decide) ?_
  refine JC.aload_n hX 0 dX2_init_4 rfl ?_
  refine JC.bipush (v := 28) hX dX2_init_5 (by decide) ?_
  refine JC.newa (N := 28) hX arr_int (by decide) (by decide) (by decide) (by decide) (by decide) dX2_init_7 (fun q1 => ?_)
  show JC X 9 [(0, .ref h0)] [.ref q1, .ref h0] [(h0, .inr (2, [.null, .int 0])), (q1, .inl ((xcA X), 28, .inl (fun _ => 0)))] 1 28
  refine JC.putF (k := 0) (ty := .array .int) (fs' := [.ref q1, .int 0]) hX hM.2.1 rfl inG2 tyX2_ok nmX2 (by decide) lf_RX2_9 rfl rfl (by decide +kernel) rfl rfl (Nat.le_of_ble_eq_true rfl) rfl dX2_init_9 ?_
  exact JC.vret hX hM [q1] rfl rfl dX2_init_12
def wn_RX1 (h0 : Nat) (cA : ClassId) (qs : List Nat) : va_W := [(h0, .inr (1, [.int 0, .int 0, .ref (qs.getD 0 0), .ref (qs.getD 1 0), .ref (qs.getD 2 0)])), ((qs.getD 0 0), .inl (cA, 6, .inl (fun _ => 0))), ((qs.getD 1 0), .inl (cA, 6, .inl (fun _ => 0))), ((qs.getD 2 0), .inl (cA, 6, .inl (fun _ => 0)))]
set_option maxRecDepth 100000 in
set_option maxHeartbeats 4000000 in
theorem cn_RX1 : Cn 1 yX1_init cX1_init 1 1 [.int 0, .int 0, .null, .null, .null] [] 3 (wn_RX1) 3 18 := by
  refine Cn.of (ls := fun h0 => [(0, .ref h0)]) (by decide +kernel) rfl (fun _ => Nat.le_of_ble_eq_true rfl) (fun _ => rfl) (fun X h0 hX hM => ?_)
  replace hX : OkC X RX1 cX1_init 1 1 3 18 := hX
  refine JC.aload_n hX 0 dX1_init_0 rfl ?_
  refine JC.objInit hX lm_RX1_3 oi_inst oi_code dX1_init_1 (by decide) ?_
  refine JC.aload_n hX 0 dX1_init_4 rfl ?_
  refine JC.bipush (v := 6) hX dX1_init_5 (by decide) ?_
  refine JC.newa (N := 6) hX arr_int (by decide) (by decide) (by decide) (by decide) (by decide) dX1_init_7 (fun q1 => ?_)
  show JC X 9 [(0, .ref h0)] [.ref q1, .ref h0] [(h0, .inr (1, [.int 0, .int 0, .null, .null, .null])), (q1, .inl ((xcA X), 6, .inl (fun _ => 0)))] 1 6
  refine JC.putF (k := 2) (ty := .array .int) (fs' := [.int 0, .int 0, .ref q1, .null, .null]) hX hM.2.1 rfl inG1 tyX1_ok nmX1 (by decide) lf_RX1_9 rfl rfl (by decide +kernel) rfl rfl (Nat.le_of_ble_eq_true rfl) rfl dX1_init_9 ?_
  refine JC.aload_n hX 0 dX1_init_12 rfl ?_
  refine JC.bipush (v := 6) hX dX1_init_13 (by decide) ?_
  refine JC.newa (N := 6) hX arr_int (by decide) (by decide) (by decide) (by decide) (by decide) dX1_init_15 (fun q2 => ?_)
  show JC X 17 [(0, .ref h0)] [.ref q2, .ref h0] [(h0, .inr (1, [.int 0, .int 0, .ref q1, .null, .null])), (q1, .inl ((xcA X), 6, .inl (fun _ => 0))), (q2, .inl ((xcA X), 6, .inl (fun _ => 0)))] 2 12
  refine JC.putF (k := 3) (ty := .array .int) (fs' := [.int 0, .int 0, .ref q1, .ref q2, .null]) hX hM.2.1 rfl inG1 tyX1_ok nmX1 (by decide) lf_RX1_15 rfl rfl (by decide +kernel) rfl rfl (Nat.le_of_ble_eq_true rfl) rfl dX1_init_17 ?_
  refine JC.aload_n hX 0 dX1_init_20 rfl ?_
  refine JC.bipush (v := 6) hX dX1_init_21 (by decide) ?_
  refine JC.newa (N := 6) hX arr_int (by decide) (by decide) (by decide) (by decide) (by decide) dX1_init_23 (fun q3 => ?_)
  show JC X 25 [(0, .ref h0)] [.ref q3, .ref h0] [(h0, .inr (1, [.int 0, .int 0, .ref q1, .ref q2, .null])), (q1, .inl ((xcA X), 6, .inl (fun _ => 0))), (q2, .inl ((xcA X), 6, .inl (fun _ => 0))), (q3, .inl ((xcA X), 6, .inl (fun _ => 0)))] 3 18
  refine JC.putF (k := 4) (ty := .array .int) (fs' := [.int 0, .int 0, .ref q1, .ref q2, .ref q3]) hX hM.2.1 rfl inG1 tyX1_ok nmX1 (by decide) lf_RX1_18 rfl rfl (by decide +kernel) rfl rfl (Nat.le_of_ble_eq_true rfl) rfl dX1_init_25 ?_
  exact JC.vret hX hM [q1, q2, q3] rfl rfl dX1_init_28
def wn_RX3 (h0 : Nat) (cA : ClassId) (qs : List Nat) : va_W := [(h0, .inr (3, [.ref (qs.getD 0 0)])), ((qs.getD 0 0), .inl (cA, 36, .inl (fun _ => 0)))]
set_option maxRecDepth 100000 in
set_option maxHeartbeats 4000000 in
theorem cn_RX3 : Cn 1 yX3_init cX3_init 1 3 [.null] [] 1 (wn_RX3) 1 36 := by
  refine Cn.of (ls := fun h0 => [(0, .ref h0)]) (by decide +kernel) rfl (fun _ => Nat.le_of_ble_eq_true rfl) (fun _ => rfl) (fun X h0 hX hM => ?_)
  replace hX : OkC X RX3 cX3_init 1 1 1 36 := hX
  refine JC.aload_n hX 0 dX3_init_0 rfl ?_
  refine JC.objInit hX lm_RX3_3 oi_inst oi_code dX3_init_1 (by decide) ?_
  refine JC.aload_n hX 0 dX3_init_4 rfl ?_
  refine JC.bipush (v := 36) hX dX3_init_5 (by decide) ?_
  refine JC.newa (N := 36) hX arr_int (by decide) (by decide) (by decide) (by decide) (by decide) dX3_init_7 (fun q1 => ?_)
  show JC X 9 [(0, .ref h0)] [.ref q1, .ref h0] [(h0, .inr (3, [.null])), (q1, .inl ((xcA X), 36, .inl (fun _ => 0)))] 1 36
  refine JC.putF (k := 0) (ty := .array .int) (fs' := [.ref q1]) hX hM.2.1 rfl inG3 tyX3_ok nmX3 (by decide) lf_RX3_9 rfl rfl (by decide +kernel) rfl rfl (Nat.le_of_ble_eq_true rfl) rfl dX3_init_9 ?_
  exact JC.vret hX hM [q1] rfl rfl dX3_init_12
def wn_RX4 (a0 : Nat) (h0 : Nat) (cA : ClassId) (qs : List Nat) : va_W := [(h0, .inr (4, [.ref a0, .ref (qs.getD 0 0), .ref (qs.getD 2 0), .ref (qs.getD 4 0), .ref (qs.getD 6 0), .ref (qs.getD 8 0)])), ((qs.getD 0 0), .inr (3, [.ref (qs.getD 1 0)])), ((qs.getD 1 0), .inl (cA, 36, .inl (fun _ => 0))), ((qs.getD 2 0), .inr (3, [.ref (qs.getD 3 0)])), ((qs.getD 3 0), .inl (cA, 36, .inl (fun _ => 0))), ((qs.getD 4 0), .inr (3, [.ref (qs.getD 5 0)])), ((qs.getD 5 0), .inl (cA, 36, .inl (fun _ => 0))), ((qs.getD 6 0), .inr (3, [.ref (qs.getD 7 0)])), ((qs.getD 7 0), .inl (cA, 36, .inl (fun _ => 0))), ((qs.getD 8 0), .inl (cA, 384, .inl (fun _ => 0)))]
set_option maxRecDepth 100000 in
set_option maxHeartbeats 4000000 in
theorem cn_RX4 (a0 : Nat) : Cn 2 yX4_init cX4_init 2 4 [.null, .null, .null, .null, .null, .null] [.ref a0] 9 (wn_RX4 a0) 9 532 := by
  refine Cn.of (ls := fun h0 => [(0, .ref h0), (1, .ref a0)]) (by decide +kernel) rfl (fun _ => Nat.le_of_ble_eq_true rfl) (fun _ => rfl) (fun X h0 hX hM => ?_)
  replace hX : OkC X RX4 cX4_init 2 2 9 532 := hX
  refine JC.aload_n hX 0 dX4_init_0 rfl ?_
  refine JC.objInit hX lm_RX4_3 oi_inst oi_code dX4_init_1 (by decide) ?_
  refine JC.aload_n hX 0 dX4_init_4 rfl ?_
  refine JC.new (ci := 3) (fs := [.null]) hX inG3 tyX3_ok lcl_RX4_9 ins_RX3 ini_RX3 rfl dfl_3 (by decide) (by decide) dX4_init_5 (fun q1 => ?_)
  show JC X 8 [(0, .ref h0), (1, .ref a0)] [.ref q1, .ref h0] [(h0, .inr (4, [.null, .null, .null, .null, .null, .null])), (q1, .inr (3, [.null]))] 1 1
  refine JC.dup hX dX4_init_8 rfl ?_
  refine JC.callIN (ws := [(h0, .inr (4, [.null, .null, .null, .null, .null, .null]))]) (st := [.ref q1, .ref h0]) hX (cn_RX3) cal_yX3_init rfl inm_yX3_init lm_RX4_11 rfl rfl (Nat.le_of_ble_eq_true rfl) ⟨by decide, by decide⟩ (by decide) (by decide) rfl dX4_init_9 (fun qs9 hqs => ?_)
  obtain ⟨q2, t2, rfl, hqs2⟩ := qs_cons hqs
  obtain rfl := qs_nil hqs2
  show JC X 12 [(0, .ref h0), (1, .ref a0)] [.ref q1, .ref h0] [(h0, .inr (4, [.null, .null, .null, .null, .null, .null])), (q1, .inr (3, [.ref q2])), (q2, .inl ((xcA X), 36, .inl (fun _ => 0)))] 2 37
  refine JC.putF (k := 1) (ty := .object "LanternTongue$Table") (fs' := [.null, .ref q1, .null, .null, .null, .null]) hX hM.2.1 rfl inG4 tyX4_ok nmX4 (by decide) lf_RX4_12 rfl rfl (by decide +kernel) rfl rfl (Nat.le_of_ble_eq_true rfl) rfl dX4_init_12 ?_
  refine JC.aload_n hX 0 dX4_init_15 rfl ?_
  refine JC.new (ci := 3) (fs := [.null]) hX inG3 tyX3_ok lcl_RX4_9 ins_RX3 ini_RX3 rfl dfl_3 (by decide) (by decide) dX4_init_16 (fun q3 => ?_)
  show JC X 19 [(0, .ref h0), (1, .ref a0)] [.ref q3, .ref h0] [(h0, .inr (4, [.null, .ref q1, .null, .null, .null, .null])), (q1, .inr (3, [.ref q2])), (q2, .inl ((xcA X), 36, .inl (fun _ => 0))), (q3, .inr (3, [.null]))] 3 38
  refine JC.dup hX dX4_init_19 rfl ?_
  refine JC.callIN (ws := [(h0, .inr (4, [.null, .ref q1, .null, .null, .null, .null])), (q1, .inr (3, [.ref q2])), (q2, .inl ((xcA X), 36, .inl (fun _ => 0)))]) (st := [.ref q3, .ref h0]) hX (cn_RX3) cal_yX3_init rfl inm_yX3_init lm_RX4_11 rfl rfl (Nat.le_of_ble_eq_true rfl) ⟨by decide, by decide⟩ (by decide) (by decide) rfl dX4_init_20 (fun qs20 hqs => ?_)
  obtain ⟨q4, t4, rfl, hqs4⟩ := qs_cons hqs
  obtain rfl := qs_nil hqs4
  show JC X 23 [(0, .ref h0), (1, .ref a0)] [.ref q3, .ref h0] [(h0, .inr (4, [.null, .ref q1, .null, .null, .null, .null])), (q1, .inr (3, [.ref q2])), (q2, .inl ((xcA X), 36, .inl (fun _ => 0))), (q3, .inr (3, [.ref q4])), (q4, .inl ((xcA X), 36, .inl (fun _ => 0)))] 4 74
  refine JC.putF (k := 2) (ty := .object "LanternTongue$Table") (fs' := [.null, .ref q1, .ref q3, .null, .null, .null]) hX hM.2.1 rfl inG4 tyX4_ok nmX4 (by decide) lf_RX4_18 rfl rfl (by decide +kernel) rfl rfl (Nat.le_of_ble_eq_true rfl) rfl dX4_init_23 ?_
  refine JC.aload_n hX 0 dX4_init_26 rfl ?_
  refine JC.new (ci := 3) (fs := [.null]) hX inG3 tyX3_ok lcl_RX4_9 ins_RX3 ini_RX3 rfl dfl_3 (by decide) (by decide) dX4_init_27 (fun q5 => ?_)
  show JC X 30 [(0, .ref h0), (1, .ref a0)] [.ref q5, .ref h0] [(h0, .inr (4, [.null, .ref q1, .ref q3, .null, .null, .null])), (q1, .inr (3, [.ref q2])), (q2, .inl ((xcA X), 36, .inl (fun _ => 0))), (q3, .inr (3, [.ref q4])), (q4, .inl ((xcA X), 36, .inl (fun _ => 0))), (q5, .inr (3, [.null]))] 5 75
  refine JC.dup hX dX4_init_30 rfl ?_
  refine JC.callIN (ws := [(h0, .inr (4, [.null, .ref q1, .ref q3, .null, .null, .null])), (q1, .inr (3, [.ref q2])), (q2, .inl ((xcA X), 36, .inl (fun _ => 0))), (q3, .inr (3, [.ref q4])), (q4, .inl ((xcA X), 36, .inl (fun _ => 0)))]) (st := [.ref q5, .ref h0]) hX (cn_RX3) cal_yX3_init rfl inm_yX3_init lm_RX4_11 rfl rfl (Nat.le_of_ble_eq_true rfl) ⟨by decide, by decide⟩ (by decide) (by decide) rfl dX4_init_31 (fun qs31 hqs => ?_)
  obtain ⟨q6, t6, rfl, hqs6⟩ := qs_cons hqs
  obtain rfl := qs_nil hqs6
  show JC X 34 [(0, .ref h0), (1, .ref a0)] [.ref q5, .ref h0] [(h0, .inr (4, [.null, .ref q1, .ref q3, .null, .null, .null])), (q1, .inr (3, [.ref q2])), (q2, .inl ((xcA X), 36, .inl (fun _ => 0))), (q3, .inr (3, [.ref q4])), (q4, .inl ((xcA X), 36, .inl (fun _ => 0))), (q5, .inr (3, [.ref q6])), (q6, .inl ((xcA X), 36, .inl (fun _ => 0)))] 6 111
  refine JC.putF (k := 3) (ty := .object "LanternTongue$Table") (fs' := [.null, .ref q1, .ref q3, .ref q5, .null, .null]) hX hM.2.1 rfl inG4 tyX4_ok nmX4 (by decide) lf_RX4_21 rfl rfl (by decide +kernel) rfl rfl (Nat.le_of_ble_eq_true rfl) rfl dX4_init_34 ?_
  refine JC.aload_n hX 0 dX4_init_37 rfl ?_
  refine JC.new (ci := 3) (fs := [.null]) hX inG3 tyX3_ok lcl_RX4_9 ins_RX3 ini_RX3 rfl dfl_3 (by decide) (by decide) dX4_init_38 (fun q7 => ?_)
  show JC X 41 [(0, .ref h0), (1, .ref a0)] [.ref q7, .ref h0] [(h0, .inr (4, [.null, .ref q1, .ref q3, .ref q5, .null, .null])), (q1, .inr (3, [.ref q2])), (q2, .inl ((xcA X), 36, .inl (fun _ => 0))), (q3, .inr (3, [.ref q4])), (q4, .inl ((xcA X), 36, .inl (fun _ => 0))), (q5, .inr (3, [.ref q6])), (q6, .inl ((xcA X), 36, .inl (fun _ => 0))), (q7, .inr (3, [.null]))] 7 112
  refine JC.dup hX dX4_init_41 rfl ?_
  refine JC.callIN (ws := [(h0, .inr (4, [.null, .ref q1, .ref q3, .ref q5, .null, .null])), (q1, .inr (3, [.ref q2])), (q2, .inl ((xcA X), 36, .inl (fun _ => 0))), (q3, .inr (3, [.ref q4])), (q4, .inl ((xcA X), 36, .inl (fun _ => 0))), (q5, .inr (3, [.ref q6])), (q6, .inl ((xcA X), 36, .inl (fun _ => 0)))]) (st := [.ref q7, .ref h0]) hX (cn_RX3) cal_yX3_init rfl inm_yX3_init lm_RX4_11 rfl rfl (Nat.le_of_ble_eq_true rfl) ⟨by decide, by decide⟩ (by decide) (by decide) rfl dX4_init_42 (fun qs42 hqs => ?_)
  obtain ⟨q8, t8, rfl, hqs8⟩ := qs_cons hqs
  obtain rfl := qs_nil hqs8
  show JC X 45 [(0, .ref h0), (1, .ref a0)] [.ref q7, .ref h0] [(h0, .inr (4, [.null, .ref q1, .ref q3, .ref q5, .null, .null])), (q1, .inr (3, [.ref q2])), (q2, .inl ((xcA X), 36, .inl (fun _ => 0))), (q3, .inr (3, [.ref q4])), (q4, .inl ((xcA X), 36, .inl (fun _ => 0))), (q5, .inr (3, [.ref q6])), (q6, .inl ((xcA X), 36, .inl (fun _ => 0))), (q7, .inr (3, [.ref q8])), (q8, .inl ((xcA X), 36, .inl (fun _ => 0)))] 8 148
  refine JC.putF (k := 4) (ty := .object "LanternTongue$Table") (fs' := [.null, .ref q1, .ref q3, .ref q5, .ref q7, .null]) hX hM.2.1 rfl inG4 tyX4_ok nmX4 (by decide) lf_RX4_24 rfl rfl (by decide +kernel) rfl rfl (Nat.le_of_ble_eq_true rfl) rfl dX4_init_45 ?_
  refine JC.aload_n hX 0 dX4_init_48 rfl ?_
  refine JC.sipush (v := 384) hX dX4_init_49 (by decide) ?_
  refine JC.newa (N := 384) hX arr_int (by decide) (by decide) (by decide) (by decide) (by decide) dX4_init_52 (fun q9 => ?_)
  show JC X 54 [(0, .ref h0), (1, .ref a0)] [.ref q9, .ref h0] [(h0, .inr (4, [.null, .ref q1, .ref q3, .ref q5, .ref q7, .null])), (q1, .inr (3, [.ref q2])), (q2, .inl ((xcA X), 36, .inl (fun _ => 0))), (q3, .inr (3, [.ref q4])), (q4, .inl ((xcA X), 36, .inl (fun _ => 0))), (q5, .inr (3, [.ref q6])), (q6, .inl ((xcA X), 36, .inl (fun _ => 0))), (q7, .inr (3, [.ref q8])), (q8, .inl ((xcA X), 36, .inl (fun _ => 0))), (q9, .inl ((xcA X), 384, .inl (fun _ => 0)))] 9 532
  refine JC.putF (k := 5) (ty := .array .int) (fs' := [.null, .ref q1, .ref q3, .ref q5, .ref q7, .ref q9]) hX hM.2.1 rfl inG4 tyX4_ok nmX4 (by decide) lf_RX4_27 rfl rfl (by decide +kernel) rfl rfl (Nat.le_of_ble_eq_true rfl) rfl dX4_init_54 ?_
  refine JC.aload_n hX 0 dX4_init_57 rfl ?_
  refine JC.aload_n hX 1 dX4_init_58 rfl ?_
  refine JC.putF (k := 0) (ty := .object "LanternTongue$Mine") (fs' := [.ref a0, .ref q1, .ref q3, .ref q5, .ref q7, .ref q9]) hX hM.2.1 rfl inG4 tyX4_ok nmX4 (by decide) lf_RX4_31 rfl rfl (by decide +kernel) rfl rfl (Nat.le_of_ble_eq_true rfl) rfl dX4_init_59 ?_
  exact JC.vret hX hM [q1, q2, q3, q4, q5, q6, q7, q8, q9] rfl rfl dX4_init_62
def wn_RX0 (h0 : Nat) (cA : ClassId) (qs : List Nat) : va_W := [(h0, .inr (0, [.int 0, .ref (qs.getD 0 0), .ref (qs.getD 1 0), .ref (qs.getD 2 0), .ref (qs.getD 3 0), .int 0, .ref (qs.getD 4 0), .ref (qs.getD 5 0)])), ((qs.getD 0 0), .inl (cA, 3, .inl (fun _ => 0))), ((qs.getD 1 0), .inl (cA, 3, .inl (fun _ => 0))), ((qs.getD 2 0), .inl (cA, 3, .inl (fun _ => 0))), ((qs.getD 3 0), .inl (cA, 3, .inl (fun _ => 0))), ((qs.getD 4 0), .inl (cA, 8, .inl (fun _ => 0))), ((qs.getD 5 0), .inl (cA, 8, .inl (fun _ => 0)))]
set_option maxRecDepth 100000 in
set_option maxHeartbeats 4000000 in
theorem cn_RX0 : Cn 1 yX0_init cX0_init 1 0 [.int 0, .null, .null, .null, .null, .int 0, .null, .null] [] 6 (wn_RX0) 6 28 := by
  refine Cn.of (ls := fun h0 => [(0, .ref h0)]) (by decide +kernel) rfl (fun _ => Nat.le_of_ble_eq_true rfl) (fun _ => rfl) (fun X h0 hX hM => ?_)
  replace hX : OkC X RX0 cX0_init 1 1 6 28 := hX
  refine JC.aload_n hX 0 dX0_init_0 rfl ?_
  refine JC.objInit hX lm_RX0_3 oi_inst oi_code dX0_init_1 (by decide) ?_
  refine JC.aload_n hX 0 dX0_init_4 rfl ?_
  refine JC.iconst (v := 3) hX dX0_init_5 (by decide) ?_
  refine JC.newa (N := 3) hX arr_int (by decide) (by decide) (by decide) (by decide) (by decide) dX0_init_6 (fun q1 => ?_)
  show JC X 8 [(0, .ref h0)] [.ref q1, .ref h0] [(h0, .inr (0, [.int 0, .null, .null, .null, .null, .int 0, .null, .null])), (q1, .inl ((xcA X), 3, .inl (fun _ => 0)))] 1 3
  refine JC.putF (k := 1) (ty := .array .int) (fs' := [.int 0, .ref q1, .null, .null, .null, .int 0, .null, .null]) hX hM.2.1 rfl inG0 tyX0_ok nmX0 (by decide) lf_RX0_9 rfl rfl (by decide +kernel) rfl rfl (Nat.le_of_ble_eq_true rfl) rfl dX0_init_8 ?_
  refine JC.aload_n hX 0 dX0_init_11 rfl ?_
  refine JC.iconst (v := 3) hX dX0_init_12 (by decide) ?_
  refine JC.newa (N := 3) hX arr_int (by decide) (by decide) (by decide) (by decide) (by decide) dX0_init_13 (fun q2 => ?_)
  show JC X 15 [(0, .ref h0)] [.ref q2, .ref h0] [(h0, .inr (0, [.int 0, .ref q1, .null, .null, .null, .int 0, .null, .null])), (q1, .inl ((xcA X), 3, .inl (fun _ => 0))), (q2, .inl ((xcA X), 3, .inl (fun _ => 0)))] 2 6
  refine JC.putF (k := 2) (ty := .array .int) (fs' := [.int 0, .ref q1, .ref q2, .null, .null, .int 0, .null, .null]) hX hM.2.1 rfl inG0 tyX0_ok nmX0 (by decide) lf_RX0_15 rfl rfl (by decide +kernel) rfl rfl (Nat.le_of_ble_eq_true rfl) rfl dX0_init_15 ?_
  refine JC.aload_n hX 0 dX0_init_18 rfl ?_
  refine JC.iconst (v := 3) hX dX0_init_19 (by decide) ?_
  refine JC.newa (N := 3) hX arr_int (by decide) (by decide) (by decide) (by decide) (by decide) dX0_init_20 (fun q3 => ?_)
  show JC X 22 [(0, .ref h0)] [.ref q3, .ref h0] [(h0, .inr (0, [.int 0, .ref q1, .ref q2, .null, .null, .int 0, .null, .null])), (q1, .inl ((xcA X), 3, .inl (fun _ => 0))), (q2, .inl ((xcA X), 3, .inl (fun _ => 0))), (q3, .inl ((xcA X), 3, .inl (fun _ => 0)))] 3 9
  refine JC.putF (k := 3) (ty := .array .int) (fs' := [.int 0, .ref q1, .ref q2, .ref q3, .null, .int 0, .null, .null]) hX hM.2.1 rfl inG0 tyX0_ok nmX0 (by decide) lf_RX0_18 rfl rfl (by decide +kernel) rfl rfl (Nat.le_of_ble_eq_true rfl) rfl dX0_init_22 ?_
  refine JC.aload_n hX 0 dX0_init_25 rfl ?_
  refine JC.iconst (v := 3) hX dX0_init_26 (by decide) ?_
  refine JC.newa (N := 3) hX arr_int (by decide) (by decide) (by decide) (by decide) (by decide) dX0_init_27 (fun q4 => ?_)
  show JC X 29 [(0, .ref h0)] [.ref q4, .ref h0] [(h0, .inr (0, [.int 0, .ref q1, .ref q2, .ref q3, .null, .int 0, .null, .null])), (q1, .inl ((xcA X), 3, .inl (fun _ => 0))), (q2, .inl ((xcA X), 3, .inl (fun _ => 0))), (q3, .inl ((xcA X), 3, .inl (fun _ => 0))), (q4, .inl ((xcA X), 3, .inl (fun _ => 0)))] 4 12
  refine JC.putF (k := 4) (ty := .array .int) (fs' := [.int 0, .ref q1, .ref q2, .ref q3, .ref q4, .int 0, .null, .null]) hX hM.2.1 rfl inG0 tyX0_ok nmX0 (by decide) lf_RX0_21 rfl rfl (by decide +kernel) rfl rfl (Nat.le_of_ble_eq_true rfl) rfl dX0_init_29 ?_
  refine JC.aload_n hX 0 dX0_init_32 rfl ?_
  refine JC.bipush (v := 8) hX dX0_init_33 (by decide) ?_
  refine JC.newa (N := 8) hX arr_int (by decide) (by decide) (by decide) (by decide) (by decide) dX0_init_35 (fun q5 => ?_)
  show JC X 37 [(0, .ref h0)] [.ref q5, .ref h0] [(h0, .inr (0, [.int 0, .ref q1, .ref q2, .ref q3, .ref q4, .int 0, .null, .null])), (q1, .inl ((xcA X), 3, .inl (fun _ => 0))), (q2, .inl ((xcA X), 3, .inl (fun _ => 0))), (q3, .inl ((xcA X), 3, .inl (fun _ => 0))), (q4, .inl ((xcA X), 3, .inl (fun _ => 0))), (q5, .inl ((xcA X), 8, .inl (fun _ => 0)))] 5 20
  refine JC.putF (k := 6) (ty := .array .int) (fs' := [.int 0, .ref q1, .ref q2, .ref q3, .ref q4, .int 0, .ref q5, .null]) hX hM.2.1 rfl inG0 tyX0_ok nmX0 (by decide) lf_RX0_24 rfl rfl (by decide +kernel) rfl rfl (Nat.le_of_ble_eq_true rfl) rfl dX0_init_37 ?_
  refine JC.aload_n hX 0 dX0_init_40 rfl ?_
  refine JC.bipush (v := 8) hX dX0_init_41 (by decide) ?_
  refine JC.newa (N := 8) hX arr_int (by decide) (by decide) (by decide) (by decide) (by decide) dX0_init_43 (fun q6 => ?_)
  show JC X 45 [(0, .ref h0)] [.ref q6, .ref h0] [(h0, .inr (0, [.int 0, .ref q1, .ref q2, .ref q3, .ref q4, .int 0, .ref q5, .null])), (q1, .inl ((xcA X), 3, .inl (fun _ => 0))), (q2, .inl ((xcA X), 3, .inl (fun _ => 0))), (q3, .inl ((xcA X), 3, .inl (fun _ => 0))), (q4, .inl ((xcA X), 3, .inl (fun _ => 0))), (q5, .inl ((xcA X), 8, .inl (fun _ => 0))), (q6, .inl ((xcA X), 8, .inl (fun _ => 0)))] 6 28
  refine JC.putF (k := 7) (ty := .array .int) (fs' := [.int 0, .ref q1, .ref q2, .ref q3, .ref q4, .int 0, .ref q5, .ref q6]) hX hM.2.1 rfl inG0 tyX0_ok nmX0 (by decide) lf_RX0_27 rfl rfl (by decide +kernel) rfl rfl (Nat.le_of_ble_eq_true rfl) rfl dX0_init_45 ?_
  exact JC.vret hX hM [q1, q2, q3, q4, q5, q6] rfl rfl dX0_init_48
def wn_RX5 (h0 : Nat) (cA : ClassId) (qs : List Nat) : va_W := [(h0, .inr (5, [.ref (qs.getD 0 0), .ref (qs.getD 2 0), .ref (qs.getD 6 0), .ref (qs.getD 16 0), .ref (qs.getD 23 0), .int 0, .int 0])), ((qs.getD 0 0), .inr (2, [.ref (qs.getD 1 0), .int 0])), ((qs.getD 1 0), .inl (cA, 28, .inl (fun _ => 0))), ((qs.getD 2 0), .inr (1, [.int 0, .int 0, .ref (qs.getD 3 0), .ref (qs.getD 4 0), .ref (qs.getD 5 0)])), ((qs.getD 3 0), .inl (cA, 6, .inl (fun _ => 0))), ((qs.getD 4 0), .inl (cA, 6, .inl (fun _ => 0))), ((qs.getD 5 0), .inl (cA, 6, .inl (fun _ => 0))), ((qs.getD 6 0), .inr (4, [.ref (qs.getD 2 0), .ref (qs.getD 7 0), .ref (qs.getD 9 0), .ref (qs.getD 11 0), .ref (qs.getD 13 0), .ref (qs.getD 15 0)])), ((qs.getD 7 0), .inr (3, [.ref (qs.getD 8 0)])), ((qs.getD 8 0), .inl (cA, 36, .inl (fun _ => 0))), ((qs.getD 9 0), .inr (3, [.ref (qs.getD 10 0)])), ((qs.getD 10 0), .inl (cA, 36, .inl (fun _ => 0))), ((qs.getD 11 0), .inr (3, [.ref (qs.getD 12 0)])), ((qs.getD 12 0), .inl (cA, 36, .inl (fun _ => 0))), ((qs.getD 13 0), .inr (3, [.ref (qs.getD 14 0)])), ((qs.getD 14 0), .inl (cA, 36, .inl (fun _ => 0))), ((qs.getD 15 0), .inl (cA, 384, .inl (fun _ => 0))), ((qs.getD 16 0), .inr (0, [.int 0, .ref (qs.getD 17 0), .ref (qs.getD 18 0), .ref (qs.getD 19 0), .ref (qs.getD 20 0), .int 0, .ref (qs.getD 21 0), .ref (qs.getD 22 0)])), ((qs.getD 17 0), .inl (cA, 3, .inl (fun _ => 0))), ((qs.getD 18 0), .inl (cA, 3, .inl (fun _ => 0))), ((qs.getD 19 0), .inl (cA, 3, .inl (fun _ => 0))), ((qs.getD 20 0), .inl (cA, 3, .inl (fun _ => 0))), ((qs.getD 21 0), .inl (cA, 8, .inl (fun _ => 0))), ((qs.getD 22 0), .inl (cA, 8, .inl (fun _ => 0))), ((qs.getD 23 0), .inr (0, [.int 0, .ref (qs.getD 24 0), .ref (qs.getD 25 0), .ref (qs.getD 26 0), .ref (qs.getD 27 0), .int 0, .ref (qs.getD 28 0), .ref (qs.getD 29 0)])), ((qs.getD 24 0), .inl (cA, 3, .inl (fun _ => 0))), ((qs.getD 25 0), .inl (cA, 3, .inl (fun _ => 0))), ((qs.getD 26 0), .inl (cA, 3, .inl (fun _ => 0))), ((qs.getD 27 0), .inl (cA, 3, .inl (fun _ => 0))), ((qs.getD 28 0), .inl (cA, 8, .inl (fun _ => 0))), ((qs.getD 29 0), .inl (cA, 8, .inl (fun _ => 0)))]
set_option maxRecDepth 100000 in
set_option maxHeartbeats 4000000 in
theorem cn_RX5 : Cn 3 yX5_init cX5_init 1 5 [.null, .null, .null, .null, .null, .int 0, .int 0] [] 30 (wn_RX5) 30 663 := by
  refine Cn.of (ls := fun h0 => [(0, .ref h0)]) (by decide +kernel) rfl (fun _ => Nat.le_of_ble_eq_true rfl) (fun _ => rfl) (fun X h0 hX hM => ?_)
  replace hX : OkC X RX5 cX5_init 1 3 30 663 := hX
  refine JC.aload_n hX 0 dX5_init_0 rfl ?_
  refine JC.objInit hX lm_RX5_3 oi_inst oi_code dX5_init_1 (by decide) ?_
  refine JC.aload_n hX 0 dX5_init_4 rfl ?_
  refine JC.new (ci := 2) (fs := [.null, .int 0]) hX inG2 tyX2_ok lcl_RX5_9 ins_RX2 ini_RX2 rfl dfl_2 (by decide) (by decide) dX5_init_5 (fun q1 => ?_)
  show JC X 8 [(0, .ref h0)] [.ref q1, .ref h0] [(h0, .inr (5, [.null, .null, .null, .null, .null, .int 0, .int 0])), (q1, .inr (2, [.null, .int 0]))] 1 2
  refine JC.dup hX dX5_init_8 rfl ?_
  refine JC.callIN (ws := [(h0, .inr (5, [.null, .null, .null, .null, .null, .int 0, .int 0]))]) (st := [.ref q1, .ref h0]) hX (cn_RX2) cal_yX2_init rfl inm_yX2_init lm_RX5_11 rfl rfl (Nat.le_of_ble_eq_true rfl) ⟨by decide, by decide⟩ (by decide) (by decide) rfl dX5_init_9 (fun qs9 hqs => ?_)
  obtain ⟨q2, t2, rfl, hqs2⟩ := qs_cons hqs
  obtain rfl := qs_nil hqs2
  show JC X 12 [(0, .ref h0)] [.ref q1, .ref h0] [(h0, .inr (5, [.null, .null, .null, .null, .null, .int 0, .int 0])), (q1, .inr (2, [.ref q2, .int 0])), (q2, .inl ((xcA X), 28, .inl (fun _ => 0)))] 2 30
  refine JC.putF (k := 0) (ty := .object "LanternTongue$Page") (fs' := [.ref q1, .null, .null, .null, .null, .int 0, .int 0]) hX hM.2.1 rfl inG5 tyX5_ok nmX5 (by decide) lf_RX5_12 rfl rfl (by decide +kernel) rfl rfl (Nat.le_of_ble_eq_true rfl) rfl dX5_init_12 ?_
  refine JC.aload_n hX 0 dX5_init_15 rfl ?_
  refine JC.new (ci := 1) (fs := [.int 0, .int 0, .null, .null, .null]) hX inG1 tyX1_ok lcl_RX5_16 ins_RX1 ini_RX1 rfl dfl_1 (by decide) (by decide) dX5_init_16 (fun q3 => ?_)
  show JC X 19 [(0, .ref h0)] [.ref q3, .ref h0] [(h0, .inr (5, [.ref q1, .null, .null, .null, .null, .int 0, .int 0])), (q1, .inr (2, [.ref q2, .int 0])), (q2, .inl ((xcA X), 28, .inl (fun _ => 0))), (q3, .inr (1, [.int 0, .int 0, .null, .null, .null]))] 3 35
  refine JC.dup hX dX5_init_19 rfl ?_
  refine JC.callIN (ws := [(h0, .inr (5, [.ref q1, .null, .null, .null, .null, .int 0, .int 0])), (q1, .inr (2, [.ref q2, .int 0])), (q2, .inl ((xcA X), 28, .inl (fun _ => 0)))]) (st := [.ref q3, .ref h0]) hX (cn_RX1) cal_yX1_init rfl inm_yX1_init lm_RX5_18 rfl rfl (Nat.le_of_ble_eq_true rfl) ⟨by decide, by decide⟩ (by decide) (by decide) rfl dX5_init_20 (fun qs20 hqs => ?_)
  obtain ⟨q4, t4, rfl, hqs4⟩ := qs_cons hqs
  obtain ⟨q5, t5, rfl, hqs5⟩ := qs_cons hqs4
  obtain ⟨q6, t6, rfl, hqs6⟩ := qs_cons hqs5
  obtain rfl := qs_nil hqs6
  show JC X 23 [(0, .ref h0)] [.ref q3, .ref h0] [(h0, .inr (5, [.ref q1, .null, .null, .null, .null, .int 0, .int 0])), (q1, .inr (2, [.ref q2, .int 0])), (q2, .inl ((xcA X), 28, .inl (fun _ => 0))), (q3, .inr (1, [.int 0, .int 0, .ref q4, .ref q5, .ref q6])), (q4, .inl ((xcA X), 6, .inl (fun _ => 0))), (q5, .inl ((xcA X), 6, .inl (fun _ => 0))), (q6, .inl ((xcA X), 6, .inl (fun _ => 0)))] 6 53
  refine JC.putF (k := 1) (ty := .object "LanternTongue$Mine") (fs' := [.ref q1, .ref q3, .null, .null, .null, .int 0, .int 0]) hX hM.2.1 rfl inG5 tyX5_ok nmX5 (by decide) lf_RX5_19 rfl rfl (by decide +kernel) rfl rfl (Nat.le_of_ble_eq_true rfl) rfl dX5_init_23 ?_
  refine JC.aload_n hX 0 dX5_init_26 rfl ?_
  refine JC.new (ci := 4) (fs := [.null, .null, .null, .null, .null, .null]) hX inG4 tyX4_ok lcl_RX5_23 ins_RX4 ini_RX4 rfl dfl_4 (by decide) (by decide) dX5_init_27 (fun q7 => ?_)
  show JC X 30 [(0, .ref h0)] [.ref q7, .ref h0] [(h0, .inr (5, [.ref q1, .ref q3, .null, .null, .null, .int 0, .int 0])), (q1, .inr (2, [.ref q2, .int 0])), (q2, .inl ((xcA X), 28, .inl (fun _ => 0))), (q3, .inr (1, [.int 0, .int 0, .ref q4, .ref q5, .ref q6])), (q4, .inl ((xcA X), 6, .inl (fun _ => 0))), (q5, .inl ((xcA X), 6, .inl (fun _ => 0))), (q6, .inl ((xcA X), 6, .inl (fun _ => 0))), (q7, .inr (4, [.null, .null, .null, .null, .null, .null]))] 7 59
  refine JC.dup hX dX5_init_30 rfl ?_
  refine JC.aload_n hX 0 dX5_init_31 rfl ?_
  refine JC.get (q := 0) (ci := 5) (k := 1) hX rfl inG5 (by decide) lf_RX5_19 rfl rfl dX5_init_32 ?_
  refine JC.callI (ws := [(h0, .inr (5, [.ref q1, .ref q3, .null, .null, .null, .int 0, .int 0])), (q1, .inr (2, [.ref q2, .int 0])), (q2, .inl ((xcA X), 28, .inl (fun _ => 0))), (q3, .inr (1, [.int 0, .int 0, .ref q4, .ref q5, .ref q6])), (q4, .inl ((xcA X), 6, .inl (fun _ => 0))), (q5, .inl ((xcA X), 6, .inl (fun _ => 0))), (q6, .inl ((xcA X), 6, .inl (fun _ => 0)))]) (st := [.ref q7, .ref h0]) hX (cn_RX4 _) cal_yX4_init rfl inm_yX4_init lm_RX5_25 rfl rfl (Nat.le_of_ble_eq_true rfl) ⟨by decide, by decide⟩ (by decide) (by decide) rfl dX5_init_35 (fun qs35 hqs => ?_)
  obtain ⟨q8, t8, rfl, hqs8⟩ := qs_cons hqs
  obtain ⟨q9, t9, rfl, hqs9⟩ := qs_cons hqs8
  obtain ⟨q10, t10, rfl, hqs10⟩ := qs_cons hqs9
  obtain ⟨q11, t11, rfl, hqs11⟩ := qs_cons hqs10
  obtain ⟨q12, t12, rfl, hqs12⟩ := qs_cons hqs11
  obtain ⟨q13, t13, rfl, hqs13⟩ := qs_cons hqs12
  obtain ⟨q14, t14, rfl, hqs14⟩ := qs_cons hqs13
  obtain ⟨q15, t15, rfl, hqs15⟩ := qs_cons hqs14
  obtain ⟨q16, t16, rfl, hqs16⟩ := qs_cons hqs15
  obtain rfl := qs_nil hqs16
  show JC X 38 [(0, .ref h0)] [.ref q7, .ref h0] [(h0, .inr (5, [.ref q1, .ref q3, .null, .null, .null, .int 0, .int 0])), (q1, .inr (2, [.ref q2, .int 0])), (q2, .inl ((xcA X), 28, .inl (fun _ => 0))), (q3, .inr (1, [.int 0, .int 0, .ref q4, .ref q5, .ref q6])), (q4, .inl ((xcA X), 6, .inl (fun _ => 0))), (q5, .inl ((xcA X), 6, .inl (fun _ => 0))), (q6, .inl ((xcA X), 6, .inl (fun _ => 0))), (q7, .inr (4, [.ref q3, .ref q8, .ref q10, .ref q12, .ref q14, .ref q16])), (q8, .inr (3, [.ref q9])), (q9, .inl ((xcA X), 36, .inl (fun _ => 0))), (q10, .inr (3, [.ref q11])), (q11, .inl ((xcA X), 36, .inl (fun _ => 0))), (q12, .inr (3, [.ref q13])), (q13, .inl ((xcA X), 36, .inl (fun _ => 0))), (q14, .inr (3, [.ref q15])), (q15, .inl ((xcA X), 36, .inl (fun _ => 0))), (q16, .inl ((xcA X), 384, .inl (fun _ => 0)))] 16 591
  refine JC.putF (k := 2) (ty := .object "LanternTongue$Ways") (fs' := [.ref q1, .ref q3, .ref q7, .null, .null, .int 0, .int 0]) hX hM.2.1 rfl inG5 tyX5_ok nmX5 (by decide) lf_RX5_28 rfl rfl (by decide +kernel) rfl rfl (Nat.le_of_ble_eq_true rfl) rfl dX5_init_38 ?_
  refine JC.aload_n hX 0 dX5_init_41 rfl ?_
  refine JC.new (ci := 0) (fs := [.int 0, .null, .null, .null, .null, .int 0, .null, .null]) hX inG0 tyX0_ok lcl_RX5_32 ins_RX0 ini_RX0 rfl dfl_0 (by decide) (by decide) dX5_init_42 (fun q17 => ?_)
  show JC X 45 [(0, .ref h0)] [.ref q17, .ref h0] [(h0, .inr (5, [.ref q1, .ref q3, .ref q7, .null, .null, .int 0, .int 0])), (q1, .inr (2, [.ref q2, .int 0])), (q2, .inl ((xcA X), 28, .inl (fun _ => 0))), (q3, .inr (1, [.int 0, .int 0, .ref q4, .ref q5, .ref q6])), (q4, .inl ((xcA X), 6, .inl (fun _ => 0))), (q5, .inl ((xcA X), 6, .inl (fun _ => 0))), (q6, .inl ((xcA X), 6, .inl (fun _ => 0))), (q7, .inr (4, [.ref q3, .ref q8, .ref q10, .ref q12, .ref q14, .ref q16])), (q8, .inr (3, [.ref q9])), (q9, .inl ((xcA X), 36, .inl (fun _ => 0))), (q10, .inr (3, [.ref q11])), (q11, .inl ((xcA X), 36, .inl (fun _ => 0))), (q12, .inr (3, [.ref q13])), (q13, .inl ((xcA X), 36, .inl (fun _ => 0))), (q14, .inr (3, [.ref q15])), (q15, .inl ((xcA X), 36, .inl (fun _ => 0))), (q16, .inl ((xcA X), 384, .inl (fun _ => 0))), (q17, .inr (0, [.int 0, .null, .null, .null, .null, .int 0, .null, .null]))] 17 599
  refine JC.dup hX dX5_init_45 rfl ?_
  refine JC.callIN (ws := [(h0, .inr (5, [.ref q1, .ref q3, .ref q7, .null, .null, .int 0, .int 0])), (q1, .inr (2, [.ref q2, .int 0])), (q2, .inl ((xcA X), 28, .inl (fun _ => 0))), (q3, .inr (1, [.int 0, .int 0, .ref q4, .ref q5, .ref q6])), (q4, .inl ((xcA X), 6, .inl (fun _ => 0))), (q5, .inl ((xcA X), 6, .inl (fun _ => 0))), (q6, .inl ((xcA X), 6, .inl (fun _ => 0))), (q7, .inr (4, [.ref q3, .ref q8, .ref q10, .ref q12, .ref q14, .ref q16])), (q8, .inr (3, [.ref q9])), (q9, .inl ((xcA X), 36, .inl (fun _ => 0))), (q10, .inr (3, [.ref q11])), (q11, .inl ((xcA X), 36, .inl (fun _ => 0))), (q12, .inr (3, [.ref q13])), (q13, .inl ((xcA X), 36, .inl (fun _ => 0))), (q14, .inr (3, [.ref q15])), (q15, .inl ((xcA X), 36, .inl (fun _ => 0))), (q16, .inl ((xcA X), 384, .inl (fun _ => 0)))]) (st := [.ref q17, .ref h0]) hX (cn_RX0) cal_yX0_init rfl inm_yX0_init lm_RX5_34 rfl rfl (Nat.le_of_ble_eq_true rfl) ⟨by decide, by decide⟩ (by decide) (by decide) rfl dX5_init_46 (fun qs46 hqs => ?_)
  obtain ⟨q18, t18, rfl, hqs18⟩ := qs_cons hqs
  obtain ⟨q19, t19, rfl, hqs19⟩ := qs_cons hqs18
  obtain ⟨q20, t20, rfl, hqs20⟩ := qs_cons hqs19
  obtain ⟨q21, t21, rfl, hqs21⟩ := qs_cons hqs20
  obtain ⟨q22, t22, rfl, hqs22⟩ := qs_cons hqs21
  obtain ⟨q23, t23, rfl, hqs23⟩ := qs_cons hqs22
  obtain rfl := qs_nil hqs23
  show JC X 49 [(0, .ref h0)] [.ref q17, .ref h0] [(h0, .inr (5, [.ref q1, .ref q3, .ref q7, .null, .null, .int 0, .int 0])), (q1, .inr (2, [.ref q2, .int 0])), (q2, .inl ((xcA X), 28, .inl (fun _ => 0))), (q3, .inr (1, [.int 0, .int 0, .ref q4, .ref q5, .ref q6])), (q4, .inl ((xcA X), 6, .inl (fun _ => 0))), (q5, .inl ((xcA X), 6, .inl (fun _ => 0))), (q6, .inl ((xcA X), 6, .inl (fun _ => 0))), (q7, .inr (4, [.ref q3, .ref q8, .ref q10, .ref q12, .ref q14, .ref q16])), (q8, .inr (3, [.ref q9])), (q9, .inl ((xcA X), 36, .inl (fun _ => 0))), (q10, .inr (3, [.ref q11])), (q11, .inl ((xcA X), 36, .inl (fun _ => 0))), (q12, .inr (3, [.ref q13])), (q13, .inl ((xcA X), 36, .inl (fun _ => 0))), (q14, .inr (3, [.ref q15])), (q15, .inl ((xcA X), 36, .inl (fun _ => 0))), (q16, .inl ((xcA X), 384, .inl (fun _ => 0))), (q17, .inr (0, [.int 0, .ref q18, .ref q19, .ref q20, .ref q21, .int 0, .ref q22, .ref q23])), (q18, .inl ((xcA X), 3, .inl (fun _ => 0))), (q19, .inl ((xcA X), 3, .inl (fun _ => 0))), (q20, .inl ((xcA X), 3, .inl (fun _ => 0))), (q21, .inl ((xcA X), 3, .inl (fun _ => 0))), (q22, .inl ((xcA X), 8, .inl (fun _ => 0))), (q23, .inl ((xcA X), 8, .inl (fun _ => 0)))] 23 627
  refine JC.putF (k := 3) (ty := .object "LanternTongue$Camp") (fs' := [.ref q1, .ref q3, .ref q7, .ref q17, .null, .int 0, .int 0]) hX hM.2.1 rfl inG5 tyX5_ok nmX5 (by decide) lf_RX5_35 rfl rfl (by decide +kernel) rfl rfl (Nat.le_of_ble_eq_true rfl) rfl dX5_init_49 ?_
  refine JC.aload_n hX 0 dX5_init_52 rfl ?_
  refine JC.new (ci := 0) (fs := [.int 0, .null, .null, .null, .null, .int 0, .null, .null]) hX inG0 tyX0_ok lcl_RX5_32 ins_RX0 ini_RX0 rfl dfl_0 (by decide) (by decide) dX5_init_53 (fun q24 => ?_)
  show JC X 56 [(0, .ref h0)] [.ref q24, .ref h0] [(h0, .inr (5, [.ref q1, .ref q3, .ref q7, .ref q17, .null, .int 0, .int 0])), (q1, .inr (2, [.ref q2, .int 0])), (q2, .inl ((xcA X), 28, .inl (fun _ => 0))), (q3, .inr (1, [.int 0, .int 0, .ref q4, .ref q5, .ref q6])), (q4, .inl ((xcA X), 6, .inl (fun _ => 0))), (q5, .inl ((xcA X), 6, .inl (fun _ => 0))), (q6, .inl ((xcA X), 6, .inl (fun _ => 0))), (q7, .inr (4, [.ref q3, .ref q8, .ref q10, .ref q12, .ref q14, .ref q16])), (q8, .inr (3, [.ref q9])), (q9, .inl ((xcA X), 36, .inl (fun _ => 0))), (q10, .inr (3, [.ref q11])), (q11, .inl ((xcA X), 36, .inl (fun _ => 0))), (q12, .inr (3, [.ref q13])), (q13, .inl ((xcA X), 36, .inl (fun _ => 0))), (q14, .inr (3, [.ref q15])), (q15, .inl ((xcA X), 36, .inl (fun _ => 0))), (q16, .inl ((xcA X), 384, .inl (fun _ => 0))), (q17, .inr (0, [.int 0, .ref q18, .ref q19, .ref q20, .ref q21, .int 0, .ref q22, .ref q23])), (q18, .inl ((xcA X), 3, .inl (fun _ => 0))), (q19, .inl ((xcA X), 3, .inl (fun _ => 0))), (q20, .inl ((xcA X), 3, .inl (fun _ => 0))), (q21, .inl ((xcA X), 3, .inl (fun _ => 0))), (q22, .inl ((xcA X), 8, .inl (fun _ => 0))), (q23, .inl ((xcA X), 8, .inl (fun _ => 0))), (q24, .inr (0, [.int 0, .null, .null, .null, .null, .int 0, .null, .null]))] 24 635
  refine JC.dup hX dX5_init_56 rfl ?_
  refine JC.callIN (ws := [(h0, .inr (5, [.ref q1, .ref q3, .ref q7, .ref q17, .null, .int 0, .int 0])), (q1, .inr (2, [.ref q2, .int 0])), (q2, .inl ((xcA X), 28, .inl (fun _ => 0))), (q3, .inr (1, [.int 0, .int 0, .ref q4, .ref q5, .ref q6])), (q4, .inl ((xcA X), 6, .inl (fun _ => 0))), (q5, .inl ((xcA X), 6, .inl (fun _ => 0))), (q6, .inl ((xcA X), 6, .inl (fun _ => 0))), (q7, .inr (4, [.ref q3, .ref q8, .ref q10, .ref q12, .ref q14, .ref q16])), (q8, .inr (3, [.ref q9])), (q9, .inl ((xcA X), 36, .inl (fun _ => 0))), (q10, .inr (3, [.ref q11])), (q11, .inl ((xcA X), 36, .inl (fun _ => 0))), (q12, .inr (3, [.ref q13])), (q13, .inl ((xcA X), 36, .inl (fun _ => 0))), (q14, .inr (3, [.ref q15])), (q15, .inl ((xcA X), 36, .inl (fun _ => 0))), (q16, .inl ((xcA X), 384, .inl (fun _ => 0))), (q17, .inr (0, [.int 0, .ref q18, .ref q19, .ref q20, .ref q21, .int 0, .ref q22, .ref q23])), (q18, .inl ((xcA X), 3, .inl (fun _ => 0))), (q19, .inl ((xcA X), 3, .inl (fun _ => 0))), (q20, .inl ((xcA X), 3, .inl (fun _ => 0))), (q21, .inl ((xcA X), 3, .inl (fun _ => 0))), (q22, .inl ((xcA X), 8, .inl (fun _ => 0))), (q23, .inl ((xcA X), 8, .inl (fun _ => 0)))]) (st := [.ref q24, .ref h0]) hX (cn_RX0) cal_yX0_init rfl inm_yX0_init lm_RX5_34 rfl rfl (Nat.le_of_ble_eq_true rfl) ⟨by decide, by decide⟩ (by decide) (by decide) rfl dX5_init_57 (fun qs57 hqs => ?_)
  obtain ⟨q25, t25, rfl, hqs25⟩ := qs_cons hqs
  obtain ⟨q26, t26, rfl, hqs26⟩ := qs_cons hqs25
  obtain ⟨q27, t27, rfl, hqs27⟩ := qs_cons hqs26
  obtain ⟨q28, t28, rfl, hqs28⟩ := qs_cons hqs27
  obtain ⟨q29, t29, rfl, hqs29⟩ := qs_cons hqs28
  obtain ⟨q30, t30, rfl, hqs30⟩ := qs_cons hqs29
  obtain rfl := qs_nil hqs30
  show JC X 60 [(0, .ref h0)] [.ref q24, .ref h0] [(h0, .inr (5, [.ref q1, .ref q3, .ref q7, .ref q17, .null, .int 0, .int 0])), (q1, .inr (2, [.ref q2, .int 0])), (q2, .inl ((xcA X), 28, .inl (fun _ => 0))), (q3, .inr (1, [.int 0, .int 0, .ref q4, .ref q5, .ref q6])), (q4, .inl ((xcA X), 6, .inl (fun _ => 0))), (q5, .inl ((xcA X), 6, .inl (fun _ => 0))), (q6, .inl ((xcA X), 6, .inl (fun _ => 0))), (q7, .inr (4, [.ref q3, .ref q8, .ref q10, .ref q12, .ref q14, .ref q16])), (q8, .inr (3, [.ref q9])), (q9, .inl ((xcA X), 36, .inl (fun _ => 0))), (q10, .inr (3, [.ref q11])), (q11, .inl ((xcA X), 36, .inl (fun _ => 0))), (q12, .inr (3, [.ref q13])), (q13, .inl ((xcA X), 36, .inl (fun _ => 0))), (q14, .inr (3, [.ref q15])), (q15, .inl ((xcA X), 36, .inl (fun _ => 0))), (q16, .inl ((xcA X), 384, .inl (fun _ => 0))), (q17, .inr (0, [.int 0, .ref q18, .ref q19, .ref q20, .ref q21, .int 0, .ref q22, .ref q23])), (q18, .inl ((xcA X), 3, .inl (fun _ => 0))), (q19, .inl ((xcA X), 3, .inl (fun _ => 0))), (q20, .inl ((xcA X), 3, .inl (fun _ => 0))), (q21, .inl ((xcA X), 3, .inl (fun _ => 0))), (q22, .inl ((xcA X), 8, .inl (fun _ => 0))), (q23, .inl ((xcA X), 8, .inl (fun _ => 0))), (q24, .inr (0, [.int 0, .ref q25, .ref q26, .ref q27, .ref q28, .int 0, .ref q29, .ref q30])), (q25, .inl ((xcA X), 3, .inl (fun _ => 0))), (q26, .inl ((xcA X), 3, .inl (fun _ => 0))), (q27, .inl ((xcA X), 3, .inl (fun _ => 0))), (q28, .inl ((xcA X), 3, .inl (fun _ => 0))), (q29, .inl ((xcA X), 8, .inl (fun _ => 0))), (q30, .inl ((xcA X), 8, .inl (fun _ => 0)))] 30 663
  refine JC.putF (k := 4) (ty := .object "LanternTongue$Camp") (fs' := [.ref q1, .ref q3, .ref q7, .ref q17, .ref q24, .int 0, .int 0]) hX hM.2.1 rfl inG5 tyX5_ok nmX5 (by decide) lf_RX5_39 rfl rfl (by decide +kernel) rfl rfl (Nat.le_of_ble_eq_true rfl) rfl dX5_init_60 ?_
  exact JC.vret hX hM [q1, q2, q3, q4, q5, q6, q7, q8, q9, q10, q11, q12, q13, q14, q15, q16, q17, q18, q19, q20, q21, q22, q23, q24, q25, q26, q27, q28, q29, q30] rfl rfl dX5_init_63
def wn_RX6 (h0 : Nat) (cA : ClassId) (qs : List Nat) : va_W := [(h0, .inr (6, [.ref (qs.getD 0 0), .int 0, .ref (qs.getD 1 0), .int 0, .int 0, .int 0, .int 0, .int 0, .int 0, .ref (qs.getD 2 0), .ref (qs.getD 3 0), .int 0, .ref (qs.getD 4 0), .ref (qs.getD 5 0), .ref (qs.getD 6 0), .ref (qs.getD 7 0), .int 0, .ref (qs.getD 8 0), .int 0, .int (-1), .int 0, .int 0, .ref (qs.getD 9 0), .ref (qs.getD 10 0), .long 0])), ((qs.getD 0 0), .inl (cA, 28, .inl (fun _ => 0))), ((qs.getD 1 0), .inl (cA, 18, .inl (fun _ => 0))), ((qs.getD 2 0), .inl (cA, 6, .inl (fun _ => 0))), ((qs.getD 3 0), .inl (cA, 12, .inl (fun _ => 0))), ((qs.getD 4 0), .inl (cA, 12, .inl (fun _ => 0))), ((qs.getD 5 0), .inl (cA, 6, .inl (fun _ => 0))), ((qs.getD 6 0), .inl (cA, 384, .inl (fun _ => 0))), ((qs.getD 7 0), .inl (cA, 36, .inl (fun _ => 0))), ((qs.getD 8 0), .inl (cA, 16, .inl (fun _ => 0))), ((qs.getD 9 0), .inl (cA, 12, .inl (fun _ => 0))), ((qs.getD 10 0), .inl (cA, 16, .inl (fun _ => 0)))]
set_option maxRecDepth 100000 in
set_option maxHeartbeats 4000000 in
theorem cn_RX6 : Cn 1 yX6_init cX6_init 1 6 [.null, .int 0, .null, .int 0, .int 0, .int 0, .int 0, .int 0, .int 0, .null, .null, .int 0, .null, .null, .null, .null, .int 0, .null, .int 0, .int 0, .int 0, .int 0, .null, .null, .long 0] [] 11 (wn_RX6) 11 546 := by
  refine Cn.of (ls := fun h0 => [(0, .ref h0)]) (by decide +kernel) rfl (fun _ => Nat.le_of_ble_eq_true rfl) (fun _ => rfl) (fun X h0 hX hM => ?_)
  replace hX : OkC X RX6 cX6_init 1 1 11 546 := hX
  refine JC.aload_n hX 0 dX6_init_0 rfl ?_
  refine JC.objInit hX lm_RX6_1 oi_inst oi_code dX6_init_1 (by decide) ?_
  refine JC.aload_n hX 0 dX6_init_4 rfl ?_
  refine JC.bipush (v := 28) hX dX6_init_5 (by decide) ?_
  refine JC.newa (N := 28) hX arr_int (by decide) (by decide) (by decide) (by decide) (by decide) dX6_init_7 (fun q1 => ?_)
  show JC X 9 [(0, .ref h0)] [.ref q1, .ref h0] [(h0, .inr (6, [.null, .int 0, .null, .int 0, .int 0, .int 0, .int 0, .int 0, .int 0, .null, .null, .int 0, .null, .null, .null, .null, .int 0, .null, .int 0, .int 0, .int 0, .int 0, .null, .null, .long 0])), (q1, .inl ((xcA X), 28, .inl (fun _ => 0)))] 1 28
  refine JC.putF (k := 0) (ty := .array .int) (fs' := [.ref q1, .int 0, .null, .int 0, .int 0, .int 0, .int 0, .int 0, .int 0, .null, .null, .int 0, .null, .null, .null, .null, .int 0, .null, .int 0, .int 0, .int 0, .int 0, .null, .null, .long 0]) hX hM.2.1 rfl inG6 tyX6_ok nmX6 (by decide) lf_RX6_7 rfl rfl (by decide +kernel) rfl rfl (Nat.le_of_ble_eq_true rfl) rfl dX6_init_9 ?_
  refine JC.aload_n hX 0 dX6_init_12 rfl ?_
  refine JC.bipush (v := 18) hX dX6_init_13 (by decide) ?_
  refine JC.newa (N := 18) hX arr_int (by decide) (by decide) (by decide) (by decide) (by decide) dX6_init_15 (fun q2 => ?_)
  show JC X 17 [(0, .ref h0)] [.ref q2, .ref h0] [(h0, .inr (6, [.ref q1, .int 0, .null, .int 0, .int 0, .int 0, .int 0, .int 0, .int 0, .null, .null, .int 0, .null, .null, .null, .null, .int 0, .null, .int 0, .int 0, .int 0, .int 0, .null, .null, .long 0])), (q1, .inl ((xcA X), 28, .inl (fun _ => 0))), (q2, .inl ((xcA X), 18, .inl (fun _ => 0)))] 2 46
  refine JC.putF (k := 2) (ty := .array .int) (fs' := [.ref q1, .int 0, .ref q2, .int 0, .int 0, .int 0, .int 0, .int 0, .int 0, .null, .null, .int 0, .null, .null, .null, .null, .int 0, .null, .int 0, .int 0, .int 0, .int 0, .null, .null, .long 0]) hX hM.2.1 rfl inG6 tyX6_ok nmX6 (by decide) lf_RX6_13 rfl rfl (by decide +kernel) rfl rfl (Nat.le_of_ble_eq_true rfl) rfl dX6_init_17 ?_
  refine JC.aload_n hX 0 dX6_init_20 rfl ?_
  refine JC.bipush (v := 6) hX dX6_init_21 (by decide) ?_
  refine JC.newa (N := 6) hX arr_int (by decide) (by decide) (by decide) (by decide) (by decide) dX6_init_23 (fun q3 => ?_)
  show JC X 25 [(0, .ref h0)] [.ref q3, .ref h0] [(h0, .inr (6, [.ref q1, .int 0, .ref q2, .int 0, .int 0, .int 0, .int 0, .int 0, .int 0, .null, .null, .int 0, .null, .null, .null, .null, .int 0, .null, .int 0, .int 0, .int 0, .int 0, .null, .null, .long 0])), (q1, .inl ((xcA X), 28, .inl (fun _ => 0))), (q2, .inl ((xcA X), 18, .inl (fun _ => 0))), (q3, .inl ((xcA X), 6, .inl (fun _ => 0)))] 3 52
  refine JC.putF (k := 9) (ty := .array .int) (fs' := [.ref q1, .int 0, .ref q2, .int 0, .int 0, .int 0, .int 0, .int 0, .int 0, .ref q3, .null, .int 0, .null, .null, .null, .null, .int 0, .null, .int 0, .int 0, .int 0, .int 0, .null, .null, .long 0]) hX hM.2.1 rfl inG6 tyX6_ok nmX6 (by decide) lf_RX6_16 rfl rfl (by decide +kernel) rfl rfl (Nat.le_of_ble_eq_true rfl) rfl dX6_init_25 ?_
  refine JC.aload_n hX 0 dX6_init_28 rfl ?_
  refine JC.bipush (v := 12) hX dX6_init_29 (by decide) ?_
  refine JC.newa (N := 12) hX arr_int (by decide) (by decide) (by decide) (by decide) (by decide) dX6_init_31 (fun q4 => ?_)
  show JC X 33 [(0, .ref h0)] [.ref q4, .ref h0] [(h0, .inr (6, [.ref q1, .int 0, .ref q2, .int 0, .int 0, .int 0, .int 0, .int 0, .int 0, .ref q3, .null, .int 0, .null, .null, .null, .null, .int 0, .null, .int 0, .int 0, .int 0, .int 0, .null, .null, .long 0])), (q1, .inl ((xcA X), 28, .inl (fun _ => 0))), (q2, .inl ((xcA X), 18, .inl (fun _ => 0))), (q3, .inl ((xcA X), 6, .inl (fun _ => 0))), (q4, .inl ((xcA X), 12, .inl (fun _ => 0)))] 4 64
  refine JC.putF (k := 10) (ty := .array .int) (fs' := [.ref q1, .int 0, .ref q2, .int 0, .int 0, .int 0, .int 0, .int 0, .int 0, .ref q3, .ref q4, .int 0, .null, .null, .null, .null, .int 0, .null, .int 0, .int 0, .int 0, .int 0, .null, .null, .long 0]) hX hM.2.1 rfl inG6 tyX6_ok nmX6 (by decide) lf_RX6_19 rfl rfl (by decide +kernel) rfl rfl (Nat.le_of_ble_eq_true rfl) rfl dX6_init_33 ?_
  refine JC.aload_n hX 0 dX6_init_36 rfl ?_
  refine JC.bipush (v := 12) hX dX6_init_37 (by decide) ?_
  refine JC.newa (N := 12) hX arr_int (by decide) (by decide) (by decide) (by decide) (by decide) dX6_init_39 (fun q5 => ?_)
  show JC X 41 [(0, .ref h0)] [.ref q5, .ref h0] [(h0, .inr (6, [.ref q1, .int 0, .ref q2, .int 0, .int 0, .int 0, .int 0, .int 0, .int 0, .ref q3, .ref q4, .int 0, .null, .null, .null, .null, .int 0, .null, .int 0, .int 0, .int 0, .int 0, .null, .null, .long 0])), (q1, .inl ((xcA X), 28, .inl (fun _ => 0))), (q2, .inl ((xcA X), 18, .inl (fun _ => 0))), (q3, .inl ((xcA X), 6, .inl (fun _ => 0))), (q4, .inl ((xcA X), 12, .inl (fun _ => 0))), (q5, .inl ((xcA X), 12, .inl (fun _ => 0)))] 5 76
  refine JC.putF (k := 12) (ty := .array .int) (fs' := [.ref q1, .int 0, .ref q2, .int 0, .int 0, .int 0, .int 0, .int 0, .int 0, .ref q3, .ref q4, .int 0, .ref q5, .null, .null, .null, .int 0, .null, .int 0, .int 0, .int 0, .int 0, .null, .null, .long 0]) hX hM.2.1 rfl inG6 tyX6_ok nmX6 (by decide) lf_RX6_22 rfl rfl (by decide +kernel) rfl rfl (Nat.le_of_ble_eq_true rfl) rfl dX6_init_41 ?_
  refine JC.aload_n hX 0 dX6_init_44 rfl ?_
  refine JC.bipush (v := 6) hX dX6_init_45 (by decide) ?_
  refine JC.newa (N := 6) hX arr_int (by decide) (by decide) (by decide) (by decide) (by decide) dX6_init_47 (fun q6 => ?_)
  show JC X 49 [(0, .ref h0)] [.ref q6, .ref h0] [(h0, .inr (6, [.ref q1, .int 0, .ref q2, .int 0, .int 0, .int 0, .int 0, .int 0, .int 0, .ref q3, .ref q4, .int 0, .ref q5, .null, .null, .null, .int 0, .null, .int 0, .int 0, .int 0, .int 0, .null, .null, .long 0])), (q1, .inl ((xcA X), 28, .inl (fun _ => 0))), (q2, .inl ((xcA X), 18, .inl (fun _ => 0))), (q3, .inl ((xcA X), 6, .inl (fun _ => 0))), (q4, .inl ((xcA X), 12, .inl (fun _ => 0))), (q5, .inl ((xcA X), 12, .inl (fun _ => 0))), (q6, .inl ((xcA X), 6, .inl (fun _ => 0)))] 6 82
  refine JC.putF (k := 13) (ty := .array .int) (fs' := [.ref q1, .int 0, .ref q2, .int 0, .int 0, .int 0, .int 0, .int 0, .int 0, .ref q3, .ref q4, .int 0, .ref q5, .ref q6, .null, .null, .int 0, .null, .int 0, .int 0, .int 0, .int 0, .null, .null, .long 0]) hX hM.2.1 rfl inG6 tyX6_ok nmX6 (by decide) lf_RX6_25 rfl rfl (by decide +kernel) rfl rfl (Nat.le_of_ble_eq_true rfl) rfl dX6_init_49 ?_
  refine JC.aload_n hX 0 dX6_init_52 rfl ?_
  refine JC.sipush (v := 384) hX dX6_init_53 (by decide) ?_
  refine JC.newa (N := 384) hX arr_int (by decide) (by decide) (by decide) (by decide) (by decide) dX6_init_56 (fun q7 => ?_)
  show JC X 58 [(0, .ref h0)] [.ref q7, .ref h0] [(h0, .inr (6, [.ref q1, .int 0, .ref q2, .int 0, .int 0, .int 0, .int 0, .int 0, .int 0, .ref q3, .ref q4, .int 0, .ref q5, .ref q6, .null, .null, .int 0, .null, .int 0, .int 0, .int 0, .int 0, .null, .null, .long 0])), (q1, .inl ((xcA X), 28, .inl (fun _ => 0))), (q2, .inl ((xcA X), 18, .inl (fun _ => 0))), (q3, .inl ((xcA X), 6, .inl (fun _ => 0))), (q4, .inl ((xcA X), 12, .inl (fun _ => 0))), (q5, .inl ((xcA X), 12, .inl (fun _ => 0))), (q6, .inl ((xcA X), 6, .inl (fun _ => 0))), (q7, .inl ((xcA X), 384, .inl (fun _ => 0)))] 7 466
  refine JC.putF (k := 14) (ty := .array .int) (fs' := [.ref q1, .int 0, .ref q2, .int 0, .int 0, .int 0, .int 0, .int 0, .int 0, .ref q3, .ref q4, .int 0, .ref q5, .ref q6, .ref q7, .null, .int 0, .null, .int 0, .int 0, .int 0, .int 0, .null, .null, .long 0]) hX hM.2.1 rfl inG6 tyX6_ok nmX6 (by decide) lf_RX6_28 rfl rfl (by decide +kernel) rfl rfl (Nat.le_of_ble_eq_true rfl) rfl dX6_init_58 ?_
  refine JC.aload_n hX 0 dX6_init_61 rfl ?_
  refine JC.bipush (v := 36) hX dX6_init_62 (by decide) ?_
  refine JC.newa (N := 36) hX arr_int (by decide) (by decide) (by decide) (by decide) (by decide) dX6_init_64 (fun q8 => ?_)
  show JC X 66 [(0, .ref h0)] [.ref q8, .ref h0] [(h0, .inr (6, [.ref q1, .int 0, .ref q2, .int 0, .int 0, .int 0, .int 0, .int 0, .int 0, .ref q3, .ref q4, .int 0, .ref q5, .ref q6, .ref q7, .null, .int 0, .null, .int 0, .int 0, .int 0, .int 0, .null, .null, .long 0])), (q1, .inl ((xcA X), 28, .inl (fun _ => 0))), (q2, .inl ((xcA X), 18, .inl (fun _ => 0))), (q3, .inl ((xcA X), 6, .inl (fun _ => 0))), (q4, .inl ((xcA X), 12, .inl (fun _ => 0))), (q5, .inl ((xcA X), 12, .inl (fun _ => 0))), (q6, .inl ((xcA X), 6, .inl (fun _ => 0))), (q7, .inl ((xcA X), 384, .inl (fun _ => 0))), (q8, .inl ((xcA X), 36, .inl (fun _ => 0)))] 8 502
  refine JC.putF (k := 15) (ty := .array .int) (fs' := [.ref q1, .int 0, .ref q2, .int 0, .int 0, .int 0, .int 0, .int 0, .int 0, .ref q3, .ref q4, .int 0, .ref q5, .ref q6, .ref q7, .ref q8, .int 0, .null, .int 0, .int 0, .int 0, .int 0, .null, .null, .long 0]) hX hM.2.1 rfl inG6 tyX6_ok nmX6 (by decide) lf_RX6_31 rfl rfl (by decide +kernel) rfl rfl (Nat.le_of_ble_eq_true rfl) rfl dX6_init_66 ?_
  refine JC.aload_n hX 0 dX6_init_69 rfl ?_
  refine JC.bipush (v := 16) hX dX6_init_70 (by decide) ?_
  refine JC.newa (N := 16) hX arr_int (by decide) (by decide) (by decide) (by decide) (by decide) dX6_init_72 (fun q9 => ?_)
  show JC X 74 [(0, .ref h0)] [.ref q9, .ref h0] [(h0, .inr (6, [.ref q1, .int 0, .ref q2, .int 0, .int 0, .int 0, .int 0, .int 0, .int 0, .ref q3, .ref q4, .int 0, .ref q5, .ref q6, .ref q7, .ref q8, .int 0, .null, .int 0, .int 0, .int 0, .int 0, .null, .null, .long 0])), (q1, .inl ((xcA X), 28, .inl (fun _ => 0))), (q2, .inl ((xcA X), 18, .inl (fun _ => 0))), (q3, .inl ((xcA X), 6, .inl (fun _ => 0))), (q4, .inl ((xcA X), 12, .inl (fun _ => 0))), (q5, .inl ((xcA X), 12, .inl (fun _ => 0))), (q6, .inl ((xcA X), 6, .inl (fun _ => 0))), (q7, .inl ((xcA X), 384, .inl (fun _ => 0))), (q8, .inl ((xcA X), 36, .inl (fun _ => 0))), (q9, .inl ((xcA X), 16, .inl (fun _ => 0)))] 9 518
  refine JC.putF (k := 17) (ty := .array .int) (fs' := [.ref q1, .int 0, .ref q2, .int 0, .int 0, .int 0, .int 0, .int 0, .int 0, .ref q3, .ref q4, .int 0, .ref q5, .ref q6, .ref q7, .ref q8, .int 0, .ref q9, .int 0, .int 0, .int 0, .int 0, .null, .null, .long 0]) hX hM.2.1 rfl inG6 tyX6_ok nmX6 (by decide) lf_RX6_34 rfl rfl (by decide +kernel) rfl rfl (Nat.le_of_ble_eq_true rfl) rfl dX6_init_74 ?_
  refine JC.aload_n hX 0 dX6_init_77 rfl ?_
  refine JC.bipush (v := 12) hX dX6_init_78 (by decide) ?_
  refine JC.newa (N := 12) hX arr_int (by decide) (by decide) (by decide) (by decide) (by decide) dX6_init_80 (fun q10 => ?_)
  show JC X 82 [(0, .ref h0)] [.ref q10, .ref h0] [(h0, .inr (6, [.ref q1, .int 0, .ref q2, .int 0, .int 0, .int 0, .int 0, .int 0, .int 0, .ref q3, .ref q4, .int 0, .ref q5, .ref q6, .ref q7, .ref q8, .int 0, .ref q9, .int 0, .int 0, .int 0, .int 0, .null, .null, .long 0])), (q1, .inl ((xcA X), 28, .inl (fun _ => 0))), (q2, .inl ((xcA X), 18, .inl (fun _ => 0))), (q3, .inl ((xcA X), 6, .inl (fun _ => 0))), (q4, .inl ((xcA X), 12, .inl (fun _ => 0))), (q5, .inl ((xcA X), 12, .inl (fun _ => 0))), (q6, .inl ((xcA X), 6, .inl (fun _ => 0))), (q7, .inl ((xcA X), 384, .inl (fun _ => 0))), (q8, .inl ((xcA X), 36, .inl (fun _ => 0))), (q9, .inl ((xcA X), 16, .inl (fun _ => 0))), (q10, .inl ((xcA X), 12, .inl (fun _ => 0)))] 10 530
  refine JC.putF (k := 22) (ty := .array .int) (fs' := [.ref q1, .int 0, .ref q2, .int 0, .int 0, .int 0, .int 0, .int 0, .int 0, .ref q3, .ref q4, .int 0, .ref q5, .ref q6, .ref q7, .ref q8, .int 0, .ref q9, .int 0, .int 0, .int 0, .int 0, .ref q10, .null, .long 0]) hX hM.2.1 rfl inG6 tyX6_ok nmX6 (by decide) lf_RX6_37 rfl rfl (by decide +kernel) rfl rfl (Nat.le_of_ble_eq_true rfl) rfl dX6_init_82 ?_
  refine JC.aload_n hX 0 dX6_init_85 rfl ?_
  refine JC.bipush (v := 16) hX dX6_init_86 (by decide) ?_
  refine JC.newa (N := 16) hX arr_int (by decide) (by decide) (by decide) (by decide) (by decide) dX6_init_88 (fun q11 => ?_)
  show JC X 90 [(0, .ref h0)] [.ref q11, .ref h0] [(h0, .inr (6, [.ref q1, .int 0, .ref q2, .int 0, .int 0, .int 0, .int 0, .int 0, .int 0, .ref q3, .ref q4, .int 0, .ref q5, .ref q6, .ref q7, .ref q8, .int 0, .ref q9, .int 0, .int 0, .int 0, .int 0, .ref q10, .null, .long 0])), (q1, .inl ((xcA X), 28, .inl (fun _ => 0))), (q2, .inl ((xcA X), 18, .inl (fun _ => 0))), (q3, .inl ((xcA X), 6, .inl (fun _ => 0))), (q4, .inl ((xcA X), 12, .inl (fun _ => 0))), (q5, .inl ((xcA X), 12, .inl (fun _ => 0))), (q6, .inl ((xcA X), 6, .inl (fun _ => 0))), (q7, .inl ((xcA X), 384, .inl (fun _ => 0))), (q8, .inl ((xcA X), 36, .inl (fun _ => 0))), (q9, .inl ((xcA X), 16, .inl (fun _ => 0))), (q10, .inl ((xcA X), 12, .inl (fun _ => 0))), (q11, .inl ((xcA X), 16, .inl (fun _ => 0)))] 11 546
  refine JC.putF (k := 23) (ty := .array .int) (fs' := [.ref q1, .int 0, .ref q2, .int 0, .int 0, .int 0, .int 0, .int 0, .int 0, .ref q3, .ref q4, .int 0, .ref q5, .ref q6, .ref q7, .ref q8, .int 0, .ref q9, .int 0, .int 0, .int 0, .int 0, .ref q10, .ref q11, .long 0]) hX hM.2.1 rfl inG6 tyX6_ok nmX6 (by decide) lf_RX6_40 rfl rfl (by decide +kernel) rfl rfl (Nat.le_of_ble_eq_true rfl) rfl dX6_init_90 ?_
  refine JC.aload_n hX 0 dX6_init_93 rfl ?_
  refine JC.iconst (v := -1) hX dX6_init_94 (by decide) ?_
  refine JC.put (k := 19) (ty := .int) (fs' := [.ref q1, .int 0, .ref q2, .int 0, .int 0, .int 0, .int 0, .int 0, .int 0, .ref q3, .ref q4, .int 0, .ref q5, .ref q6, .ref q7, .ref q8, .int 0, .ref q9, .int 0, .int (-1), .int 0, .int 0, .ref q10, .ref q11, .long 0]) hX rfl inG6 tyX6_ok nmX6 (by decide) lf_RX6_43 rfl (by decide +kernel) rfl rfl (Nat.le_of_ble_eq_true rfl) rfl dX6_init_95 ?_
  exact JC.vret hX hM [q1, q2, q3, q4, q5, q6, q7, q8, q9, q10, q11] rfl rfl dX6_init_98
