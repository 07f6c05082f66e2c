set_option maxRecDepth 100000 in
theorem ct_M_nextOf (σ : ST) (res : Int32) (h : f_M_nextOf σ = some res) : Ct 3 yX6_nextOf cX6_nextOf 2 (some .int) (fun ad => [.ref (ad 31)]) σ (some (.int res)) σ := by
  refine Ct.of (ls := fun ad => [(0, .ref (ad 31))]) (by decide +kernel) (fun ad => Nat.le_of_ble_eq_true rfl) (fun ad => rfl) (fun X hX hM => ?_)
  replace hX : Ok X RX6 cX6_nextOf 2 3 := hX
  unfold f_M_nextOf at h
  refine JJ.aload_n hX 0 dX6_nextOf_0 rfl ?_
  obtain ⟨q1, h1, h⟩ := bnd h
  refine JJ.callVi hX (ct_M_whereOf  _ _ h1) cal_yX6_whereOf cav_yX6_whereOf lm_RX6_171 rfl rfl rfl (Rcv.obj hX (ci := 6) rfl rfl) (Nat.le_of_ble_eq_true rfl) ⟨by decide, by decide⟩ dX6_nextOf_1 ?_
  refine JJ.istore_n (ls' := [(0, .ref (xad X 31)), (1, .int q1)]) hX dX6_nextOf_4 (by decide) rfl rfl ?_
  refine JJ.iload_n hX 1 dX6_nextOf_5 rfl ?_
  refine JJ.if_ne (tgt := 11) hX dX6_nextOf_6 (by decide) (fun c2 => ?_) (fun c2 => ?_)
  · replace h := ineg c2 h
    refine JJ.aload_n hX 0 dX6_nextOf_11 rfl ?_
    refine JJ.iload_n hX 1 dX6_nextOf_12 rfl ?_
    refine JJ.iconst (v := 1) hX dX6_nextOf_13 (by decide) ?_
    obtain ⟨q3, h3, h⟩ := bnd h
    refine JJ.callVi hX (ct_M_worstBy _ _ _ _ h3) cal_yX6_worstBy cav_yX6_worstBy lm_RX6_177 rfl rfl rfl (Rcv.obj hX (ci := 6) rfl rfl) (Nat.le_of_ble_eq_true rfl) ⟨by decide, by decide⟩ dX6_nextOf_14 ?_
    refine JJ.aload_n hX 0 dX6_nextOf_17 rfl ?_
    refine JJ.iload_n hX 1 dX6_nextOf_18 rfl ?_
    refine JJ.iconst (v := 0) hX dX6_nextOf_19 (by decide) ?_
    obtain ⟨q4, h4, h⟩ := bnd h
    refine JJ.callVi hX (ct_M_worstBy _ _ _ _ h4) cal_yX6_worstBy cav_yX6_worstBy lm_RX6_177 rfl rfl rfl (Rcv.obj hX (ci := 6) rfl rfl) (Nat.le_of_ble_eq_true rfl) ⟨by decide, by decide⟩ dX6_nextOf_20 ?_
    refine JJ.icmp_ge (tgt := 30) hX dX6_nextOf_23 (by decide) (fun c5 => ?_) (fun c5 => ?_)
    · replace h := ipos c5 h
      refine JJ.iconst (v := 0) hX dX6_nextOf_30 (by decide) ?_
      obtain rfl := Option.some.inj h
      exact JJ.iret hX hM dX6_nextOf_31
    · replace h := ineg c5 h
      refine JJ.iconst (v := 1) hX dX6_nextOf_26 (by decide) ?_
      refine JJ.goto (tgt := 31) hX dX6_nextOf_27 (by decide) ?_
      obtain rfl := Option.some.inj h
      exact JJ.iret hX hM dX6_nextOf_31
  · replace h := ipos c2 h
    refine JJ.iconst (v := -1) hX dX6_nextOf_9 (by decide) ?_
    obtain rfl := Option.some.inj h
    exact JJ.iret hX hM dX6_nextOf_10
set_option maxRecDepth 100000 in
theorem ct_M_next (σ : ST) (res : Int32) (h : f_M_next σ = some res) : Ct 4 yX6_next cX6_next 1 (some .int) (fun ad => [.ref (ad 31)]) σ (some (.int res)) σ := by
  refine Ct.of (ls := fun ad => [(0, .ref (ad 31))]) (by decide +kernel) (fun ad => Nat.le_of_ble_eq_true rfl) (fun ad => rfl) (fun X hX hM => ?_)
  replace hX : Ok X RX6 cX6_next 1 4 := hX
  unfold f_M_next at h
  refine JJ.aload_n hX 0 dX6_next_0 rfl ?_
  refine JJ.callVi hX (ct_M_lacks  _ _ rfl) cal_yX6_lacks cav_yX6_lacks lm_RX6_167 rfl rfl rfl (Rcv.obj hX (ci := 6) rfl rfl) (Nat.le_of_ble_eq_true rfl) ⟨by decide, by decide⟩ dX6_next_1 ?_
  refine JJ.if_eq (tgt := 12) hX dX6_next_4 (by decide) (fun c1 => ?_) (fun c1 => ?_)
  · replace h := ipos c1 h
    refine JJ.aload_n hX 0 dX6_next_12 rfl ?_
    obtain ⟨q2, h2, h⟩ := bnd h
    refine JJ.callVi hX (ct_M_nextOf  _ _ h2) cal_yX6_nextOf cav_yX6_nextOf lm_RX6_180 rfl rfl rfl (Rcv.obj hX (ci := 6) rfl rfl) (Nat.le_of_ble_eq_true rfl) ⟨by decide, by decide⟩ dX6_next_13 ?_
    obtain rfl := Option.some.inj h
    exact JJ.iret hX hM dX6_next_16
  · replace h := ineg c1 h
    refine JJ.bipush (v := -103) hX dX6_next_7 (by decide) ?_
    refine JJ.goto (tgt := 16) hX dX6_next_9 (by decide) ?_
    obtain rfl := Option.some.inj h
    exact JJ.iret hX hM dX6_next_16
set_option maxRecDepth 100000 in
theorem ct_LT_seedAfter (p0 : Int32) (σ : ST) (res : Int32) (h : f_LT_seedAfter p0 = res) : Ct 0 yX5_seedAfter cX5_seedAfter 1 (some .int) (fun ad => [.int p0]) σ (some (.int res)) σ := by
  refine Ct.of (ls := fun ad => [(0, .int p0)]) (by decide +kernel) (fun ad => Nat.le_of_ble_eq_true rfl) (fun ad => rfl) (fun X hX hM => ?_)
  replace hX : Ok X RX5 cX5_seedAfter 1 0 := hX
  unfold f_LT_seedAfter at h
  refine JJ.ldc2 hX lc_RX5_260 dX5_seedAfter_0 ?_
  refine JJ.iload_n hX 0 dX5_seedAfter_3 rfl ?_
  refine JJ.i2l hX dX5_seedAfter_4 ?_
  refine JJ.lmul hX dX5_seedAfter_5 ?_
  refine JJ.ldc2 hX lc_RX5_262 dX5_seedAfter_6 ?_
  refine JJ.ladd hX dX5_seedAfter_9 ?_
  refine JJ.ldc2 hX lc_RX5_264 dX5_seedAfter_10 ?_
  refine JJ.lrem hX dX5_seedAfter_13 (by decide) ?_
  refine JJ.l2i hX dX5_seedAfter_14 ?_
  subst h
  exact JJ.iret hX hM dX5_seedAfter_15
set_option maxRecDepth 100000 in
theorem ct_LT_drawOfTwo (p0 : Int32) (σ : ST) (res : Int32) (h : f_LT_drawOfTwo p0 = res) : Ct 0 yX5_drawOfTwo cX5_drawOfTwo 1 (some .int) (fun ad => [.int p0]) σ (some (.int res)) σ := by
  refine Ct.of (ls := fun ad => [(0, .int p0)]) (by decide +kernel) (fun ad => Nat.le_of_ble_eq_true rfl) (fun ad => rfl) (fun X hX hM => ?_)
  replace hX : Ok X RX5 cX5_drawOfTwo 1 0 := hX
  unfold f_LT_drawOfTwo at h
  refine JJ.iload_n hX 0 dX5_drawOfTwo_0 rfl ?_
  refine JJ.ldcw hX lc_RX5_266 dX5_drawOfTwo_1 ?_
  refine JJ.idiv hX dX5_drawOfTwo_4 (by decide) ?_
  refine JJ.iconst (v := 2) hX dX5_drawOfTwo_5 (by decide) ?_
  refine JJ.irem hX dX5_drawOfTwo_6 (by decide) ?_
  subst h
  exact JJ.iret hX hM dX5_drawOfTwo_7
set_option maxRecDepth 100000 in
theorem lp_LT_walks_49 {X : CX} {σ : ST} (hX : Ok X RX5 cX5_walks 10 3) : ∀ (n : Nat) (x2 : Int32) (x4 : Int32) (x5 : Int32) (x6 : Int32) (x7 : Int32) (x8 : Int32) (x9 : Int32) (e : (Int32 × Int32 × Int32 × Int32)), f_LT_walks_L49 n x2 x4 x5 x6 x7 x8 x9 σ = some e → JJ X 107 [(4, .int x4), (5, .int e.1), (6, .int e.2.1), (7, .int e.2.2.1), (8, .int e.2.2.2)] [] σ → JJ X 49 [(0, .ref (xad X 0)), (2, .int x2), (4, .int x4), (5, .int x5), (6, .int x6), (7, .int x7), (8, .int x8), (9, .int x9)] [] σ := by
  intro n
  induction n with
  | zero =>
    intro x2 x4 x5 x6 x7 x8 x9 e h
    rw [f_LT_walks_L49] at h
    cases h
  | succ n ih =>
    intro x2 x4 x5 x6 x7 x8 x9 e h K
    rw [f_LT_walks_L49] at h
    refine JJ.iload hX 7 dX5_walks_49 rfl ?_
    refine JJ.iload_n hX 1 dX5_walks_51 rfl ?_
    refine JJ.icmp_ge (tgt := 107) hX dX5_walks_52 (by decide) (fun c5 => ?_) (fun c5 => ?_)
    · replace h := ipos c5 h
      obtain rfl := Option.some.inj h
      exact JJ.sub [2, 3, 4, 5, 6] rfl K
    · replace h := ineg c5 h
      refine JJ.iload hX 6 dX5_walks_55 rfl ?_
      refine JJ.callSi hX (ct_LT_seedAfter _ _ _ rfl) cal_yX5_seedAfter cas_yX5_seedAfter lm_RX5_193 rfl rfl (Nat.le_of_ble_eq_true rfl) ⟨by decide, by decide⟩ dX5_walks_57 ?_
      refine JJ.istore (ls' := [(0, .ref (xad X 0)), (2, .int x2), (4, .int x4), (5, .int x5), (6, .int x6), (7, .int x7), (8, .int (f_LT_seedAfter x8)), (9, .int x9)]) hX dX5_walks_60 (by decide) rfl rfl ?_
      refine JJ.aload_n hX 0 dX5_walks_62 rfl ?_
      refine fg_X5_19_0 hX dX5_walks_63 ?_
      refine JJ.iload hX 3 dX5_walks_66 rfl ?_
      refine JJ.iload hX 6 dX5_walks_68 rfl ?_
      refine JJ.callSi hX (ct_LT_drawOfTwo _ _ _ rfl) cal_yX5_drawOfTwo cas_yX5_drawOfTwo lm_RX5_196 rfl rfl (Nat.le_of_ble_eq_true rfl) ⟨by decide, by decide⟩ dX5_walks_70 ?_
      refine JJ.callVi hX (ct_Mine_leadsTo _ _ _ _ rfl) cal_yX1_leadsTo cav_yX1_leadsTo lm_RX5_84 rfl rfl rfl (Rcv.obj hX (ci := 1) rfl rfl) (Nat.le_of_ble_eq_true rfl) ⟨by decide, by decide⟩ dX5_walks_73 ?_
      refine JJ.istore (ls' := [(0, .ref (xad X 0)), (2, .int x2), (4, .int x4), (5, .int (f_Mine_leadsTo x5 (f_LT_drawOfTwo (f_LT_seedAfter x8)) σ)), (6, .int x6), (7, .int x7), (8, .int (f_LT_seedAfter x8)), (9, .int x9)]) hX dX5_walks_76 (by decide) rfl rfl ?_
      refine JJ.iload hX 4 dX5_walks_78 rfl ?_
      refine JJ.iconst (v := 1) hX dX5_walks_80 (by decide) ?_
      refine JJ.iload hX 3 dX5_walks_81 rfl ?_
      refine JJ.ishl hX dX5_walks_83 ?_
      refine JJ.ior hX dX5_walks_84 ?_
      refine JJ.istore (ls' := [(0, .ref (xad X 0)), (2, .int x2), (4, .int x4), (5, .int (f_Mine_leadsTo x5 (f_LT_drawOfTwo (f_LT_seedAfter x8)) σ)), (6, .int (x6 ||| ((1 : Int32) <<< ((f_Mine_leadsTo x5 (f_LT_drawOfTwo (f_LT_seedAfter x8)) σ) &&& 31)))), (7, .int x7), (8, .int (f_LT_seedAfter x8)), (9, .int x9)]) hX dX5_walks_85 (by decide) rfl rfl ?_
      refine JJ.iload hX 5 dX5_walks_87 rfl ?_
      refine JJ.aload_n hX 0 dX5_walks_89 rfl ?_
      refine fg_X5_19_0 hX dX5_walks_90 ?_
      refine JJ.iload hX 3 dX5_walks_93 rfl ?_
      refine JJ.callVi hX (ct_Mine_soundOf _ _ _ rfl) cal_yX1_soundOf cav_yX1_soundOf lm_RX5_88 rfl rfl rfl (Rcv.obj hX (ci := 1) rfl rfl) (Nat.le_of_ble_eq_true rfl) ⟨by decide, by decide⟩ dX5_walks_95 ?_
      refine JJ.iadd hX dX5_walks_98 ?_
      refine JJ.istore (ls' := [(0, .ref (xad X 0)), (2, .int x2), (4, .int x4), (5, .int (f_Mine_leadsTo x5 (f_LT_drawOfTwo (f_LT_seedAfter x8)) σ)), (6, .int (x6 ||| ((1 : Int32) <<< ((f_Mine_leadsTo x5 (f_LT_drawOfTwo (f_LT_seedAfter x8)) σ) &&& 31)))), (7, .int (x7 + (f_Mine_soundOf (f_Mine_leadsTo x5 (f_LT_drawOfTwo (f_LT_seedAfter x8)) σ) σ))), (8, .int (f_LT_seedAfter x8)), (9, .int x9)]) hX dX5_walks_99 (by decide) rfl rfl ?_
      refine JJ.iinc (v := 1) (ls' := [(0, .ref (xad X 0)), (2, .int x2), (4, .int x4), (5, .int (f_Mine_leadsTo x5 (f_LT_drawOfTwo (f_LT_seedAfter x8)) σ)), (6, .int (x6 ||| ((1 : Int32) <<< ((f_Mine_leadsTo x5 (f_LT_drawOfTwo (f_LT_seedAfter x8)) σ) &&& 31)))), (7, .int (x7 + (f_Mine_soundOf (f_Mine_leadsTo x5 (f_LT_drawOfTwo (f_LT_seedAfter x8)) σ) σ))), (8, .int (f_LT_seedAfter x8)), (9, .int (x9 + (1 : Int32)))]) hX 7 dX5_walks_101 rfl (by decide) (by decide) rfl rfl ?_
      refine JJ.goto (tgt := 49) hX dX5_walks_104 (by decide) ?_
      exact ih _ _ _ _ _ _ _ _ h K
set_option maxRecDepth 100000 in
theorem ct_LT_walks (p1 : Int32) (p2 : Int32) (p3 : Int32) (p4 : Int32) (σ : ST) (res : Int32) (h : f_LT_walks p1 p2 p3 p4 σ = some res) : Ct 3 yX5_walks cX5_walks 10 (some .int) (fun ad => [.int p4, .int p3, .int p2, .int p1, .ref (ad 0)]) σ (some (.int res)) σ := by
  refine Ct.of (ls := fun ad => [(0, .ref (ad 0)), (1, .int p1), (2, .int p2), (3, .int p3), (4, .int p4)]) (by decide +kernel) (fun ad => Nat.le_of_ble_eq_true rfl) (fun ad => rfl) (fun X hX hM => ?_)
  replace hX : Ok X RX5 cX5_walks 10 3 := hX
  unfold f_LT_walks at h
  refine JJ.aload_n hX 0 dX5_walks_0 rfl ?_
  refine fg_X5_19_0 hX dX5_walks_1 ?_
  refine JJ.iload_n hX 1 dX5_walks_4 rfl ?_
  refine JJ.callVi hX (ct_Mine_has _ _ _ rfl) cal_yX1_has cav_yX1_has lm_RX5_76 rfl rfl rfl (Rcv.obj hX (ci := 1) rfl rfl) (Nat.le_of_ble_eq_true rfl) ⟨by decide, by decide⟩ dX5_walks_5 ?_
  refine JJ.if_ne (tgt := 14) hX dX5_walks_8 (by decide) (fun c1 => ?_) (fun c1 => ?_)
  · replace h := ineg c1 h
    refine JJ.iload_n hX 2 dX5_walks_14 rfl ?_
    refine JJ.iconst (v := 1) hX dX5_walks_15 (by decide) ?_
    refine JJ.icmp_lt (tgt := 29) hX dX5_walks_16 (by decide) (fun c2 => ?_) (fun c2 => ?_)
    · replace h := ipos c2 h
      refine JJ.bipush (v := -102) hX dX5_walks_29 (by decide) ?_
      obtain rfl := Option.some.inj h
      exact JJ.iret hX hM dX5_walks_31
    · replace h := ineg c2 h
      refine JJ.iload_n hX 2 dX5_walks_19 rfl ?_
      refine JJ.bipush (v := 60) hX dX5_walks_20 (by decide) ?_
      refine JJ.icmp_gt (tgt := 29) hX dX5_walks_22 (by decide) (fun c3 => ?_) (fun c3 => ?_)
      · replace h := ipos c3 h
        refine JJ.bipush (v := -102) hX dX5_walks_29 (by decide) ?_
        obtain rfl := Option.some.inj h
        exact JJ.iret hX hM dX5_walks_31
      · replace h := ineg c3 h
        refine JJ.iload_n hX 3 dX5_walks_25 rfl ?_
        refine JJ.if_ge (tgt := 32) hX dX5_walks_26 (by decide) (fun c4 => ?_) (fun c4 => ?_)
        · replace h := ipos c4 h
          refine JJ.iload_n hX 1 dX5_walks_32 rfl ?_
          refine JJ.istore (ls' := [(0, .ref (xad X 0)), (1, .int p1), (2, .int p2), (3, .int p3), (4, .int p4), (5, .int p1)]) hX dX5_walks_33 (by decide) rfl rfl ?_
          refine JJ.iconst (v := 1) hX dX5_walks_35 (by decide) ?_
          refine JJ.iload_n hX 1 dX5_walks_36 rfl ?_
          refine JJ.ishl hX dX5_walks_37 ?_
          refine JJ.istore (ls' := [(0, .ref (xad X 0)), (1, .int p1), (2, .int p2), (3, .int p3), (4, .int p4), (5, .int p1), (6, .int ((1 : Int32) <<< (p1 &&& 31)))]) hX dX5_walks_38 (by decide) rfl rfl ?_
          refine JJ.iconst (v := 0) hX dX5_walks_40 (by decide) ?_
          refine JJ.istore (ls' := [(0, .ref (xad X 0)), (1, .int p1), (2, .int p2), (3, .int p3), (4, .int p4), (5, .int p1), (6, .int ((1 : Int32) <<< (p1 &&& 31))), (7, .int (0 : Int32))]) hX dX5_walks_41 (by decide) rfl rfl ?_
          refine JJ.iload_n hX 3 dX5_walks_43 rfl ?_
          refine JJ.istore (ls' := [(0, .ref (xad X 0)), (1, .int p1), (2, .int p2), (3, .int p3), (4, .int p4), (5, .int p1), (6, .int ((1 : Int32) <<< (p1 &&& 31))), (7, .int (0 : Int32)), (8, .int p3)]) hX dX5_walks_44 (by decide) rfl rfl ?_
          refine JJ.iconst (v := 0) hX dX5_walks_46 (by decide) ?_
          refine JJ.istore (ls' := [(0, .ref (xad X 0)), (1, .int p1), (2, .int p2), (3, .int p3), (4, .int p4), (5, .int p1), (6, .int ((1 : Int32) <<< (p1 &&& 31))), (7, .int (0 : Int32)), (8, .int p3), (9, .int (0 : Int32))]) hX dX5_walks_47 (by decide) rfl rfl ?_
          obtain ⟨e6, h6, h⟩ := bnd h
          refine JJ.sub (ls' := [(0, .ref (xad X 0)), (2, .int p2), (4, .int p4), (5, .int p1), (6, .int ((1 : Int32) <<< (p1 &&& 31))), (7, .int (0 : Int32)), (8, .int p3), (9, .int (0 : Int32))]) [0, 2, 4, 5, 6, 7, 8, 9] rfl ?_
          refine lp_LT_walks_49 hX 400 _ _ _ _ _ _ _ _ h6 ?_
          refine JJ.iload hX 0 dX5_walks_107 rfl ?_
          by_cases c7 : p4 = (0 : Int32)
          · replace h := ipos c7 h
            refine JJ.tableIn (v := 0) (tgt := 140) hX c7 dX5_walks_109 (by decide) (by decide) rfl (by decide) ?_
            refine JJ.iload hX 2 dX5_walks_140 rfl ?_
            refine JJ.callSi hX (ct_Integer_bitCount _ _ _ rfl) cal_yJ6_bitCount_0f7a4 cas_yJ6_bitCount_0f7a4 lm_RX5_199 rfl rfl (Nat.le_of_ble_eq_true rfl) ⟨by decide, by decide⟩ dX5_walks_142 ?_
            obtain rfl := Option.some.inj h
            exact JJ.iret hX hM dX5_walks_145
          · replace h := ineg c7 h
            by_cases c8 : p4 = (1 : Int32)
            · replace h := ipos c8 h
              refine JJ.tableIn (v := 1) (tgt := 146) hX c8 dX5_walks_109 (by decide) (by decide) rfl (by decide) ?_
              refine JJ.iload hX 1 dX5_walks_146 rfl ?_
              obtain rfl := Option.some.inj h
              exact JJ.iret hX hM dX5_walks_148
            · replace h := ineg c8 h
              by_cases c9 : p4 = (2 : Int32)
              · replace h := ipos c9 h
                refine JJ.tableIn (v := 2) (tgt := 149) hX c9 dX5_walks_109 (by decide) (by decide) rfl (by decide) ?_
                refine JJ.iload hX 3 dX5_walks_149 rfl ?_
                obtain rfl := Option.some.inj h
                exact JJ.iret hX hM dX5_walks_151
              · replace h := ineg c9 h
                by_cases c10 : p4 = (3 : Int32)
                · replace h := ipos c10 h
                  refine JJ.tableIn (v := 3) (tgt := 152) hX c10 dX5_walks_109 (by decide) (by decide) rfl (by decide) ?_
                  refine JJ.iload hX 4 dX5_walks_152 rfl ?_
                  obtain rfl := Option.some.inj h
                  exact JJ.iret hX hM dX5_walks_154
                · replace h := ineg c10 h
                  refine JJ.tableOut (tgt := 155) hX dX5_walks_109 (sw_out (n := 3) (fun k hk => by
                    rcases k with _|_|_|_|k
                    · exact c7
                    · exact c8
                    · exact c9
                    · exact c10
                    · exact absurd hk (by omega)) (by decide)) (by decide) ?_
                  refine JJ.bipush (v := -102) hX dX5_walks_155 (by decide) ?_
                  obtain rfl := Option.some.inj h
                  exact JJ.iret hX hM dX5_walks_157
        · replace h := ineg c4 h
          refine JJ.bipush (v := -102) hX dX5_walks_29 (by decide) ?_
          obtain rfl := Option.some.inj h
          exact JJ.iret hX hM dX5_walks_31
  · replace h := ipos c1 h
    refine JJ.bipush (v := -101) hX dX5_walks_11 (by decide) ?_
    obtain rfl := Option.some.inj h
    exact JJ.iret hX hM dX5_walks_13
set_option maxRecDepth 100000 in
theorem ct_M_draw (p1 : Int32) (σ : ST) (res : Int32 × ST) (h : f_M_draw p1 σ = some res) : Ct 0 yX6_draw cX6_draw 2 (some .int) (fun ad => [.int p1, .ref (ad 31)]) σ (some (.int res.1)) res.2 := by
  refine Ct.of (ls := fun ad => [(0, .ref (ad 31)), (1, .int p1)]) (by decide +kernel) (fun ad => Nat.le_of_ble_eq_true rfl) (fun ad => rfl) (fun X hX hM => ?_)
  replace hX : Ok X RX6 cX6_draw 2 0 := hX
  unfold f_M_draw at h
  refine JJ.aload_n hX 0 dX6_draw_0 rfl ?_
  refine JJ.ldc2 hX lc_RX6_183 dX6_draw_1 ?_
  refine JJ.aload_n hX 0 dX6_draw_4 rfl ?_
  refine fg_X6_185_31 hX dX6_draw_5 ?_
  refine JJ.i2l hX dX6_draw_8 ?_
  refine JJ.lmul hX dX6_draw_9 ?_
  refine JJ.ldc2 hX lc_RX6_188 dX6_draw_10 ?_
  refine JJ.ladd hX dX6_draw_13 ?_
  refine JJ.ldc2 hX lc_RX6_190 dX6_draw_14 ?_
  refine JJ.land hX dX6_draw_17 ?_
  refine JJ.l2i hX dX6_draw_18 ?_
  refine fp_X6_185_31 hX dX6_draw_19 ?_
  refine JJ.aload_n hX 0 dX6_draw_22 rfl ?_
  refine fg_X6_185_31 hX dX6_draw_23 ?_
  refine JJ.ldc hX lc_RX6_192 dX6_draw_26 ?_
  refine JJ.idiv hX dX6_draw_28 (by decide) ?_
  refine JJ.iload_n hX 1 dX6_draw_29 rfl ?_
  obtain ⟨c1, h⟩ := gte h
  refine JJ.irem hX dX6_draw_30 c1 ?_
  obtain rfl := Option.some.inj h
  exact JJ.iret hX hM dX6_draw_31
set_option maxRecDepth 100000 in
theorem lp_M_walks_62 {X : CX} (hX : Ok X RX6 cX6_walks 9 2) : ∀ (n : Nat) (x2 : Int32) (x4 : Int32) (x5 : Int32) (x6 : Int32) (x7 : Int32) (x8 : Int32) (σ : ST) (e : (Int32 × Int32 × Int32 × ST)), f_M_walks_L62 n x2 x4 x5 x6 x7 x8 σ = some e → JJ X 111 [(0, .ref (xad X 31)), (4, .int x4), (5, .int e.1), (6, .int e.2.1), (7, .int e.2.2.1)] [] e.2.2.2 → JJ X 62 [(0, .ref (xad X 31)), (2, .int x2), (4, .int x4), (5, .int x5), (6, .int x6), (7, .int x7), (8, .int x8)] [] σ := by
  intro n
  induction n with
  | zero =>
    intro x2 x4 x5 x6 x7 x8 σ e h
    rw [f_M_walks_L62] at h
    cases h
  | succ n ih =>
    intro x2 x4 x5 x6 x7 x8 σ e h K
    rw [f_M_walks_L62] at h
    refine JJ.iload hX 6 dX6_walks_62 rfl ?_
    refine JJ.iload_n hX 1 dX6_walks_64 rfl ?_
    refine JJ.icmp_ge (tgt := 111) hX dX6_walks_65 (by decide) (fun c5 => ?_) (fun c5 => ?_)
    · replace h := ipos c5 h
      obtain rfl := Option.some.inj h
      exact JJ.sub [0, 2, 3, 4, 5] rfl K
    · replace h := ineg c5 h
      refine JJ.aload_n hX 0 dX6_walks_68 rfl ?_
      refine fg_X6_19_31 hX dX6_walks_69 ?_
      refine JJ.iconst (v := 2) hX dX6_walks_72 (by decide) ?_
      refine JJ.iload hX 3 dX6_walks_73 rfl ?_
      refine JJ.imul hX dX6_walks_75 ?_
      refine JJ.aload_n hX 0 dX6_walks_76 rfl ?_
      refine JJ.iconst (v := 2) hX dX6_walks_77 (by decide) ?_
      obtain ⟨q6, h6, h⟩ := bnd h
      refine JJ.callVi hX (ct_M_draw _ _ _ h6) cal_yX6_draw cav_yX6_draw lm_RX6_197 rfl rfl rfl (Rcv.obj hX (ci := 6) rfl rfl) (Nat.le_of_ble_eq_true rfl) ⟨by decide, by decide⟩ dX6_walks_78 ?_
      refine JJ.iadd hX dX6_walks_81 ?_
      obtain ⟨c7, h⟩ := gte h
      refine ald_35 hX c7 dX6_walks_82 ?_
      refine JJ.istore (ls' := [(0, .ref (xad X 31)), (2, .int x2), (4, .int x4), (5, .int (gA q6.2 35 (((2 : Int32) * x5) + q6.1).toNatClampNeg)), (6, .int x6), (7, .int x7), (8, .int x8)]) hX dX6_walks_83 (by decide) rfl rfl ?_
      refine JJ.iload hX 4 dX6_walks_85 rfl ?_
      refine JJ.iconst (v := 1) hX dX6_walks_87 (by decide) ?_
      refine JJ.iload hX 3 dX6_walks_88 rfl ?_
      refine JJ.ishl hX dX6_walks_90 ?_
      refine JJ.ior hX dX6_walks_91 ?_
      refine JJ.istore (ls' := [(0, .ref (xad X 31)), (2, .int x2), (4, .int x4), (5, .int (gA q6.2 35 (((2 : Int32) * x5) + q6.1).toNatClampNeg)), (6, .int (x6 ||| ((1 : Int32) <<< ((gA q6.2 35 (((2 : Int32) * x5) + q6.1).toNatClampNeg) &&& 31)))), (7, .int x7), (8, .int x8)]) hX dX6_walks_92 (by decide) rfl rfl ?_
      refine JJ.iload hX 5 dX6_walks_94 rfl ?_
      refine JJ.aload_n hX 0 dX6_walks_96 rfl ?_
      refine JJ.iload hX 3 dX6_walks_97 rfl ?_
      obtain ⟨q8, h8, h⟩ := bnd h
      refine JJ.callVi hX (ct_M_soundOf _ _ _ h8) cal_yX6_soundOf cav_yX6_soundOf lm_RX6_99 rfl rfl rfl (Rcv.obj hX (ci := 6) rfl rfl) (Nat.le_of_ble_eq_true rfl) ⟨by decide, by decide⟩ dX6_walks_99 ?_
      refine JJ.iadd hX dX6_walks_102 ?_
      refine JJ.istore (ls' := [(0, .ref (xad X 31)), (2, .int x2), (4, .int x4), (5, .int (gA q6.2 35 (((2 : Int32) * x5) + q6.1).toNatClampNeg)), (6, .int (x6 ||| ((1 : Int32) <<< ((gA q6.2 35 (((2 : Int32) * x5) + q6.1).toNatClampNeg) &&& 31)))), (7, .int (x7 + q8)), (8, .int x8)]) hX dX6_walks_103 (by decide) rfl rfl ?_
      refine JJ.iinc (v := 1) (ls' := [(0, .ref (xad X 31)), (2, .int x2), (4, .int x4), (5, .int (gA q6.2 35 (((2 : Int32) * x5) + q6.1).toNatClampNeg)), (6, .int (x6 ||| ((1 : Int32) <<< ((gA q6.2 35 (((2 : Int32) * x5) + q6.1).toNatClampNeg) &&& 31)))), (7, .int (x7 + q8)), (8, .int (x8 + (1 : Int32)))]) hX 6 dX6_walks_105 rfl (by decide) (by decide) rfl rfl ?_
      refine JJ.goto (tgt := 62) hX dX6_walks_108 (by decide) ?_
      exact ih _ _ _ _ _ _ _ _ h K
set_option maxRecDepth 100000 in
theorem ct_M_walks (p1 : Int32) (p2 : Int32) (p3 : Int32) (p4 : Int32) (σ : ST) (res : Int32 × ST) (h : f_M_walks p1 p2 p3 p4 σ = some res) : Ct 2 yX6_walks cX6_walks 9 (some .int) (fun ad => [.int p4, .int p3, .int p2, .int p1, .ref (ad 31)]) σ (some (.int res.1)) res.2 := by
  refine Ct.of (ls := fun ad => [(0, .ref (ad 31)), (1, .int p1), (2, .int p2), (3, .int p3), (4, .int p4)]) (by decide +kernel) (fun ad => Nat.le_of_ble_eq_true rfl) (fun ad => rfl) (fun X hX hM => ?_)
  replace hX : Ok X RX6 cX6_walks 9 2 := hX
  unfold f_M_walks at h
  refine JJ.aload_n hX 0 dX6_walks_0 rfl ?_
  refine JJ.iload_n hX 1 dX6_walks_1 rfl ?_
  refine JJ.callVi hX (ct_M_isCrossing _ _ _ rfl) cal_yX6_isCrossing cav_yX6_isCrossing lm_RX6_108 rfl rfl rfl (Rcv.obj hX (ci := 6) rfl rfl) (Nat.le_of_ble_eq_true rfl) ⟨by decide, by decide⟩ dX6_walks_2 ?_
  refine JJ.if_ne (tgt := 11) hX dX6_walks_5 (by decide) (fun c1 => ?_) (fun c1 => ?_)
  · replace h := ineg c1 h
    refine JJ.iload_n hX 2 dX6_walks_11 rfl ?_
    refine JJ.i2l hX dX6_walks_12 ?_
    refine JJ.lconst (v := 1) hX dX6_walks_13 (by decide) ?_
    refine JJ.ldc2 hX lc_RX6_193 dX6_walks_14 ?_
    refine JJ.callSi hX (ct_M_in _ _ _ _ _ rfl) cal_yX6_in cas_yX6_in lm_RX6_49 rfl rfl (Nat.le_of_ble_eq_true rfl) ⟨by decide, by decide⟩ dX6_walks_17 ?_
    refine JJ.if_eq (tgt := 40) hX dX6_walks_20 (by decide) (fun c2 => ?_) (fun c2 => ?_)
    · replace h := ipos c2 h
      refine JJ.bipush (v := -102) hX dX6_walks_40 (by decide) ?_
      obtain rfl := Option.some.inj h
      exact JJ.iret hX hM dX6_walks_42
    · replace h := ineg c2 h
      refine JJ.iload_n hX 3 dX6_walks_23 rfl ?_
      refine JJ.if_lt (tgt := 40) hX dX6_walks_24 (by decide) (fun c3 => ?_) (fun c3 => ?_)
      · replace h := ipos c3 h
        refine JJ.bipush (v := -102) hX dX6_walks_40 (by decide) ?_
        obtain rfl := Option.some.inj h
        exact JJ.iret hX hM dX6_walks_42
      · replace h := ineg c3 h
        refine JJ.iload hX 4 dX6_walks_27 rfl ?_
        refine JJ.i2l hX dX6_walks_29 ?_
        refine JJ.lconst (v := 0) hX dX6_walks_30 (by decide) ?_
        refine JJ.ldc2 hX lc_RX6_195 dX6_walks_31 ?_
        refine JJ.callSi hX (ct_M_in _ _ _ _ _ rfl) cal_yX6_in cas_yX6_in lm_RX6_49 rfl rfl (Nat.le_of_ble_eq_true rfl) ⟨by decide, by decide⟩ dX6_walks_34 ?_
        refine JJ.if_ne (tgt := 43) hX dX6_walks_37 (by decide) (fun c4 => ?_) (fun c4 => ?_)
        · replace h := ineg c4 h
          refine JJ.aload_n hX 0 dX6_walks_43 rfl ?_
          refine JJ.iload_n hX 3 dX6_walks_44 rfl ?_
          refine fp_X6_185_31 hX dX6_walks_45 ?_
          refine JJ.iload_n hX 1 dX6_walks_48 rfl ?_
          refine JJ.istore (ls' := [(0, .ref (xad X 31)), (1, .int p1), (2, .int p2), (3, .int p3), (4, .int p4), (5, .int p1)]) hX dX6_walks_49 (by decide) rfl rfl ?_
          refine JJ.iconst (v := 1) hX dX6_walks_51 (by decide) ?_
          refine JJ.iload_n hX 1 dX6_walks_52 rfl ?_
          refine JJ.ishl hX dX6_walks_53 ?_
          refine JJ.istore (ls' := [(0, .ref (xad X 31)), (1, .int p1), (2, .int p2), (3, .int p3), (4, .int p4), (5, .int p1), (6, .int ((1 : Int32) <<< (p1 &&& 31)))]) hX dX6_walks_54 (by decide) rfl rfl ?_
          refine JJ.iconst (v := 0) hX dX6_walks_56 (by decide) ?_
          refine JJ.istore (ls' := [(0, .ref (xad X 31)), (1, .int p1), (2, .int p2), (3, .int p3), (4, .int p4), (5, .int p1), (6, .int ((1 : Int32) <<< (p1 &&& 31))), (7, .int (0 : Int32))]) hX dX6_walks_57 (by decide) rfl rfl ?_
          refine JJ.iconst (v := 0) hX dX6_walks_59 (by decide) ?_
          refine JJ.istore (ls' := [(0, .ref (xad X 31)), (1, .int p1), (2, .int p2), (3, .int p3), (4, .int p4), (5, .int p1), (6, .int ((1 : Int32) <<< (p1 &&& 31))), (7, .int (0 : Int32)), (8, .int (0 : Int32))]) hX dX6_walks_60 (by decide) rfl rfl ?_
          obtain ⟨e9, h9, h⟩ := bnd h
          refine JJ.sub (ls' := [(0, .ref (xad X 31)), (2, .int p2), (4, .int p4), (5, .int p1), (6, .int ((1 : Int32) <<< (p1 &&& 31))), (7, .int (0 : Int32)), (8, .int (0 : Int32))]) [0, 2, 4, 5, 6, 7, 8] rfl ?_
          refine lp_M_walks_62 hX 400 _ _ _ _ _ _ _ _ h9 ?_
          refine JJ.iload hX 1 dX6_walks_111 rfl ?_
          refine JJ.if_ne (tgt := 124) hX dX6_walks_113 (by decide) (fun c10 => ?_) (fun c10 => ?_)
          · replace h := ineg c10 h
            refine JJ.iload hX 1 dX6_walks_124 rfl ?_
            refine JJ.iconst (v := 1) hX dX6_walks_126 (by decide) ?_
            refine JJ.icmp_ne (tgt := 135) hX dX6_walks_127 (by decide) (fun c11 => ?_) (fun c11 => ?_)
            · replace h := ineg c11 h
              refine JJ.iload hX 1 dX6_walks_135 rfl ?_
              refine JJ.iconst (v := 2) hX dX6_walks_137 (by decide) ?_
              refine JJ.icmp_ne (tgt := 146) hX dX6_walks_138 (by decide) (fun c12 => ?_) (fun c12 => ?_)
              · replace h := ineg c12 h
                refine JJ.aload_n hX 0 dX6_walks_146 rfl ?_
                refine fg_X6_185_31 hX dX6_walks_147 ?_
                obtain rfl := Option.some.inj h
                exact JJ.iret hX hM dX6_walks_150
              · replace h := ipos c12 h
                refine JJ.iload hX 4 dX6_walks_141 rfl ?_
                refine JJ.goto (tgt := 150) hX dX6_walks_143 (by decide) ?_
                obtain rfl := Option.some.inj h
                exact JJ.iret hX hM dX6_walks_150
            · replace h := ipos c11 h
              refine JJ.iload hX 2 dX6_walks_130 rfl ?_
              refine JJ.goto (tgt := 150) hX dX6_walks_132 (by decide) ?_
              obtain rfl := Option.some.inj h
              exact JJ.iret hX hM dX6_walks_150
          · replace h := ipos c10 h
            refine JJ.iload hX 3 dX6_walks_116 rfl ?_
            obtain ⟨q13, h13, h⟩ := bnd h
            refine JJ.callSi hX (ct_M_ones _ _ _ h13) cal_yX6_ones cas_yX6_ones lm_RX6_174 rfl rfl (Nat.le_of_ble_eq_true rfl) ⟨by decide, by decide⟩ dX6_walks_118 ?_
            refine JJ.goto (tgt := 150) hX dX6_walks_121 (by decide) ?_
            obtain rfl := Option.some.inj h
            exact JJ.iret hX hM dX6_walks_150
        · replace h := ipos c4 h
          refine JJ.bipush (v := -102) hX dX6_walks_40 (by decide) ?_
          obtain rfl := Option.some.inj h
          exact JJ.iret hX hM dX6_walks_42
  · replace h := ipos c1 h
    refine JJ.bipush (v := -101) hX dX6_walks_8 (by decide) ?_
    obtain rfl := Option.some.inj h
    exact JJ.iret hX hM dX6_walks_10
set_option maxRecDepth 100000 in
theorem lp_Camp_copyRow_18_25_2 {X : CX} (hX : Ok X RX0 cX0_copyRow 3 1) : ∀ (n : Nat) (x2 : Int32) (σ : ST) (e : (ST)), f_Camp_copyRow_18_25_L2 n x2 σ = some e → JJ X 24 [] [] e → JJ X 2 [(0, .ref (xad X 18)), (1, .ref (xad X 25)), (2, .int x2)] [] σ := by
  intro n
  induction n with
  | zero =>
    intro x2 σ e h
    rw [f_Camp_copyRow_18_25_L2] at h
    cases h
  | succ n ih =>
    intro x2 σ e h K
    rw [f_Camp_copyRow_18_25_L2] at h
    refine JJ.iload_n hX 2 dX0_copyRow_2 rfl ?_
    refine JJ.aload_n hX 1 dX0_copyRow_3 rfl ?_
    refine aln_25 hX dX0_copyRow_4 ?_
    refine JJ.icmp_ge (tgt := 24) hX dX0_copyRow_5 (by decide) (fun c1 => ?_) (fun c1 => ?_)
    · replace h := ipos c1 h
      obtain rfl := Option.some.inj h
      exact JJ.sub [] rfl K
    · replace h := ineg c1 h
      refine JJ.aload_n hX 1 dX0_copyRow_8 rfl ?_
      refine JJ.iload_n hX 2 dX0_copyRow_9 rfl ?_
      refine JJ.aload_n hX 0 dX0_copyRow_10 rfl ?_
      refine JJ.iload_n hX 2 dX0_copyRow_11 rfl ?_
      refine JJ.callSNi hX (ct_cell 18 3 (by decide) (fun _ _ _ => rfl) _ _ _ rfl) cal_yX5_cell cas_yX5_cell lm_RX0_41 rfl rfl (Nat.le_of_ble_eq_true rfl) ⟨by decide, by decide⟩ dX0_copyRow_12 ?_
      refine JJ.callSNv hX (ct_put 25 3 (by decide) (fun _ _ _ => rfl) (fun _ _ _ _ _ => rfl) _ _ _ _ rfl) cal_yX5_put cas_yX5_put lm_RX0_45 rfl rfl (Nat.le_of_ble_eq_true rfl) ⟨by decide, by decide⟩ dX0_copyRow_15 ?_
      refine JJ.iinc (v := 1) (ls' := [(0, .ref (xad X 18)), (1, .ref (xad X 25)), (2, .int (x2 + (1 : Int32)))]) hX 2 dX0_copyRow_18 rfl (by decide) (by decide) rfl rfl ?_
      refine JJ.goto (tgt := 2) hX dX0_copyRow_21 (by decide) ?_
      exact ih _ _ _ h K
set_option maxRecDepth 100000 in
theorem ct_Camp_copyRow_18_25 (σ : ST) (res : ST) (h : f_Camp_copyRow_18_25 σ = some res) : Ct 1 yX0_copyRow cX0_copyRow 3 none (fun ad => [.ref (ad 25), .ref (ad 18)]) σ none res := by
  refine Ct.of (ls := fun ad => [(0, .ref (ad 18)), (1, .ref (ad 25))]) (by decide +kernel) (fun ad => Nat.le_of_ble_eq_true rfl) (fun ad => rfl) (fun X hX hM => ?_)
  replace hX : Ok X RX0 cX0_copyRow 3 1 := hX
  unfold f_Camp_copyRow_18_25 at h
  refine JJ.iconst (v := 0) hX dX0_copyRow_0 (by decide) ?_
  refine JJ.istore_n (ls' := [(0, .ref (xad X 18)), (1, .ref (xad X 25)), (2, .int (0 : Int32))]) hX dX0_copyRow_1 (by decide) rfl rfl ?_
  obtain ⟨e2, h2, h⟩ := bnd h
  refine lp_Camp_copyRow_18_25_2 hX 400 _ _ _ h2 ?_
  obtain rfl := Option.some.inj h
  exact JJ.vret hX hM dX0_copyRow_24
set_option maxRecDepth 100000 in
theorem lp_Camp_copyRow_19_26_2 {X : CX} (hX : Ok X RX0 cX0_copyRow 3 1) : ∀ (n : Nat) (x2 : Int32) (σ : ST) (e : (ST)), f_Camp_copyRow_19_26_L2 n x2 σ = some e → JJ X 24 [] [] e → JJ X 2 [(0, .ref (xad X 19)), (1, .ref (xad X 26)), (2, .int x2)] [] σ := by
  intro n
  induction n with
  | zero =>
    intro x2 σ e h
    rw [f_Camp_copyRow_19_26_L2] at h
    cases h
  | succ n ih =>
    intro x2 σ e h K
    rw [f_Camp_copyRow_19_26_L2] at h
    refine JJ.iload_n hX 2 dX0_copyRow_2 rfl ?_
    refine JJ.aload_n hX 1 dX0_copyRow_3 rfl ?_
    refine aln_26 hX dX0_copyRow_4 ?_
    refine JJ.icmp_ge (tgt := 24) hX dX0_copyRow_5 (by decide) (fun c1 => ?_) (fun c1 => ?_)
    · replace h := ipos c1 h
      obtain rfl := Option.some.inj h
      exact JJ.sub [] rfl K
    · replace h := ineg c1 h
      refine JJ.aload_n hX 1 dX0_copyRow_8 rfl ?_
      refine JJ.iload_n hX 2 dX0_copyRow_9 rfl ?_
      refine JJ.aload_n hX 0 dX0_copyRow_10 rfl ?_
      refine JJ.iload_n hX 2 dX0_copyRow_11 rfl ?_
      refine JJ.callSNi hX (ct_cell 19 3 (by decide) (fun _ _ _ => rfl) _ _ _ rfl) cal_yX5_cell cas_yX5_cell lm_RX0_41 rfl rfl (Nat.le_of_ble_eq_true rfl) ⟨by decide, by decide⟩ dX0_copyRow_12 ?_
      refine JJ.callSNv hX (ct_put 26 3 (by decide) (fun _ _ _ => rfl) (fun _ _ _ _ _ => rfl) _ _ _ _ rfl) cal_yX5_put cas_yX5_put lm_RX0_45 rfl rfl (Nat.le_of_ble_eq_true rfl) ⟨by decide, by decide⟩ dX0_copyRow_15 ?_
      refine JJ.iinc (v := 1) (ls' := [(0, .ref (xad X 19)), (1, .ref (xad X 26)), (2, .int (x2 + (1 : Int32)))]) hX 2 dX0_copyRow_18 rfl (by decide) (by decide) rfl rfl ?_
      refine JJ.goto (tgt := 2) hX dX0_copyRow_21 (by decide) ?_
      exact ih _ _ _ h K
set_option maxRecDepth 100000 in
theorem ct_Camp_copyRow_19_26 (σ : ST) (res : ST) (h : f_Camp_copyRow_19_26 σ = some res) : Ct 1 yX0_copyRow cX0_copyRow 3 none (fun ad => [.ref (ad 26), .ref (ad 19)]) σ none res := by
  refine Ct.of (ls := fun ad => [(0, .ref (ad 19)), (1, .ref (ad 26))]) (by decide +kernel) (fun ad => Nat.le_of_ble_eq_true rfl) (fun ad => rfl) (fun X hX hM => ?_)
  replace hX : Ok X RX0 cX0_copyRow 3 1 := hX
  unfold f_Camp_copyRow_19_26 at h
  refine JJ.iconst (v := 0) hX dX0_copyRow_0 (by decide) ?_
  refine JJ.istore_n (ls' := [(0, .ref (xad X 19)), (1, .ref (xad X 26)), (2, .int (0 : Int32))]) hX dX0_copyRow_1 (by decide) rfl rfl ?_
  obtain ⟨e2, h2, h⟩ := bnd h
  refine lp_Camp_copyRow_19_26_2 hX 400 _ _ _ h2 ?_
  obtain rfl := Option.some.inj h
  exact JJ.vret hX hM dX0_copyRow_24
set_option maxRecDepth 100000 in
theorem lp_Camp_copyRow_20_27_2 {X : CX} (hX : Ok X RX0 cX0_copyRow 3 1) : ∀ (n : Nat) (x2 : Int32) (σ : ST) (e : (ST)), f_Camp_copyRow_20_27_L2 n x2 σ = some e → JJ X 24 [] [] e → JJ X 2 [(0, .ref (xad X 20)), (1, .ref (xad X 27)), (2, .int x2)] [] σ := by
  intro n
  induction n with
  | zero =>
    intro x2 σ e h
    rw [f_Camp_copyRow_20_27_L2] at h
    cases h
  | succ n ih =>
    intro x2 σ e h K
    rw [f_Camp_copyRow_20_27_L2] at h
    refine JJ.iload_n hX 2 dX0_copyRow_2 rfl ?_
    refine JJ.aload_n hX 1 dX0_copyRow_3 rfl ?_
    refine aln_27 hX dX0_copyRow_4 ?_
    refine JJ.icmp_ge (tgt := 24) hX dX0_copyRow_5 (by decide) (fun c1 => ?_) (fun c1 => ?_)
    · replace h := ipos c1 h
      obtain rfl := Option.some.inj h
      exact JJ.sub [] rfl K
    · replace h := ineg c1 h
      refine JJ.aload_n hX 1 dX0_copyRow_8 rfl ?_
      refine JJ.iload_n hX 2 dX0_copyRow_9 rfl ?_
      refine JJ.aload_n hX 0 dX0_copyRow_10 rfl ?_
      refine JJ.iload_n hX 2 dX0_copyRow_11 rfl ?_
      refine JJ.callSNi hX (ct_cell 20 3 (by decide) (fun _ _ _ => rfl) _ _ _ rfl) cal_yX5_cell cas_yX5_cell lm_RX0_41 rfl rfl (Nat.le_of_ble_eq_true rfl) ⟨by decide, by decide⟩ dX0_copyRow_12 ?_
      refine JJ.callSNv hX (ct_put 27 3 (by decide) (fun _ _ _ => rfl) (fun _ _ _ _ _ => rfl) _ _ _ _ rfl) cal_yX5_put cas_yX5_put lm_RX0_45 rfl rfl (Nat.le_of_ble_eq_true rfl) ⟨by decide, by decide⟩ dX0_copyRow_15 ?_
      refine JJ.iinc (v := 1) (ls' := [(0, .ref (xad X 20)), (1, .ref (xad X 27)), (2, .int (x2 + (1 : Int32)))]) hX 2 dX0_copyRow_18 rfl (by decide) (by decide) rfl rfl ?_
      refine JJ.goto (tgt := 2) hX dX0_copyRow_21 (by decide) ?_
      exact ih _ _ _ h K
set_option maxRecDepth 100000 in
theorem ct_Camp_copyRow_20_27 (σ : ST) (res : ST) (h : f_Camp_copyRow_20_27 σ = some res) : Ct 1 yX0_copyRow cX0_copyRow 3 none (fun ad => [.ref (ad 27), .ref (ad 20)]) σ none res := by
  refine Ct.of (ls := fun ad => [(0, .ref (ad 20)), (1, .ref (ad 27))]) (by decide +kernel) (fun ad => Nat.le_of_ble_eq_true rfl) (fun ad => rfl) (fun X hX hM => ?_)
  replace hX : Ok X RX0 cX0_copyRow 3 1 := hX
  unfold f_Camp_copyRow_20_27 at h
  refine JJ.iconst (v := 0) hX dX0_copyRow_0 (by decide) ?_
  refine JJ.istore_n (ls' := [(0, .ref (xad X 20)), (1, .ref (xad X 27)), (2, .int (0 : Int32))]) hX dX0_copyRow_1 (by decide) rfl rfl ?_
  obtain ⟨e2, h2, h⟩ := bnd h
  refine lp_Camp_copyRow_20_27_2 hX 400 _ _ _ h2 ?_
  obtain rfl := Option.some.inj h
  exact JJ.vret hX hM dX0_copyRow_24
set_option maxRecDepth 100000 in
theorem lp_Camp_copyRow_21_28_2 {X : CX} (hX : Ok X RX0 cX0_copyRow 3 1) : ∀ (n : Nat) (x2 : Int32) (σ : ST) (e : (ST)), f_Camp_copyRow_21_28_L2 n x2 σ = some e → JJ X 24 [] [] e → JJ X 2 [(0, .ref (xad X 21)), (1, .ref (xad X 28)), (2, .int x2)] [] σ := by
  intro n
  induction n with
  | zero =>
    intro x2 σ e h
    rw [f_Camp_copyRow_21_28_L2] at h
    cases h
  | succ n ih =>
    intro x2 σ e h K
    rw [f_Camp_copyRow_21_28_L2] at h
    refine JJ.iload_n hX 2 dX0_copyRow_2 rfl ?_
    refine JJ.aload_n hX 1 dX0_copyRow_3 rfl ?_
    refine aln_28 hX dX0_copyRow_4 ?_
    refine JJ.icmp_ge (tgt := 24) hX dX0_copyRow_5 (by decide) (fun c1 => ?_) (fun c1 => ?_)
    · replace h := ipos c1 h
      obtain rfl := Option.some.inj h
      exact JJ.sub [] rfl K
    · replace h := ineg c1 h
      refine JJ.aload_n hX 1 dX0_copyRow_8 rfl ?_
      refine JJ.iload_n hX 2 dX0_copyRow_9 rfl ?_
      refine JJ.aload_n hX 0 dX0_copyRow_10 rfl ?_
      refine JJ.iload_n hX 2 dX0_copyRow_11 rfl ?_
      refine JJ.callSNi hX (ct_cell 21 3 (by decide) (fun _ _ _ => rfl) _ _ _ rfl) cal_yX5_cell cas_yX5_cell lm_RX0_41 rfl rfl (Nat.le_of_ble_eq_true rfl) ⟨by decide, by decide⟩ dX0_copyRow_12 ?_
      refine JJ.callSNv hX (ct_put 28 3 (by decide) (fun _ _ _ => rfl) (fun _ _ _ _ _ => rfl) _ _ _ _ rfl) cal_yX5_put cas_yX5_put lm_RX0_45 rfl rfl (Nat.le_of_ble_eq_true rfl) ⟨by decide, by decide⟩ dX0_copyRow_15 ?_
      refine JJ.iinc (v := 1) (ls' := [(0, .ref (xad X 21)), (1, .ref (xad X 28)), (2, .int (x2 + (1 : Int32)))]) hX 2 dX0_copyRow_18 rfl (by decide) (by decide) rfl rfl ?_
      refine JJ.goto (tgt := 2) hX dX0_copyRow_21 (by decide) ?_
      exact ih _ _ _ h K
set_option maxRecDepth 100000 in
theorem ct_Camp_copyRow_21_28 (σ : ST) (res : ST) (h : f_Camp_copyRow_21_28 σ = some res) : Ct 1 yX0_copyRow cX0_copyRow 3 none (fun ad => [.ref (ad 28), .ref (ad 21)]) σ none res := by
  refine Ct.of (ls := fun ad => [(0, .ref (ad 21)), (1, .ref (ad 28))]) (by decide +kernel) (fun ad => Nat.le_of_ble_eq_true rfl) (fun ad => rfl) (fun X hX hM => ?_)
  replace hX : Ok X RX0 cX0_copyRow 3 1 := hX
  unfold f_Camp_copyRow_21_28 at h
  refine JJ.iconst (v := 0) hX dX0_copyRow_0 (by decide) ?_
  refine JJ.istore_n (ls' := [(0, .ref (xad X 21)), (1, .ref (xad X 28)), (2, .int (0 : Int32))]) hX dX0_copyRow_1 (by decide) rfl rfl ?_
  obtain ⟨e2, h2, h⟩ := bnd h
  refine lp_Camp_copyRow_21_28_2 hX 400 _ _ _ h2 ?_
  obtain rfl := Option.some.inj h
  exact JJ.vret hX hM dX0_copyRow_24
set_option maxRecDepth 100000 in
theorem lp_Camp_copyRow_22_29_2 {X : CX} (hX : Ok X RX0 cX0_copyRow 3 1) : ∀ (n : Nat) (x2 : Int32) (σ : ST) (e : (ST)), f_Camp_copyRow_22_29_L2 n x2 σ = some e → JJ X 24 [] [] e → JJ X 2 [(0, .ref (xad X 22)), (1, .ref (xad X 29)), (2, .int x2)] [] σ := by
  intro n
  induction n with
  | zero =>
    intro x2 σ e h
    rw [f_Camp_copyRow_22_29_L2] at h
    cases h
  | succ n ih =>
    intro x2 σ e h K
    rw [f_Camp_copyRow_22_29_L2] at h
    refine JJ.iload_n hX 2 dX0_copyRow_2 rfl ?_
    refine JJ.aload_n hX 1 dX0_copyRow_3 rfl ?_
    refine aln_29 hX dX0_copyRow_4 ?_
    refine JJ.icmp_ge (tgt := 24) hX dX0_copyRow_5 (by decide) (fun c1 => ?_) (fun c1 => ?_)
    · replace h := ipos c1 h
      obtain rfl := Option.some.inj h
      exact JJ.sub [] rfl K
    · replace h := ineg c1 h
      refine JJ.aload_n hX 1 dX0_copyRow_8 rfl ?_
      refine JJ.iload_n hX 2 dX0_copyRow_9 rfl ?_
      refine JJ.aload_n hX 0 dX0_copyRow_10 rfl ?_
      refine JJ.iload_n hX 2 dX0_copyRow_11 rfl ?_
      refine JJ.callSNi hX (ct_cell 22 8 (by decide) (fun _ _ _ => rfl) _ _ _ rfl) cal_yX5_cell cas_yX5_cell lm_RX0_41 rfl rfl (Nat.le_of_ble_eq_true rfl) ⟨by decide, by decide⟩ dX0_copyRow_12 ?_
      refine JJ.callSNv hX (ct_put 29 8 (by decide) (fun _ _ _ => rfl) (fun _ _ _ _ _ => rfl) _ _ _ _ rfl) cal_yX5_put cas_yX5_put lm_RX0_45 rfl rfl (Nat.le_of_ble_eq_true rfl) ⟨by decide, by decide⟩ dX0_copyRow_15 ?_
      refine JJ.iinc (v := 1) (ls' := [(0, .ref (xad X 22)), (1, .ref (xad X 29)), (2, .int (x2 + (1 : Int32)))]) hX 2 dX0_copyRow_18 rfl (by decide) (by decide) rfl rfl ?_
      refine JJ.goto (tgt := 2) hX dX0_copyRow_21 (by decide) ?_
      exact ih _ _ _ h K
set_option maxRecDepth 100000 in
theorem ct_Camp_copyRow_22_29 (σ : ST) (res : ST) (h : f_Camp_copyRow_22_29 σ = some res) : Ct 1 yX0_copyRow cX0_copyRow 3 none (fun ad => [.ref (ad 29), .ref (ad 22)]) σ none res := by
  refine Ct.of (ls := fun ad => [(0, .ref (ad 22)), (1, .ref (ad 29))]) (by decide +kernel) (fun ad => Nat.le_of_ble_eq_true rfl) (fun ad => rfl) (fun X hX hM => ?_)
  replace hX : Ok X RX0 cX0_copyRow 3 1 := hX
  unfold f_Camp_copyRow_22_29 at h
  refine JJ.iconst (v := 0) hX dX0_copyRow_0 (by decide) ?_
  refine JJ.istore_n (ls' := [(0, .ref (xad X 22)), (1, .ref (xad X 29)), (2, .int (0 : Int32))]) hX dX0_copyRow_1 (by decide) rfl rfl ?_
  obtain ⟨e2, h2, h⟩ := bnd h
  refine lp_Camp_copyRow_22_29_2 hX 400 _ _ _ h2 ?_
  obtain rfl := Option.some.inj h
  exact JJ.vret hX hM dX0_copyRow_24
set_option maxRecDepth 100000 in
theorem lp_Camp_copyRow_23_30_2 {X : CX} (hX : Ok X RX0 cX0_copyRow 3 1) : ∀ (n : Nat) (x2 : Int32) (σ : ST) (e : (ST)), f_Camp_copyRow_23_30_L2 n x2 σ = some e → JJ X 24 [] [] e → JJ X 2 [(0, .ref (xad X 23)), (1, .ref (xad X 30)), (2, .int x2)] [] σ := by
  intro n
  induction n with
  | zero =>
    intro x2 σ e h
    rw [f_Camp_copyRow_23_30_L2] at h
    cases h
  | succ n ih =>
    intro x2 σ e h K
    rw [f_Camp_copyRow_23_30_L2] at h
    refine JJ.iload_n hX 2 dX0_copyRow_2 rfl ?_
    refine JJ.aload_n hX 1 dX0_copyRow_3 rfl ?_
    refine aln_30 hX dX0_copyRow_4 ?_
    refine JJ.icmp_ge (tgt := 24) hX dX0_copyRow_5 (by decide) (fun c1 => ?_) (fun c1 => ?_)
    · replace h := ipos c1 h
      obtain rfl := Option.some.inj h
      exact JJ.sub [] rfl K
    · replace h := ineg c1 h
      refine JJ.aload_n hX 1 dX0_copyRow_8 rfl ?_
      refine JJ.iload_n hX 2 dX0_copyRow_9 rfl ?_
      refine JJ.aload_n hX 0 dX0_copyRow_10 rfl ?_
      refine JJ.iload_n hX 2 dX0_copyRow_11 rfl ?_
      refine JJ.callSNi hX (ct_cell 23 8 (by decide) (fun _ _ _ => rfl) _ _ _ rfl) cal_yX5_cell cas_yX5_cell lm_RX0_41 rfl rfl (Nat.le_of_ble_eq_true rfl) ⟨by decide, by decide⟩ dX0_copyRow_12 ?_
      refine JJ.callSNv hX (ct_put 30 8 (by decide) (fun _ _ _ => rfl) (fun _ _ _ _ _ => rfl) _ _ _ _ rfl) cal_yX5_put cas_yX5_put lm_RX0_45 rfl rfl (Nat.le_of_ble_eq_true rfl) ⟨by decide, by decide⟩ dX0_copyRow_15 ?_
      refine JJ.iinc (v := 1) (ls' := [(0, .ref (xad X 23)), (1, .ref (xad X 30)), (2, .int (x2 + (1 : Int32)))]) hX 2 dX0_copyRow_18 rfl (by decide) (by decide) rfl rfl ?_
      refine JJ.goto (tgt := 2) hX dX0_copyRow_21 (by decide) ?_
      exact ih _ _ _ h K
set_option maxRecDepth 100000 in
theorem ct_Camp_copyRow_23_30 (σ : ST) (res : ST) (h : f_Camp_copyRow_23_30 σ = some res) : Ct 1 yX0_copyRow cX0_copyRow 3 none (fun ad => [.ref (ad 30), .ref (ad 23)]) σ none res := by
  refine Ct.of (ls := fun ad => [(0, .ref (ad 23)), (1, .ref (ad 30))]) (by decide +kernel) (fun ad => Nat.le_of_ble_eq_true rfl) (fun ad => rfl) (fun X hX hM => ?_)
  replace hX : Ok X RX0 cX0_copyRow 3 1 := hX
  unfold f_Camp_copyRow_23_30 at h
  refine JJ.iconst (v := 0) hX dX0_copyRow_0 (by decide) ?_
  refine JJ.istore_n (ls' := [(0, .ref (xad X 23)), (1, .ref (xad X 30)), (2, .int (0 : Int32))]) hX dX0_copyRow_1 (by decide) rfl rfl ?_
  obtain ⟨e2, h2, h⟩ := bnd h
  refine lp_Camp_copyRow_23_30_2 hX 400 _ _ _ h2 ?_
  obtain rfl := Option.some.inj h
  exact JJ.vret hX hM dX0_copyRow_24
set_option maxRecDepth 100000 in
theorem ct_Camp_copyFrom_24_17 (σ : ST) (res : ST) (h : f_Camp_copyFrom_24_17 σ = some res) : Ct 2 yX0_copyFrom cX0_copyFrom 2 none (fun ad => [.ref (ad 17), .ref (ad 24)]) σ none res := by
  refine Ct.of (ls := fun ad => [(0, .ref (ad 24)), (1, .ref (ad 17))]) (by decide +kernel) (fun ad => Nat.le_of_ble_eq_true rfl) (fun ad => rfl) (fun X hX hM => ?_)
  replace hX : Ok X RX0 cX0_copyFrom 2 2 := hX
  unfold f_Camp_copyFrom_24_17 at h
  refine JJ.aload_n hX 0 dX0_copyFrom_0 rfl ?_
  refine JJ.aload_n hX 1 dX0_copyFrom_1 rfl ?_
  refine fg_X0_30_17 hX dX0_copyFrom_2 ?_
  refine fp_X0_30_24 hX dX0_copyFrom_5 ?_
  refine JJ.aload_n hX 0 dX0_copyFrom_8 rfl ?_
  refine JJ.aload_n hX 1 dX0_copyFrom_9 rfl ?_
  refine fg_X0_34_17 hX dX0_copyFrom_10 ?_
  refine fp_X0_34_24 hX dX0_copyFrom_13 ?_
  refine JJ.aload_n hX 1 dX0_copyFrom_16 rfl ?_
  refine fg_X0_9_17 hX dX0_copyFrom_17 ?_
  refine JJ.aload_n hX 0 dX0_copyFrom_20 rfl ?_
  refine fg_X0_9_24 hX dX0_copyFrom_21 ?_
  obtain ⟨q1, h1, h⟩ := bnd h
  refine JJ.callSv hX (ct_Camp_copyRow_18_25  _ _ h1) cal_yX0_copyRow cas_yX0_copyRow lm_RX0_37 rfl rfl (Nat.le_of_ble_eq_true rfl) ⟨by decide, by decide⟩ dX0_copyFrom_24 ?_
  refine JJ.aload_n hX 1 dX0_copyFrom_27 rfl ?_
  refine fg_X0_15_17 hX dX0_copyFrom_28 ?_
  refine JJ.aload_n hX 0 dX0_copyFrom_31 rfl ?_
  refine fg_X0_15_24 hX dX0_copyFrom_32 ?_
  obtain ⟨q2, h2, h⟩ := bnd h
  refine JJ.callSv hX (ct_Camp_copyRow_19_26  _ _ h2) cal_yX0_copyRow cas_yX0_copyRow lm_RX0_37 rfl rfl (Nat.le_of_ble_eq_true rfl) ⟨by decide, by decide⟩ dX0_copyFrom_35 ?_
  refine JJ.aload_n hX 1 dX0_copyFrom_38 rfl ?_
  refine fg_X0_18_17 hX dX0_copyFrom_39 ?_
  refine JJ.aload_n hX 0 dX0_copyFrom_42 rfl ?_
  refine fg_X0_18_24 hX dX0_copyFrom_43 ?_
  obtain ⟨q3, h3, h⟩ := bnd h
  refine JJ.callSv hX (ct_Camp_copyRow_20_27  _ _ h3) cal_yX0_copyRow cas_yX0_copyRow lm_RX0_37 rfl rfl (Nat.le_of_ble_eq_true rfl) ⟨by decide, by decide⟩ dX0_copyFrom_46 ?_
  refine JJ.aload_n hX 1 dX0_copyFrom_49 rfl ?_
  refine fg_X0_21_17 hX dX0_copyFrom_50 ?_
  refine JJ.aload_n hX 0 dX0_copyFrom_53 rfl ?_
  refine fg_X0_21_24 hX dX0_copyFrom_54 ?_
  obtain ⟨q4, h4, h⟩ := bnd h
  refine JJ.callSv hX (ct_Camp_copyRow_21_28  _ _ h4) cal_yX0_copyRow cas_yX0_copyRow lm_RX0_37 rfl rfl (Nat.le_of_ble_eq_true rfl) ⟨by decide, by decide⟩ dX0_copyFrom_57 ?_
  refine JJ.aload_n hX 1 dX0_copyFrom_60 rfl ?_
  refine fg_X0_24_17 hX dX0_copyFrom_61 ?_
  refine JJ.aload_n hX 0 dX0_copyFrom_64 rfl ?_
  refine fg_X0_24_24 hX dX0_copyFrom_65 ?_
  obtain ⟨q5, h5, h⟩ := bnd h
  refine JJ.callSv hX (ct_Camp_copyRow_22_29  _ _ h5) cal_yX0_copyRow cas_yX0_copyRow lm_RX0_37 rfl rfl (Nat.le_of_ble_eq_true rfl) ⟨by decide, by decide⟩ dX0_copyFrom_68 ?_
  refine JJ.aload_n hX 1 dX0_copyFrom_71 rfl ?_
  refine fg_X0_27_17 hX dX0_copyFrom_72 ?_
  refine JJ.aload_n hX 0 dX0_copyFrom_75 rfl ?_
  refine fg_X0_27_24 hX dX0_copyFrom_76 ?_
  obtain ⟨q6, h6, h⟩ := bnd h
  refine JJ.callSv hX (ct_Camp_copyRow_23_30  _ _ h6) cal_yX0_copyRow cas_yX0_copyRow lm_RX0_37 rfl rfl (Nat.le_of_ble_eq_true rfl) ⟨by decide, by decide⟩ dX0_copyFrom_79 ?_
  obtain rfl := Option.some.inj h
  exact JJ.vret hX hM dX0_copyFrom_82
set_option maxRecDepth 100000 in
theorem ct_LT_image (σ : ST) (res : Int32 × ST) (h : f_LT_image σ = some res) : Ct 3 yX5_image cX5_image 1 (some .int) (fun ad => [.ref (ad 0)]) σ (some (.int res.1)) res.2 := by
  refine Ct.of (ls := fun ad => [(0, .ref (ad 0))]) (by decide +kernel) (fun ad => Nat.le_of_ble_eq_true rfl) (fun ad => rfl) (fun X hX hM => ?_)
  replace hX : Ok X RX5 cX5_image 1 3 := hX
  unfold f_LT_image at h
  refine JJ.aload_n hX 0 dX5_image_0 rfl ?_
  refine fg_X5_19_0 hX dX5_image_1 ?_
  refine JJ.callVi hX (ct_Mine_isThere  _ _ rfl) cal_yX1_isThere cav_yX1_isThere lm_RX5_183 rfl rfl rfl (Rcv.obj hX (ci := 1) rfl rfl) (Nat.le_of_ble_eq_true rfl) ⟨by decide, by decide⟩ dX5_image_4 ?_
  refine JJ.if_ne (tgt := 13) hX dX5_image_7 (by decide) (fun c1 => ?_) (fun c1 => ?_)
  · replace h := ineg c1 h
    refine JJ.aload_n hX 0 dX5_image_13 rfl ?_
    refine fg_X5_39_0 hX dX5_image_14 ?_
    refine JJ.aload_n hX 0 dX5_image_17 rfl ?_
    refine fg_X5_35_0 hX dX5_image_18 ?_
    obtain ⟨q2, h2, h⟩ := bnd h
    refine JJ.callVv hX (ct_Camp_copyFrom_24_17  _ _ h2) cal_yX0_copyFrom cav_yX0_copyFrom lm_RX5_204 rfl rfl rfl (Rcv.obj hX (ci := 0) rfl rfl) (Nat.le_of_ble_eq_true rfl) ⟨by decide, by decide⟩ dX5_image_21 ?_
    refine JJ.aload_n hX 0 dX5_image_24 rfl ?_
    refine JJ.iconst (v := 1) hX dX5_image_25 (by decide) ?_
    refine fp_X5_68_0 hX (by decide) (by decide) dX5_image_26 ?_
    refine JJ.aload_n hX 0 dX5_image_29 rfl ?_
    refine fg_X5_39_0 hX dX5_image_30 ?_
    refine fg_X5_101_24 hX dX5_image_33 ?_
    obtain rfl := Option.some.inj h
    exact JJ.iret hX hM dX5_image_36
  · replace h := ipos c1 h
    refine JJ.bipush (v := -103) hX dX5_image_10 (by decide) ?_
    obtain rfl := Option.some.inj h
    exact JJ.iret hX hM dX5_image_12
set_option maxRecDepth 100000 in
theorem lp_M_copy_36_41_2 {X : CX} (hX : Ok X RX6 cX6_copy 3 0) : ∀ (n : Nat) (x2 : Int32) (σ : ST) (e : (ST)), f_M_copy_36_41_L2 n x2 σ = some e → JJ X 20 [] [] e → JJ X 2 [(0, .ref (xad X 36)), (1, .ref (xad X 41)), (2, .int x2)] [] σ := by
  intro n
  induction n with
  | zero =>
    intro x2 σ e h
    rw [f_M_copy_36_41_L2] at h
    cases h
  | succ n ih =>
    intro x2 σ e h K
    rw [f_M_copy_36_41_L2] at h
    refine JJ.iload_n hX 2 dX6_copy_2 rfl ?_
    refine JJ.aload_n hX 0 dX6_copy_3 rfl ?_
    refine aln_36 hX dX6_copy_4 ?_
    refine JJ.icmp_ge (tgt := 20) hX dX6_copy_5 (by decide) (fun c1 => ?_) (fun c1 => ?_)
    · replace h := ipos c1 h
      obtain rfl := Option.some.inj h
      exact JJ.sub [] rfl K
    · replace h := ineg c1 h
      refine JJ.aload_n hX 1 dX6_copy_8 rfl ?_
      refine JJ.iload_n hX 2 dX6_copy_9 rfl ?_
      refine JJ.aload_n hX 0 dX6_copy_10 rfl ?_
      refine JJ.iload_n hX 2 dX6_copy_11 rfl ?_
      obtain ⟨c2, h⟩ := gte h
      refine ald_36 hX c2 dX6_copy_12 ?_
      obtain ⟨c3, h⟩ := gte h
      refine ast_41 hX c3 dX6_copy_13 ?_
      refine JJ.iinc (v := 1) (ls' := [(0, .ref (xad X 36)), (1, .ref (xad X 41)), (2, .int (x2 + (1 : Int32)))]) hX 2 dX6_copy_14 rfl (by decide) (by decide) rfl rfl ?_
      refine JJ.goto (tgt := 2) hX dX6_copy_17 (by decide) ?_
      exact ih _ _ _ h K
set_option maxRecDepth 100000 in
theorem ct_M_copy_36_41 (σ : ST) (res : ST) (h : f_M_copy_36_41 σ = some res) : Ct 0 yX6_copy cX6_copy 3 none (fun ad => [.ref (ad 41), .ref (ad 36)]) σ none res := by
  refine Ct.of (ls := fun ad => [(0, .ref (ad 36)), (1, .ref (ad 41))]) (by decide +kernel) (fun ad => Nat.le_of_ble_eq_true rfl) (fun ad => rfl) (fun X hX hM => ?_)
  replace hX : Ok X RX6 cX6_copy 3 0 := hX
  unfold f_M_copy_36_41 at h
  refine JJ.iconst (v := 0) hX dX6_copy_0 (by decide) ?_
  refine JJ.istore_n (ls' := [(0, .ref (xad X 36)), (1, .ref (xad X 41)), (2, .int (0 : Int32))]) hX dX6_copy_1 (by decide) rfl rfl ?_
  obtain ⟨e4, h4, h⟩ := bnd h
  refine lp_M_copy_36_41_2 hX 400 _ _ _ h4 ?_
  obtain rfl := Option.some.inj h
  exact JJ.vret hX hM dX6_copy_20
set_option maxRecDepth 100000 in
theorem lp_M_copy_40_42_2 {X : CX} (hX : Ok X RX6 cX6_copy 3 0) : ∀ (n : Nat) (x2 : Int32) (σ : ST) (e : (ST)), f_M_copy_40_42_L2 n x2 σ = some e → JJ X 20 [] [] e → JJ X 2 [(0, .ref (xad X 40)), (1, .ref (xad X 42)), (2, .int x2)] [] σ := by
  intro n
  induction n with
  | zero =>
    intro x2 σ e h
    rw [f_M_copy_40_42_L2] at h
    cases h
  | succ n ih =>
    intro x2 σ e h K
    rw [f_M_copy_40_42_L2] at h
    refine JJ.iload_n hX 2 dX6_copy_2 rfl ?_
    refine JJ.aload_n hX 0 dX6_copy_3 rfl ?_
    refine aln_40 hX dX6_copy_4 ?_
    refine JJ.icmp_ge (tgt := 20) hX dX6_copy_5 (by decide) (fun c1 => ?_) (fun c1 => ?_)
    · replace h := ipos c1 h
      obtain rfl := Option.some.inj h
      exact JJ.sub [] rfl K
    · replace h := ineg c1 h
      refine JJ.aload_n hX 1 dX6_copy_8 rfl ?_
      refine JJ.iload_n hX 2 dX6_copy_9 rfl ?_
      refine JJ.aload_n hX 0 dX6_copy_10 rfl ?_
      refine JJ.iload_n hX 2 dX6_copy_11 rfl ?_
      obtain ⟨c2, h⟩ := gte h
      refine ald_40 hX c2 dX6_copy_12 ?_
      obtain ⟨c3, h⟩ := gte h
      refine ast_42 hX c3 dX6_copy_13 ?_
      refine JJ.iinc (v := 1) (ls' := [(0, .ref (xad X 40)), (1, .ref (xad X 42)), (2, .int (x2 + (1 : Int32)))]) hX 2 dX6_copy_14 rfl (by decide) (by decide) rfl rfl ?_
      refine JJ.goto (tgt := 2) hX dX6_copy_17 (by decide) ?_
      exact ih _ _ _ h K
set_option maxRecDepth 100000 in
theorem ct_M_copy_40_42 (σ : ST) (res : ST) (h : f_M_copy_40_42 σ = some res) : Ct 0 yX6_copy cX6_copy 3 none (fun ad => [.ref (ad 42), .ref (ad 40)]) σ none res := by
  refine Ct.of (ls := fun ad => [(0, .ref (ad 40)), (1, .ref (ad 42))]) (by decide +kernel) (fun ad => Nat.le_of_ble_eq_true rfl) (fun ad => rfl) (fun X hX hM => ?_)
  replace hX : Ok X RX6 cX6_copy 3 0 := hX
  unfold f_M_copy_40_42 at h
  refine JJ.iconst (v := 0) hX dX6_copy_0 (by decide) ?_
  refine JJ.istore_n (ls' := [(0, .ref (xad X 40)), (1, .ref (xad X 42)), (2, .int (0 : Int32))]) hX dX6_copy_1 (by decide) rfl rfl ?_
  obtain ⟨e4, h4, h⟩ := bnd h
  refine lp_M_copy_40_42_2 hX 400 _ _ _ h4 ?_
  obtain rfl := Option.some.inj h
  exact JJ.vret hX hM dX6_copy_20
set_option maxRecDepth 100000 in
theorem ct_M_image (σ : ST) (res : Int32 × ST) (h : f_M_image σ = some res) : Ct 1 yX6_image cX6_image 1 (some .int) (fun ad => [.ref (ad 31)]) σ (some (.int res.1)) res.2 := by
  refine Ct.of (ls := fun ad => [(0, .ref (ad 31))]) (by decide +kernel) (fun ad => Nat.le_of_ble_eq_true rfl) (fun ad => rfl) (fun X hX hM => ?_)
  replace hX : Ok X RX6 cX6_image 1 1 := hX
  unfold f_M_image at h
  refine JJ.aload_n hX 0 dX6_image_0 rfl ?_
  refine JJ.callVi hX (ct_M_lacks  _ _ rfl) cal_yX6_lacks cav_yX6_lacks lm_RX6_167 rfl rfl rfl (Rcv.obj hX (ci := 6) rfl rfl) (Nat.le_of_ble_eq_true rfl) ⟨by decide, by decide⟩ dX6_image_1 ?_
  refine JJ.if_eq (tgt := 10) hX dX6_image_4 (by decide) (fun c1 => ?_) (fun c1 => ?_)
  · replace h := ipos c1 h
    refine JJ.aload_n hX 0 dX6_image_10 rfl ?_
    refine fg_X6_22_31 hX dX6_image_11 ?_
    refine JJ.aload_n hX 0 dX6_image_14 rfl ?_
    refine fg_X6_37_31 hX dX6_image_15 ?_
    obtain ⟨q2, h2, h⟩ := bnd h
    refine JJ.callSv hX (ct_M_copy_36_41  _ _ h2) cal_yX6_copy cas_yX6_copy lm_RX6_200 rfl rfl (Nat.le_of_ble_eq_true rfl) ⟨by decide, by decide⟩ dX6_image_18 ?_
    refine JJ.aload_n hX 0 dX6_image_21 rfl ?_
    refine fg_X6_34_31 hX dX6_image_22 ?_
    refine JJ.aload_n hX 0 dX6_image_25 rfl ?_
    refine fg_X6_40_31 hX dX6_image_26 ?_
    obtain ⟨q3, h3, h⟩ := bnd h
    refine JJ.callSv hX (ct_M_copy_40_42  _ _ h3) cal_yX6_copy cas_yX6_copy lm_RX6_200 rfl rfl (Nat.le_of_ble_eq_true rfl) ⟨by decide, by decide⟩ dX6_image_29 ?_
    refine JJ.aload_n hX 0 dX6_image_32 rfl ?_
    refine JJ.aload_n hX 0 dX6_image_33 rfl ?_
    refine fg_X6_90_31 hX dX6_image_34 ?_
    refine fp_X6_204_31 hX dX6_image_37 ?_
    refine JJ.aload_n hX 0 dX6_image_40 rfl ?_
    refine JJ.aload_n hX 0 dX6_image_41 rfl ?_
    refine fg_X6_93_31 hX dX6_image_42 ?_
    refine fp_X6_207_31 hX dX6_image_45 ?_
    refine JJ.aload_n hX 0 dX6_image_48 rfl ?_
    refine JJ.aload_n hX 0 dX6_image_49 rfl ?_
    refine fg_X6_96_31 hX dX6_image_50 ?_
    refine fp_X6_43_31 hX dX6_image_53 ?_
    refine JJ.aload_n hX 0 dX6_image_56 rfl ?_
    refine fg_X6_90_31 hX dX6_image_57 ?_
    obtain rfl := Option.some.inj h
    exact JJ.iret hX hM dX6_image_60
  · replace h := ineg c1 h
    refine JJ.bipush (v := -103) hX dX6_image_7 (by decide) ?_
    obtain rfl := Option.some.inj h
    exact JJ.iret hX hM dX6_image_9
set_option maxRecDepth 100000 in
theorem lp_Camp_copyRow_25_18_2 {X : CX} (hX : Ok X RX0 cX0_copyRow 3 1) : ∀ (n : Nat) (x2 : Int32) (σ : ST) (e : (ST)), f_Camp_copyRow_25_18_L2 n x2 σ = some e → JJ X 24 [] [] e → JJ X 2 [(0, .ref (xad X 25)), (1, .ref (xad X 18)), (2, .int x2)] [] σ := by
  intro n
  induction n with
  | zero =>
    intro x2 σ e h
    rw [f_Camp_copyRow_25_18_L2] at h
    cases h
  | succ n ih =>
    intro x2 σ e h K
    rw [f_Camp_copyRow_25_18_L2] at h
    refine JJ.iload_n hX 2 dX0_copyRow_2 rfl ?_
    refine JJ.aload_n hX 1 dX0_copyRow_3 rfl ?_
    refine aln_18 hX dX0_copyRow_4 ?_
    refine JJ.icmp_ge (tgt := 24) hX dX0_copyRow_5 (by decide) (fun c1 => ?_) (fun c1 => ?_)
    · replace h := ipos c1 h
      obtain rfl := Option.some.inj h
      exact JJ.sub [] rfl K
    · replace h := ineg c1 h
      refine JJ.aload_n hX 1 dX0_copyRow_8 rfl ?_
      refine JJ.iload_n hX 2 dX0_copyRow_9 rfl ?_
      refine JJ.aload_n hX 0 dX0_copyRow_10 rfl ?_
      refine JJ.iload_n hX 2 dX0_copyRow_11 rfl ?_
      refine JJ.callSNi hX (ct_cell 25 3 (by decide) (fun _ _ _ => rfl) _ _ _ rfl) cal_yX5_cell cas_yX5_cell lm_RX0_41 rfl rfl (Nat.le_of_ble_eq_true rfl) ⟨by decide, by decide⟩ dX0_copyRow_12 ?_
      refine JJ.callSNv hX (ct_put 18 3 (by decide) (fun _ _ _ => rfl) (fun _ _ _ _ _ => rfl) _ _ _ _ rfl) cal_yX5_put cas_yX5_put lm_RX0_45 rfl rfl (Nat.le_of_ble_eq_true rfl) ⟨by decide, by decide⟩ dX0_copyRow_15 ?_
      refine JJ.iinc (v := 1) (ls' := [(0, .ref (xad X 25)), (1, .ref (xad X 18)), (2, .int (x2 + (1 : Int32)))]) hX 2 dX0_copyRow_18 rfl (by decide) (by decide) rfl rfl ?_
      refine JJ.goto (tgt := 2) hX dX0_copyRow_21 (by decide) ?_
      exact ih _ _ _ h K
set_option maxRecDepth 100000 in
theorem ct_Camp_copyRow_25_18 (σ : ST) (res : ST) (h : f_Camp_copyRow_25_18 σ = some res) : Ct 1 yX0_copyRow cX0_copyRow 3 none (fun ad => [.ref (ad 18), .ref (ad 25)]) σ none res := by
  refine Ct.of (ls := fun ad => [(0, .ref (ad 25)), (1, .ref (ad 18))]) (by decide +kernel) (fun ad => Nat.le_of_ble_eq_true rfl) (fun ad => rfl) (fun X hX hM => ?_)
  replace hX : Ok X RX0 cX0_copyRow 3 1 := hX
  unfold f_Camp_copyRow_25_18 at h
  refine JJ.iconst (v := 0) hX dX0_copyRow_0 (by decide) ?_
  refine JJ.istore_n (ls' := [(0, .ref (xad X 25)), (1, .ref (xad X 18)), (2, .int (0 : Int32))]) hX dX0_copyRow_1 (by decide) rfl rfl ?_
  obtain ⟨e2, h2, h⟩ := bnd h
  refine lp_Camp_copyRow_25_18_2 hX 400 _ _ _ h2 ?_
  obtain rfl := Option.some.inj h
  exact JJ.vret hX hM dX0_copyRow_24
set_option maxRecDepth 100000 in
theorem lp_Camp_copyRow_26_19_2 {X : CX} (hX : Ok X RX0 cX0_copyRow 3 1) : ∀ (n : Nat) (x2 : Int32) (σ : ST) (e : (ST)), f_Camp_copyRow_26_19_L2 n x2 σ = some e → JJ X 24 [] [] e → JJ X 2 [(0, .ref (xad X 26)), (1, .ref (xad X 19)), (2, .int x2)] [] σ := by
  intro n
  induction n with
  | zero =>
    intro x2 σ e h
    rw [f_Camp_copyRow_26_19_L2] at h
    cases h
  | succ n ih =>
    intro x2 σ e h K
    rw [f_Camp_copyRow_26_19_L2] at h
    refine JJ.iload_n hX 2 dX0_copyRow_2 rfl ?_
    refine JJ.aload_n hX 1 dX0_copyRow_3 rfl ?_
    refine aln_19 hX dX0_copyRow_4 ?_
    refine JJ.icmp_ge (tgt := 24) hX dX0_copyRow_5 (by decide) (fun c1 => ?_) (fun c1 => ?_)
    · replace h := ipos c1 h
      obtain rfl := Option.some.inj h
      exact JJ.sub [] rfl K
    · replace h := ineg c1 h
      refine JJ.aload_n hX 1 dX0_copyRow_8 rfl ?_
      refine JJ.iload_n hX 2 dX0_copyRow_9 rfl ?_
      refine JJ.aload_n hX 0 dX0_copyRow_10 rfl ?_
      refine JJ.iload_n hX 2 dX0_copyRow_11 rfl ?_
      refine JJ.callSNi hX (ct_cell 26 3 (by decide) (fun _ _ _ => rfl) _ _ _ rfl) cal_yX5_cell cas_yX5_cell lm_RX0_41 rfl rfl (Nat.le_of_ble_eq_true rfl) ⟨by decide, by decide⟩ dX0_copyRow_12 ?_
      refine JJ.callSNv hX (ct_put 19 3 (by decide) (fun _ _ _ => rfl) (fun _ _ _ _ _ => rfl) _ _ _ _ rfl) cal_yX5_put cas_yX5_put lm_RX0_45 rfl rfl (Nat.le_of_ble_eq_true rfl) ⟨by decide, by decide⟩ dX0_copyRow_15 ?_
      refine JJ.iinc (v := 1) (ls' := [(0, .ref (xad X 26)), (1, .ref (xad X 19)), (2, .int (x2 + (1 : Int32)))]) hX 2 dX0_copyRow_18 rfl (by decide) (by decide) rfl rfl ?_
      refine JJ.goto (tgt := 2) hX dX0_copyRow_21 (by decide) ?_
      exact ih _ _ _ h K
set_option maxRecDepth 100000 in
theorem ct_Camp_copyRow_26_19 (σ : ST) (res : ST) (h : f_Camp_copyRow_26_19 σ = some res) : Ct 1 yX0_copyRow cX0_copyRow 3 none (fun ad => [.ref (ad 19), .ref (ad 26)]) σ none res := by
  refine Ct.of (ls := fun ad => [(0, .ref (ad 26)), (1, .ref (ad 19))]) (by decide +kernel) (fun ad => Nat.le_of_ble_eq_true rfl) (fun ad => rfl) (fun X hX hM => ?_)
  replace hX : Ok X RX0 cX0_copyRow 3 1 := hX
  unfold f_Camp_copyRow_26_19 at h
  refine JJ.iconst (v := 0) hX dX0_copyRow_0 (by decide) ?_
  refine JJ.istore_n (ls' := [(0, .ref (xad X 26)), (1, .ref (xad X 19)), (2, .int (0 : Int32))]) hX dX0_copyRow_1 (by decide) rfl rfl ?_
  obtain ⟨e2, h2, h⟩ := bnd h
  refine lp_Camp_copyRow_26_19_2 hX 400 _ _ _ h2 ?_
  obtain rfl := Option.some.inj h
  exact JJ.vret hX hM dX0_copyRow_24
set_option maxRecDepth 100000 in
theorem lp_Camp_copyRow_27_20_2 {X : CX} (hX : Ok X RX0 cX0_copyRow 3 1) : ∀ (n : Nat) (x2 : Int32) (σ : ST) (e : (ST)), f_Camp_copyRow_27_20_L2 n x2 σ = some e → JJ X 24 [] [] e → JJ X 2 [(0, .ref (xad X 27)), (1, .ref (xad X 20)), (2, .int x2)] [] σ := by
  intro n
  induction n with
  | zero =>
    intro x2 σ e h
    rw [f_Camp_copyRow_27_20_L2] at h
    cases h
  | succ n ih =>
    intro x2 σ e h K
    rw [f_Camp_copyRow_27_20_L2] at h
    refine JJ.iload_n hX 2 dX0_copyRow_2 rfl ?_
    refine JJ.aload_n hX 1 dX0_copyRow_3 rfl ?_
    refine aln_20 hX dX0_copyRow_4 ?_
    refine JJ.icmp_ge (tgt := 24) hX dX0_copyRow_5 (by decide) (fun c1 => ?_) (fun c1 => ?_)
    · replace h := ipos c1 h
      obtain rfl := Option.some.inj h
      exact JJ.sub [] rfl K
    · replace h := ineg c1 h
      refine JJ.aload_n hX 1 dX0_copyRow_8 rfl ?_
      refine JJ.iload_n hX 2 dX0_copyRow_9 rfl ?_
      refine JJ.aload_n hX 0 dX0_copyRow_10 rfl ?_
      refine JJ.iload_n hX 2 dX0_copyRow_11 rfl ?_
      refine JJ.callSNi hX (ct_cell 27 3 (by decide) (fun _ _ _ => rfl) _ _ _ rfl) cal_yX5_cell cas_yX5_cell lm_RX0_41 rfl rfl (Nat.le_of_ble_eq_true rfl) ⟨by decide, by decide⟩ dX0_copyRow_12 ?_
      refine JJ.callSNv hX (ct_put 20 3 (by decide) (fun _ _ _ => rfl) (fun _ _ _ _ _ => rfl) _ _ _ _ rfl) cal_yX5_put cas_yX5_put lm_RX0_45 rfl rfl (Nat.le_of_ble_eq_true rfl) ⟨by decide, by decide⟩ dX0_copyRow_15 ?_
      refine JJ.iinc (v := 1) (ls' := [(0, .ref (xad X 27)), (1, .ref (xad X 20)), (2, .int (x2 + (1 : Int32)))]) hX 2 dX0_copyRow_18 rfl (by decide) (by decide) rfl rfl ?_
      refine JJ.goto (tgt := 2) hX dX0_copyRow_21 (by decide) ?_
      exact ih _ _ _ h K
set_option maxRecDepth 100000 in
theorem ct_Camp_copyRow_27_20 (σ : ST) (res : ST) (h : f_Camp_copyRow_27_20 σ = some res) : Ct 1 yX0_copyRow cX0_copyRow 3 none (fun ad => [.ref (ad 20), .ref (ad 27)]) σ none res := by
  refine Ct.of (ls := fun ad => [(0, .ref (ad 27)), (1, .ref (ad 20))]) (by decide +kernel) (fun ad => Nat.le_of_ble_eq_true rfl) (fun ad => rfl) (fun X hX hM => ?_)
  replace hX : Ok X RX0 cX0_copyRow 3 1 := hX
  unfold f_Camp_copyRow_27_20 at h
  refine JJ.iconst (v := 0) hX dX0_copyRow_0 (by decide) ?_
  refine JJ.istore_n (ls' := [(0, .ref (xad X 27)), (1, .ref (xad X 20)), (2, .int (0 : Int32))]) hX dX0_copyRow_1 (by decide) rfl rfl ?_
  obtain ⟨e2, h2, h⟩ := bnd h
  refine lp_Camp_copyRow_27_20_2 hX 400 _ _ _ h2 ?_
  obtain rfl := Option.some.inj h
  exact JJ.vret hX hM dX0_copyRow_24
