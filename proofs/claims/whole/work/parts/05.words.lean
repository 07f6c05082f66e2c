theorem lf_RX5_12 : Cond.fieldLink RX5 12 (TX5 0).1 (TX5 0).2.1 (TX5 0).2.2.1 ∈ GW := GW_1 143 rfl rfl
theorem inG5 : ∀ w ∈ u_ws RX5 TX5 7, w ∈ GW := by
  intro w hw
  obtain ⟨k, hk, rfl⟩ := List.mem_map.mp hw
  have hk := List.mem_range.mp hk
  rcases k with _|_|_|_|_|_|_|k
  · exact GW_1 150 rfl rfl
  · exact GW_1 152 rfl rfl
  · exact GW_1 154 rfl rfl
  · exact GW_1 156 rfl rfl
  · exact GW_1 158 rfl rfl
  · exact GW_1 160 rfl rfl
  · exact GW_1 162 rfl rfl
  · exact absurd hk (by omega)
theorem fg_X5_12_0 {X : CX} {cc : ByteArray} {nL D pc : Nat} {ls : List (Nat × Value)} {st : List Value} {σ : ST} (hX : Ok X RX5 cc nL D) (hd : decode cc pc = .ok (.getfield 12, 3)) (kk : JJ X (pc + 3) ls (.ref (xad X 1) :: st) σ) : JJ X pc ls (.ref (xad X 0) :: st) σ := JJ.get hX 0 5 0 rfl inG5 (by decide) lf_RX5_12 rfl rfl hd kk
theorem lf_RX5_42 : Cond.fieldLinkNest RX5 42 (TX2 1).1 (TX2 1).2.1 (TX2 1).2.2.1 "LanternTongue" ∈ nestW := List.mem_of_getElem? (i := 2) rfl
theorem inG2 : ∀ w ∈ u_ws RX2 TX2 2, w ∈ GW := by
  intro w hw
  obtain ⟨k, hk, rfl⟩ := List.mem_map.mp hw
  have hk := List.mem_range.mp hk
  rcases k with _|_|k
  · exact GW_1 33 rfl rfl
  · exact GW_1 35 rfl rfl
  · exact absurd hk (by omega)
theorem fg_X5_42_1 {X : CX} {cc : ByteArray} {nL D pc : Nat} {ls : List (Nat × Value)} {st : List Value} {σ : ST} (hX : Ok X RX5 cc nL D) (hd : decode cc pc = .ok (.getfield 42, 3)) (kk : JJ X (pc + 3) ls (.int (gI σ 101) :: st) σ) : JJ X pc ls (.ref (xad X 1) :: st) σ := JJ.getN hX 1 2 1 rfl inG2 (by decide) lf_RX5_42 rfl rfl hd kk
theorem lf_RX2_9 : Cond.fieldLink RX2 9 (TX2 0).1 (TX2 0).2.1 (TX2 0).2.2.1 ∈ GW := GW_1 29 rfl rfl
theorem fg_X2_9_1 {X : CX} {cc : ByteArray} {nL D pc : Nat} {ls : List (Nat × Value)} {st : List Value} {σ : ST} (hX : Ok X RX2 cc nL D) (hd : decode cc pc = .ok (.getfield 9, 3)) (kk : JJ X (pc + 3) ls (.ref (xad X 2) :: st) σ) : JJ X pc ls (.ref (xad X 1) :: st) σ := JJ.get hX 1 2 0 rfl inG2 (by decide) lf_RX2_9 rfl rfl hd kk
theorem lf_RX2_15 : Cond.fieldLink RX2 15 (TX2 1).1 (TX2 1).2.1 (TX2 1).2.2.1 ∈ GW := GW_1 31 rfl rfl
theorem fg_X2_15_1 {X : CX} {cc : ByteArray} {nL D pc : Nat} {ls : List (Nat × Value)} {st : List Value} {σ : ST} (hX : Ok X RX2 cc nL D) (hd : decode cc pc = .ok (.getfield 15, 3)) (kk : JJ X (pc + 3) ls (.int (gI σ 101) :: st) σ) : JJ X pc ls (.ref (xad X 1) :: st) σ := JJ.get hX 1 2 1 rfl inG2 (by decide) lf_RX2_15 rfl rfl hd kk
theorem lm_RX2_19 : Cond.methodLinkNest RX2 19 yX5_put "LanternTongue" ∈ nestW := List.mem_of_getElem? (i := 22) rfl
theorem cal_yX5_put : Cal yX5_put cX5_put 3 3 none := ⟨GW_1 175 rfl rfl, GW_1 1 rfl rfl, by decide +kernel⟩
theorem cas_yX5_put : Cond.static yX5_put ∈ GW := GW_1 174 rfl rfl
theorem fp_X2_15_1 {X : CX} {cc : ByteArray} {nL D pc : Nat} {ls : List (Nat × Value)} {st : List Value} {σ : ST} (hX : Ok X RX2 cc nL D) {v : Int32} (hd : decode cc pc = .ok (.putfield 15, 3)) (kk : JJ X (pc + 3) ls st (sI σ 101 v)) : JJ X pc ls (.int v :: .ref (xad X 1) :: st) σ := JJ.put hX 1 2 1 (ty := .int) rfl inG2 tyX2_ok nmX2 (by decide) lf_RX2_15 rfl rfl (by decide +kernel) rfl rfl (Nat.le_of_ble_eq_true rfl) rfl hd kk
theorem lm_RX5_46 : Cond.methodLink RX5 46 yX2_write ∈ GW := GW_1 169 rfl rfl
theorem cal_yX2_write : Cal yX2_write cX2_write 2 1 none := ⟨GW_1 172 rfl rfl, GW_1 2 rfl rfl, by decide +kernel⟩
theorem cav_yX2_write : CalV yX2_write := ⟨GW_1 170 rfl rfl, GW_1 171 rfl rfl⟩
theorem lc_RX6_47 : Cond.constantLong RX6 47 126 ∈ GW := GW_4 3 rfl rfl
theorem lm_RX6_49 : Cond.methodLink RX6 49 yX6_in ∈ GW := GW_4 4 rfl rfl
theorem cal_yX6_in : Cal yX6_in cX6_in 6 3 (some .boolean) := ⟨GW_4 6 rfl rfl, GW_1 7 rfl rfl, by decide +kernel⟩
theorem cas_yX6_in : Cond.static yX6_in ∈ GW := GW_4 5 rfl rfl
theorem lf_RX6_53 : Cond.fieldLink RX6 53 (TX6 1).1 (TX6 1).2.1 (TX6 1).2.2.1 ∈ GW := GW_3 164 rfl rfl
theorem inG6 : ∀ w ∈ u_ws RX6 TX6 25, w ∈ GW := by
  intro w hw
  obtain ⟨k, hk, rfl⟩ := List.mem_map.mp hw
  have hk := List.mem_range.mp hk
  rcases k with _|_|_|_|_|_|_|_|_|_|_|_|_|_|_|_|_|_|_|_|_|_|_|_|_|k
  · exact GW_3 188 rfl rfl
  · exact GW_3 190 rfl rfl
  · exact GW_3 192 rfl rfl
  · exact GW_3 194 rfl rfl
  · exact GW_3 196 rfl rfl
  · exact GW_3 198 rfl rfl
  · exact GW_3 200 rfl rfl
  · exact GW_3 202 rfl rfl
  · exact GW_3 204 rfl rfl
  · exact GW_3 206 rfl rfl
  · exact GW_3 208 rfl rfl
  · exact GW_3 210 rfl rfl
  · exact GW_3 212 rfl rfl
  · exact GW_3 214 rfl rfl
  · exact GW_3 216 rfl rfl
  · exact GW_3 218 rfl rfl
  · exact GW_3 220 rfl rfl
  · exact GW_3 222 rfl rfl
  · exact GW_3 224 rfl rfl
  · exact GW_3 226 rfl rfl
  · exact GW_3 228 rfl rfl
  · exact GW_3 230 rfl rfl
  · exact GW_3 232 rfl rfl
  · exact GW_3 234 rfl rfl
  · exact GW_3 236 rfl rfl
  · exact absurd hk (by omega)
theorem fg_X6_53_31 {X : CX} {cc : ByteArray} {nL D pc : Nat} {ls : List (Nat × Value)} {st : List Value} {σ : ST} (hX : Ok X RX6 cc nL D) (hd : decode cc pc = .ok (.getfield 53, 3)) (kk : JJ X (pc + 3) ls (.int (gI σ 3101) :: st) σ) : JJ X pc ls (.ref (xad X 31) :: st) σ := JJ.get hX 31 6 1 rfl inG6 (by decide) lf_RX6_53 rfl rfl hd kk
theorem lf_RX6_7 : Cond.fieldLink RX6 7 (TX6 0).1 (TX6 0).2.1 (TX6 0).2.2.1 ∈ GW := GW_3 163 rfl rfl
theorem fg_X6_7_31 {X : CX} {cc : ByteArray} {nL D pc : Nat} {ls : List (Nat × Value)} {st : List Value} {σ : ST} (hX : Ok X RX6 cc nL D) (hd : decode cc pc = .ok (.getfield 7, 3)) (kk : JJ X (pc + 3) ls (.ref (xad X 32) :: st) σ) : JJ X pc ls (.ref (xad X 31) :: st) σ := JJ.get hX 31 6 0 rfl inG6 (by decide) lf_RX6_7 rfl rfl hd kk
theorem ast_32 {X : CX} {own : String} {cc : ByteArray} {nL D pc : Nat} {ls : List (Nat × Value)} {st : List Value} {σ : ST} (hX : Ok X own cc nL D) {i x : Int32} (hin : inB i 28 = true) (hd : decode cc pc = .ok (.iastore, 1)) (kk : JJ X (pc + 1) ls st (sA σ 32 i.toNatClampNeg x)) : JJ X pc ls (.int x :: .int i :: .ref (xad X 32) :: st) σ := JJ.iast hX 32 rfl rfl (inB_in hin) hd kk
theorem fp_X6_53_31 {X : CX} {cc : ByteArray} {nL D pc : Nat} {ls : List (Nat × Value)} {st : List Value} {σ : ST} (hX : Ok X RX6 cc nL D) {v : Int32} (hd : decode cc pc = .ok (.putfield 53, 3)) (kk : JJ X (pc + 3) ls st (sI σ 3101 v)) : JJ X pc ls (.int v :: .ref (xad X 31) :: st) σ := JJ.put hX 31 6 1 (ty := .int) rfl inG6 tyX6_ok nmX6 (by decide) lf_RX6_53 rfl rfl (by decide +kernel) rfl rfl (Nat.le_of_ble_eq_true rfl) rfl hd kk
theorem fp_X5_42_1 {X : CX} {cc : ByteArray} {nL D pc : Nat} {ls : List (Nat × Value)} {st : List Value} {σ : ST} (hX : Ok X RX5 cc nL D) {v : Int32} (hd : decode cc pc = .ok (.putfield 42, 3)) (kk : JJ X (pc + 3) ls st (sI σ 101 v)) : JJ X pc ls (.int v :: .ref (xad X 1) :: st) σ := JJ.putN hX 1 2 1 (ty := .int) rfl inG2 tyX2_ok nmX2 (by decide) lf_RX5_42 rfl rfl (by decide +kernel) rfl rfl (Nat.le_of_ble_eq_true rfl) rfl hd kk
theorem lm_RX2_23 : Cond.methodLinkNest RX2 23 yX5_cell "LanternTongue" ∈ nestW := List.mem_of_getElem? (i := 23) rfl
theorem cal_yX5_cell : Cal yX5_cell cX5_cell 2 2 (some .int) := ⟨GW_1 202 rfl rfl, GW_1 1 rfl rfl, by decide +kernel⟩
theorem cas_yX5_cell : Cond.static yX5_cell ∈ GW := GW_1 201 rfl rfl
theorem lm_RX2_41 : Cond.methodLink RX2 41 yX2_codeAt ∈ GW := GW_1 196 rfl rfl
theorem cal_yX2_codeAt : Cal yX2_codeAt cX2_codeAt 2 1 (some .int) := ⟨GW_1 199 rfl rfl, GW_1 2 rfl rfl, by decide +kernel⟩
theorem cav_yX2_codeAt : CalV yX2_codeAt := ⟨GW_1 197 rfl rfl, GW_1 198 rfl rfl⟩
theorem lf_RJ0_38 : Cond.fieldLink RJ0 38 "java/lang/String" "COMPACT_STRINGS" "Z" ∈ GW := GW_1 227 rfl rfl
theorem lf_RJ0_15 : Cond.fieldLink RJ0 15 "java/lang/String" "coder" "B" ∈ GW := GW_5 12 rfl rfl
theorem lm_RJ0_492 : Cond.methodLink RJ0 492 yJ0_isLatin1_aae02 ∈ GW := GW_1 223 rfl rfl
theorem cal_yJ0_isLatin1_aae02 : Cal yJ0_isLatin1_aae02 cJ0_isLatin1_aae02 1 0 (some .boolean) := ⟨GW_1 226 rfl rfl, GW_1 8 rfl rfl, by decide +kernel⟩
theorem cav_yJ0_isLatin1_aae02 : CalV yJ0_isLatin1_aae02 := ⟨GW_1 224 rfl rfl, GW_1 225 rfl rfl⟩
theorem lf_RJ0_9 : Cond.fieldLink RJ0 9 "java/lang/String" "value" "[B" ∈ GW := GW_5 13 rfl rfl
theorem lm_RJ0_335 : Cond.methodLink RJ0 335 yJ0_coder_7d493 ∈ GW := GW_1 233 rfl rfl
theorem cal_yJ0_coder_7d493 : Cal yJ0_coder_7d493 cJ0_coder_7d493 1 0 (some .byte) := ⟨GW_1 236 rfl rfl, GW_1 8 rfl rfl, by decide +kernel⟩
theorem cav_yJ0_coder_7d493 : CalV yJ0_coder_7d493 := ⟨GW_1 234 rfl rfl, GW_1 235 rfl rfl⟩
theorem lm_RJ0_505 : Cond.methodLink RJ0 505 yJ0_length_8abf5 ∈ GW := GW_1 229 rfl rfl
theorem cal_yJ0_length_8abf5 : Cal yJ0_length_8abf5 cJ0_length_8abf5 1 0 (some .int) := ⟨GW_1 232 rfl rfl, GW_1 8 rfl rfl, by decide +kernel⟩
theorem cav_yJ0_length_8abf5 : CalV yJ0_length_8abf5 := ⟨GW_1 230 rfl rfl, GW_1 231 rfl rfl⟩
theorem lm_RJ1_88 : Cond.methodLink RJ1 88 yJ1_canEncode_9a6ad ∈ GW := GW_2 0 rfl rfl
theorem cal_yJ1_canEncode_9a6ad : Cal yJ1_canEncode_9a6ad cJ1_canEncode_9a6ad 1 1 (some .boolean) := ⟨GW_2 2 rfl rfl, GW_1 9 rfl rfl, by decide +kernel⟩
theorem cas_yJ1_canEncode_9a6ad : Cond.static yJ1_canEncode_9a6ad ∈ GW := GW_2 1 rfl rfl
theorem lm_RJ1_92 : Cond.methodLink RJ1 92 Lib.Math.max.name ∈ GW := GW_2 3 rfl rfl
theorem cas_math_max : Cond.static Lib.Math.max.name ∈ GW := GW_2 4 rfl rfl
theorem ini_math : Cond.initialized "java/lang/Math" ∈ GW := GW_1 10 rfl rfl
theorem cod_math_max : Cond.code Lib.Math.max.name Lib.Math.max.code 2 (some .int) ∈ GW := GW_2 5 rfl rfl
theorem lm_RJ1_38 : Cond.methodLink RJ1 38 Lib.Math.min.name ∈ GW := GW_2 6 rfl rfl
theorem cas_math_min : Cond.static Lib.Math.min.name ∈ GW := GW_2 7 rfl rfl
theorem cod_math_min : Cond.code Lib.Math.min.name Lib.Math.min.code 2 (some .int) ∈ GW := GW_2 8 rfl rfl
theorem lm_RJ1_95 : Cond.methodLink RJ1 95 yJ1_indexOfChar_4cfef ∈ GW := GW_2 9 rfl rfl
theorem cal_yJ1_indexOfChar_4cfef : Cal yJ1_indexOfChar_4cfef cJ1_indexOfChar_4cfef 6 4 (some .int) := ⟨GW_2 11 rfl rfl, GW_1 9 rfl rfl, by decide +kernel⟩
theorem cas_yJ1_indexOfChar_4cfef : Cond.static yJ1_indexOfChar_4cfef ∈ GW := GW_2 10 rfl rfl
theorem lm_RJ0_637 : Cond.methodLink RJ0 637 yJ1_indexOf_4cfef ∈ GW := GW_1 237 rfl rfl
theorem cal_yJ1_indexOf_4cfef : Cal yJ1_indexOf_4cfef cJ1_indexOf_4cfef 4 4 (some .int) := ⟨GW_1 239 rfl rfl, GW_1 9 rfl rfl, by decide +kernel⟩
theorem cas_yJ1_indexOf_4cfef : Cond.static yJ1_indexOf_4cfef ∈ GW := GW_1 238 rfl rfl
theorem lm_RJ0_633 : Cond.methodLink RJ0 633 yJ0_indexOf_7cf53 ∈ GW := GW_1 219 rfl rfl
theorem cal_yJ0_indexOf_7cf53 : Cal yJ0_indexOf_7cf53 cJ0_indexOf_7cf53 3 2 (some .int) := ⟨GW_1 222 rfl rfl, GW_1 8 rfl rfl, by decide +kernel⟩
theorem cav_yJ0_indexOf_7cf53 : CalV yJ0_indexOf_7cf53 := ⟨GW_1 220 rfl rfl, GW_1 221 rfl rfl⟩
theorem lm_RX2_60 : Cond.methodLink RX2 60 yJ0_indexOf_0f7a4 ∈ GW := GW_1 215 rfl rfl
theorem cal_yJ0_indexOf_0f7a4 : Cal yJ0_indexOf_0f7a4 cJ0_indexOf_0f7a4 2 1 (some .int) := ⟨GW_1 218 rfl rfl, GW_1 8 rfl rfl, by decide +kernel⟩
theorem cav_yJ0_indexOf_0f7a4 : CalV yJ0_indexOf_0f7a4 := ⟨GW_1 216 rfl rfl, GW_1 217 rfl rfl⟩
theorem lm_RX2_55 : Cond.methodLink RX2 55 yX2_kindOfSign ∈ GW := GW_1 211 rfl rfl
theorem cal_yX2_kindOfSign : Cal yX2_kindOfSign cX2_kindOfSign 1 1 (some .int) := ⟨GW_1 213 rfl rfl, GW_1 2 rfl rfl, by decide +kernel⟩
theorem cas_yX2_kindOfSign : Cond.static yX2_kindOfSign ∈ GW := GW_1 212 rfl rfl
theorem lm_RX2_52 : Cond.methodLink RX2 52 yX2_digitAt ∈ GW := GW_1 203 rfl rfl
theorem cal_yX2_digitAt : Cal yX2_digitAt cX2_digitAt 2 1 (some .int) := ⟨GW_1 206 rfl rfl, GW_1 2 rfl rfl, by decide +kernel⟩
theorem cav_yX2_digitAt : CalV yX2_digitAt := ⟨GW_1 204 rfl rfl, GW_1 205 rfl rfl⟩
theorem lm_RX2_49 : Cond.methodLink RX2 49 yX2_fitsInCrossings ∈ GW := GW_1 207 rfl rfl
theorem cal_yX2_fitsInCrossings : Cal yX2_fitsInCrossings cX2_fitsInCrossings 3 1 (some .boolean) := ⟨GW_1 210 rfl rfl, GW_1 2 rfl rfl, by decide +kernel⟩
theorem cav_yX2_fitsInCrossings : CalV yX2_fitsInCrossings := ⟨GW_1 209 rfl rfl, GW_p1 2 rfl rfl⟩
theorem lm_RX2_45 : Cond.methodLink RX2 45 yX2_fitsAsOil ∈ GW := GW_1 192 rfl rfl
theorem cal_yX2_fitsAsOil : Cal yX2_fitsAsOil cX2_fitsAsOil 2 1 (some .boolean) := ⟨GW_1 195 rfl rfl, GW_1 2 rfl rfl, by decide +kernel⟩
theorem cav_yX2_fitsAsOil : CalV yX2_fitsAsOil := ⟨GW_1 194 rfl rfl, GW_p1 1 rfl rfl⟩
theorem lm_RX2_35 : Cond.methodLink RX2 35 yX2_firstMisfit ∈ GW := GW_1 188 rfl rfl
theorem cal_yX2_firstMisfit : Cal yX2_firstMisfit cX2_firstMisfit 4 0 (some .int) := ⟨GW_1 191 rfl rfl, GW_1 2 rfl rfl, by decide +kernel⟩
theorem cav_yX2_firstMisfit : CalV yX2_firstMisfit := ⟨GW_1 190 rfl rfl, GW_p1 0 rfl rfl⟩
theorem lm_RX2_27 : Cond.methodLink RX2 27 yX2_isClosed ∈ GW := GW_2 61 rfl rfl
theorem cal_yX2_isClosed : Cal yX2_isClosed cX2_isClosed 1 0 (some .boolean) := ⟨GW_2 64 rfl rfl, GW_1 2 rfl rfl, by decide +kernel⟩
theorem cav_yX2_isClosed : CalV yX2_isClosed := ⟨GW_2 63 rfl rfl, GW_p1 3 rfl rfl⟩
theorem lm_RX2_38 : Cond.methodLink RX2 38 yX2_firstLeadingNowhere ∈ GW := GW_2 65 rfl rfl
theorem cal_yX2_firstLeadingNowhere : Cal yX2_firstLeadingNowhere cX2_firstLeadingNowhere 4 0 (some .int) := ⟨GW_2 68 rfl rfl, GW_1 2 rfl rfl, by decide +kernel⟩
theorem cav_yX2_firstLeadingNowhere : CalV yX2_firstLeadingNowhere := ⟨GW_2 67 rfl rfl, GW_p1 4 rfl rfl⟩
theorem lm_RX5_50 : Cond.methodLink RX5 50 yX2_faultPlace ∈ GW := GW_1 184 rfl rfl
theorem cal_yX2_faultPlace : Cal yX2_faultPlace cX2_faultPlace 2 0 (some .int) := ⟨GW_1 187 rfl rfl, GW_1 2 rfl rfl, by decide +kernel⟩
theorem cav_yX2_faultPlace : CalV yX2_faultPlace := ⟨GW_1 185 rfl rfl, GW_1 186 rfl rfl⟩
theorem lf_RX6_59 : Cond.fieldLink RX6 59 (TX6 3).1 (TX6 3).2.1 (TX6 3).2.2.1 ∈ GW := GW_3 166 rfl rfl
theorem fp_X6_59_31 {X : CX} {cc : ByteArray} {nL D pc : Nat} {ls : List (Nat × Value)} {st : List Value} {σ : ST} (hX : Ok X RX6 cc nL D) {v : Int32} (hd : decode cc pc = .ok (.putfield 59, 3)) (kk : JJ X (pc + 3) ls st (sI σ 3103 v)) : JJ X pc ls (.int v :: .ref (xad X 31) :: st) σ := JJ.put hX 31 6 3 (ty := .int) rfl inG6 tyX6_ok nmX6 (by decide) lf_RX6_59 rfl rfl (by decide +kernel) rfl rfl (Nat.le_of_ble_eq_true rfl) rfl hd kk
theorem lf_RX6_56 : Cond.fieldLink RX6 56 (TX6 5).1 (TX6 5).2.1 (TX6 5).2.2.1 ∈ GW := GW_3 168 rfl rfl
theorem fp_X6_56_31 {X : CX} {cc : ByteArray} {nL D pc : Nat} {ls : List (Nat × Value)} {st : List Value} {σ : ST} (hX : Ok X RX6 cc nL D) {v : Int32} (hd : decode cc pc = .ok (.putfield 56, 3)) (kk : JJ X (pc + 3) ls st (sI σ 3105 v)) : JJ X pc ls (.int v :: .ref (xad X 31) :: st) σ := JJ.put hX 31 6 5 (ty := .int) rfl inG6 tyX6_ok nmX6 (by decide) lf_RX6_56 rfl rfl (by decide +kernel) rfl rfl (Nat.le_of_ble_eq_true rfl) rfl hd kk
theorem ald_32 {X : CX} {own : String} {cc : ByteArray} {nL D pc : Nat} {ls : List (Nat × Value)} {st : List Value} {σ : ST} (hX : Ok X own cc nL D) {i : Int32} (hin : inB i 28 = true) (hd : decode cc pc = .ok (.iaload, 1)) (kk : JJ X (pc + 1) ls (.int (gA σ 32 i.toNatClampNeg) :: st) σ) : JJ X pc ls (.int i :: .ref (xad X 32) :: st) σ := JJ.iald hX 32 rfl (inB_in hin) hd kk
theorem fg_X6_56_31 {X : CX} {cc : ByteArray} {nL D pc : Nat} {ls : List (Nat × Value)} {st : List Value} {σ : ST} (hX : Ok X RX6 cc nL D) (hd : decode cc pc = .ok (.getfield 56, 3)) (kk : JJ X (pc + 3) ls (.int (gI σ 3105) :: st) σ) : JJ X pc ls (.ref (xad X 31) :: st) σ := JJ.get hX 31 6 5 rfl inG6 (by decide) lf_RX6_56 rfl rfl hd kk
theorem lf_RX6_13 : Cond.fieldLink RX6 13 (TX6 2).1 (TX6 2).2.1 (TX6 2).2.2.1 ∈ GW := GW_3 165 rfl rfl
theorem fg_X6_13_31 {X : CX} {cc : ByteArray} {nL D pc : Nat} {ls : List (Nat × Value)} {st : List Value} {σ : ST} (hX : Ok X RX6 cc nL D) (hd : decode cc pc = .ok (.getfield 13, 3)) (kk : JJ X (pc + 3) ls (.ref (xad X 33) :: st) σ) : JJ X pc ls (.ref (xad X 31) :: st) σ := JJ.get hX 31 6 2 rfl inG6 (by decide) lf_RX6_13 rfl rfl hd kk
theorem fg_X6_59_31 {X : CX} {cc : ByteArray} {nL D pc : Nat} {ls : List (Nat × Value)} {st : List Value} {σ : ST} (hX : Ok X RX6 cc nL D) (hd : decode cc pc = .ok (.getfield 59, 3)) (kk : JJ X (pc + 3) ls (.int (gI σ 3103) :: st) σ) : JJ X pc ls (.ref (xad X 31) :: st) σ := JJ.get hX 31 6 3 rfl inG6 (by decide) lf_RX6_59 rfl rfl hd kk
theorem lm_RX6_62 : Cond.methodLink RX6 62 yX6_kindBy ∈ GW := GW_4 23 rfl rfl
theorem cal_yX6_kindBy : Cal yX6_kindBy cX6_kindBy 1 1 (some .int) := ⟨GW_4 25 rfl rfl, GW_1 7 rfl rfl, by decide +kernel⟩
theorem cas_yX6_kindBy : Cond.static yX6_kindBy ∈ GW := GW_4 24 rfl rfl
theorem ast_33 {X : CX} {own : String} {cc : ByteArray} {nL D pc : Nat} {ls : List (Nat × Value)} {st : List Value} {σ : ST} (hX : Ok X own cc nL D) {i x : Int32} (hin : inB i 18 = true) (hd : decode cc pc = .ok (.iastore, 1)) (kk : JJ X (pc + 1) ls st (sA σ 33 i.toNatClampNeg x)) : JJ X pc ls (.int x :: .int i :: .ref (xad X 33) :: st) σ := JJ.iast hX 33 rfl rfl (inB_in hin) hd kk
theorem lc_RX6_66 : Cond.constantLong RX6 66 5 ∈ GW := GW_4 26 rfl rfl
theorem lf_RX6_68 : Cond.fieldLink RX6 68 (TX6 4).1 (TX6 4).2.1 (TX6 4).2.2.1 ∈ GW := GW_3 167 rfl rfl
theorem fp_X6_68_31 {X : CX} {cc : ByteArray} {nL D pc : Nat} {ls : List (Nat × Value)} {st : List Value} {σ : ST} (hX : Ok X RX6 cc nL D) {v : Int32} (hd : decode cc pc = .ok (.putfield 68, 3)) (kk : JJ X (pc + 3) ls st (sI σ 3104 v)) : JJ X pc ls (.int v :: .ref (xad X 31) :: st) σ := JJ.put hX 31 6 4 (ty := .int) rfl inG6 tyX6_ok nmX6 (by decide) lf_RX6_68 rfl rfl (by decide +kernel) rfl rfl (Nat.le_of_ble_eq_true rfl) rfl hd kk
theorem lc_RX6_71 : Cond.constantLong RX6 71 9 ∈ GW := GW_4 27 rfl rfl
theorem lm_RX6_73 : Cond.methodLink RX6 73 yX6_go ∈ GW := GW_4 19 rfl rfl
theorem cal_yX6_go : Cal yX6_go cX6_go 4 1 (some .boolean) := ⟨GW_4 22 rfl rfl, GW_1 7 rfl rfl, by decide +kernel⟩
theorem cav_yX6_go : CalV yX6_go := ⟨GW_4 21 rfl rfl, GW_p2 1 rfl rfl⟩
theorem ald_33 {X : CX} {own : String} {cc : ByteArray} {nL D pc : Nat} {ls : List (Nat × Value)} {st : List Value} {σ : ST} (hX : Ok X own cc nL D) {i : Int32} (hin : inB i 18 = true) (hd : decode cc pc = .ok (.iaload, 1)) (kk : JJ X (pc + 1) ls (.int (gA σ 33 i.toNatClampNeg) :: st) σ) : JJ X pc ls (.int i :: .ref (xad X 33) :: st) σ := JJ.iald hX 33 rfl (inB_in hin) hd kk
theorem lm_RX6_77 : Cond.methodLink RX6 77 yX6_strayDigit ∈ GW := GW_4 28 rfl rfl
theorem cal_yX6_strayDigit : Cal yX6_strayDigit cX6_strayDigit 3 0 (some .int) := ⟨GW_4 31 rfl rfl, GW_1 7 rfl rfl, by decide +kernel⟩
theorem cav_yX6_strayDigit : CalV yX6_strayDigit := ⟨GW_4 30 rfl rfl, GW_p2 2 rfl rfl⟩
theorem lm_RX6_81 : Cond.methodLink RX6 81 yX6_faultOf ∈ GW := GW_4 15 rfl rfl
theorem cal_yX6_faultOf : Cal yX6_faultOf cX6_faultOf 3 0 (some .int) := ⟨GW_4 18 rfl rfl, GW_1 7 rfl rfl, by decide +kernel⟩
theorem cav_yX6_faultOf : CalV yX6_faultOf := ⟨GW_4 17 rfl rfl, GW_p2 0 rfl rfl⟩
theorem lm_RX2_31 : Cond.methodLink RX2 31 yX2_faultPlace ∈ GW := GW_2 78 rfl rfl
theorem lm_RX5_54 : Cond.methodLink RX5 54 yX2_isMine ∈ GW := GW_2 74 rfl rfl
theorem cal_yX2_isMine : Cal yX2_isMine cX2_isMine 1 0 (some .boolean) := ⟨GW_2 77 rfl rfl, GW_1 2 rfl rfl, by decide +kernel⟩
theorem cav_yX2_isMine : CalV yX2_isMine := ⟨GW_2 75 rfl rfl, GW_2 76 rfl rfl⟩
theorem lf_RX5_19 : Cond.fieldLink RX5 19 (TX5 1).1 (TX5 1).2.1 (TX5 1).2.2.1 ∈ GW := GW_1 144 rfl rfl
theorem fg_X5_19_0 {X : CX} {cc : ByteArray} {nL D pc : Nat} {ls : List (Nat × Value)} {st : List Value} {σ : ST} (hX : Ok X RX5 cc nL D) (hd : decode cc pc = .ok (.getfield 19, 3)) (kk : JJ X (pc + 3) ls (.ref (xad X 3) :: st) σ) : JJ X pc ls (.ref (xad X 0) :: st) σ := JJ.get hX 0 5 1 rfl inG5 (by decide) lf_RX5_19 rfl rfl hd kk
theorem lf_RX1_21 : Cond.fieldLinkNest RX1 21 (TX2 1).1 (TX2 1).2.1 (TX2 1).2.2.1 "LanternTongue" ∈ nestW := List.mem_of_getElem? (i := 1) rfl
theorem fg_X1_21_1 {X : CX} {cc : ByteArray} {nL D pc : Nat} {ls : List (Nat × Value)} {st : List Value} {σ : ST} (hX : Ok X RX1 cc nL D) (hd : decode cc pc = .ok (.getfield 21, 3)) (kk : JJ X (pc + 3) ls (.int (gI σ 101) :: st) σ) : JJ X pc ls (.ref (xad X 1) :: st) σ := JJ.getN hX 1 2 1 rfl inG2 (by decide) lf_RX1_21 rfl rfl hd kk
theorem lf_RX1_27 : Cond.fieldLink RX1 27 (TX1 0).1 (TX1 0).2.1 (TX1 0).2.2.1 ∈ GW := GW_1 45 rfl rfl
theorem inG1 : ∀ w ∈ u_ws RX1 TX1 5, w ∈ GW := by
  intro w hw
  obtain ⟨k, hk, rfl⟩ := List.mem_map.mp hw
  have hk := List.mem_range.mp hk
  rcases k with _|_|_|_|_|k
  · exact GW_1 53 rfl rfl
  · exact GW_1 55 rfl rfl
  · exact GW_1 57 rfl rfl
  · exact GW_1 59 rfl rfl
  · exact GW_1 61 rfl rfl
  · exact absurd hk (by omega)
theorem fp_X1_27_3 {X : CX} {cc : ByteArray} {nL D pc : Nat} {ls : List (Nat × Value)} {st : List Value} {σ : ST} (hX : Ok X RX1 cc nL D) {v : Int32} (hd : decode cc pc = .ok (.putfield 27, 3)) (kk : JJ X (pc + 3) ls st (sI σ 300 v)) : JJ X pc ls (.int v :: .ref (xad X 3) :: st) σ := JJ.put hX 3 1 0 (ty := .int) rfl inG1 tyX1_ok nmX1 (by decide) lf_RX1_27 rfl rfl (by decide +kernel) rfl rfl (Nat.le_of_ble_eq_true rfl) rfl hd kk
theorem lm_RX1_28 : Cond.methodLink RX1 28 yX2_digitAt ∈ GW := GW_2 83 rfl rfl
theorem lf_RX1_32 : Cond.fieldLink RX1 32 (TX1 1).1 (TX1 1).2.1 (TX1 1).2.2.1 ∈ GW := GW_1 48 rfl rfl
theorem fp_X1_32_3 {X : CX} {cc : ByteArray} {nL D pc : Nat} {ls : List (Nat × Value)} {st : List Value} {σ : ST} (hX : Ok X RX1 cc nL D) {v : Int32} (hd : decode cc pc = .ok (.putfield 32, 3)) (kk : JJ X (pc + 3) ls st (sI σ 301 v)) : JJ X pc ls (.int v :: .ref (xad X 3) :: st) σ := JJ.put hX 3 1 1 (ty := .int) rfl inG1 tyX1_ok nmX1 (by decide) lf_RX1_32 rfl rfl (by decide +kernel) rfl rfl (Nat.le_of_ble_eq_true rfl) rfl hd kk
theorem fg_X1_27_3 {X : CX} {cc : ByteArray} {nL D pc : Nat} {ls : List (Nat × Value)} {st : List Value} {σ : ST} (hX : Ok X RX1 cc nL D) (hd : decode cc pc = .ok (.getfield 27, 3)) (kk : JJ X (pc + 3) ls (.int (gI σ 300) :: st) σ) : JJ X pc ls (.ref (xad X 3) :: st) σ := JJ.get hX 3 1 0 rfl inG1 (by decide) lf_RX1_27 rfl rfl hd kk
theorem lf_RX1_9 : Cond.fieldLink RX1 9 (TX1 2).1 (TX1 2).2.1 (TX1 2).2.2.1 ∈ GW := GW_1 50 rfl rfl
theorem fg_X1_9_3 {X : CX} {cc : ByteArray} {nL D pc : Nat} {ls : List (Nat × Value)} {st : List Value} {σ : ST} (hX : Ok X RX1 cc nL D) (hd : decode cc pc = .ok (.getfield 9, 3)) (kk : JJ X (pc + 3) ls (.ref (xad X 4) :: st) σ) : JJ X pc ls (.ref (xad X 3) :: st) σ := JJ.get hX 3 1 2 rfl inG1 (by decide) lf_RX1_9 rfl rfl hd kk
theorem lm_RX1_35 : Cond.methodLink RX1 35 yX2_codeAt ∈ GW := GW_2 84 rfl rfl
theorem lm_RX1_38 : Cond.methodLinkNest RX1 38 yX2_kindOfSign "LanternTongue" ∈ nestW := List.mem_of_getElem? (i := 24) rfl
theorem lm_RX1_41 : Cond.methodLinkNest RX1 41 yX5_put "LanternTongue" ∈ nestW := List.mem_of_getElem? (i := 25) rfl
theorem lm_RX1_48 : Cond.methodLinkNest RX1 48 yX5_cell "LanternTongue" ∈ nestW := List.mem_of_getElem? (i := 26) rfl
theorem lm_RX1_45 : Cond.methodLink RX1 45 yX1_kindOf ∈ GW := GW_2 87 rfl rfl
theorem cal_yX1_kindOf : Cal yX1_kindOf cX1_kindOf 2 1 (some .int) := ⟨GW_2 90 rfl rfl, GW_1 3 rfl rfl, by decide +kernel⟩
theorem cav_yX1_kindOf : CalV yX1_kindOf := ⟨GW_2 88 rfl rfl, GW_2 89 rfl rfl⟩
theorem lf_RX1_15 : Cond.fieldLink RX1 15 (TX1 3).1 (TX1 3).2.1 (TX1 3).2.2.1 ∈ GW := GW_1 51 rfl rfl
theorem fg_X1_15_3 {X : CX} {cc : ByteArray} {nL D pc : Nat} {ls : List (Nat × Value)} {st : List Value} {σ : ST} (hX : Ok X RX1 cc nL D) (hd : decode cc pc = .ok (.getfield 15, 3)) (kk : JJ X (pc + 3) ls (.ref (xad X 5) :: st) σ) : JJ X pc ls (.ref (xad X 3) :: st) σ := JJ.get hX 3 1 3 rfl inG1 (by decide) lf_RX1_15 rfl rfl hd kk
theorem lf_RX1_18 : Cond.fieldLink RX1 18 (TX1 4).1 (TX1 4).2.1 (TX1 4).2.2.1 ∈ GW := GW_1 52 rfl rfl
theorem fg_X1_18_3 {X : CX} {cc : ByteArray} {nL D pc : Nat} {ls : List (Nat × Value)} {st : List Value} {σ : ST} (hX : Ok X RX1 cc nL D) (hd : decode cc pc = .ok (.getfield 18, 3)) (kk : JJ X (pc + 3) ls (.ref (xad X 6) :: st) σ) : JJ X pc ls (.ref (xad X 3) :: st) σ := JJ.get hX 3 1 4 rfl inG1 (by decide) lf_RX1_18 rfl rfl hd kk
theorem lm_RX5_58 : Cond.methodLink RX5 58 yX1_readFrom ∈ GW := GW_2 79 rfl rfl
theorem cal_yX1_readFrom : Cal yX1_readFrom cX1_readFrom 4 1 none := ⟨GW_2 82 rfl rfl, GW_1 3 rfl rfl, by decide +kernel⟩
theorem cav_yX1_readFrom : CalV yX1_readFrom := ⟨GW_2 80 rfl rfl, GW_2 81 rfl rfl⟩
theorem lf_RX5_28 : Cond.fieldLink RX5 28 (TX5 2).1 (TX5 2).2.1 (TX5 2).2.2.1 ∈ GW := GW_1 145 rfl rfl
theorem fg_X5_28_0 {X : CX} {cc : ByteArray} {nL D pc : Nat} {ls : List (Nat × Value)} {st : List Value} {σ : ST} (hX : Ok X RX5 cc nL D) (hd : decode cc pc = .ok (.getfield 28, 3)) (kk : JJ X (pc + 3) ls (.ref (xad X 7) :: st) σ) : JJ X pc ls (.ref (xad X 0) :: st) σ := JJ.get hX 0 5 2 rfl inG5 (by decide) lf_RX5_28 rfl rfl hd kk
theorem lf_RX4_31 : Cond.fieldLink RX4 31 (TX4 0).1 (TX4 0).2.1 (TX4 0).2.2.1 ∈ GW := GW_1 80 rfl rfl
theorem inG4 : ∀ w ∈ u_ws RX4 TX4 6, w ∈ GW := by
  intro w hw
  obtain ⟨k, hk, rfl⟩ := List.mem_map.mp hw
  have hk := List.mem_range.mp hk
  rcases k with _|_|_|_|_|_|k
  · exact GW_1 90 rfl rfl
  · exact GW_1 92 rfl rfl
  · exact GW_1 94 rfl rfl
  · exact GW_1 96 rfl rfl
  · exact GW_1 98 rfl rfl
  · exact GW_1 100 rfl rfl
  · exact absurd hk (by omega)
theorem fg_X4_31_7 {X : CX} {cc : ByteArray} {nL D pc : Nat} {ls : List (Nat × Value)} {st : List Value} {σ : ST} (hX : Ok X RX4 cc nL D) (hd : decode cc pc = .ok (.getfield 31, 3)) (kk : JJ X (pc + 3) ls (.ref (xad X 3) :: st) σ) : JJ X pc ls (.ref (xad X 7) :: st) σ := JJ.get hX 7 4 0 rfl inG4 (by decide) lf_RX4_31 rfl rfl hd kk
theorem lf_RX4_71 : Cond.fieldLinkNest RX4 71 (TX1 0).1 (TX1 0).2.1 (TX1 0).2.2.1 "LanternTongue" ∈ nestW := List.mem_of_getElem? (i := 5) rfl
theorem fg_X4_71_3 {X : CX} {cc : ByteArray} {nL D pc : Nat} {ls : List (Nat × Value)} {st : List Value} {σ : ST} (hX : Ok X RX4 cc nL D) (hd : decode cc pc = .ok (.getfield 71, 3)) (kk : JJ X (pc + 3) ls (.int (gI σ 300) :: st) σ) : JJ X pc ls (.ref (xad X 3) :: st) σ := JJ.getN hX 3 1 0 rfl inG1 (by decide) lf_RX4_71 rfl rfl hd kk
theorem lf_RX4_12 : Cond.fieldLink RX4 12 (TX4 1).1 (TX4 1).2.1 (TX4 1).2.2.1 ∈ GW := GW_1 81 rfl rfl
theorem fg_X4_12_7 {X : CX} {cc : ByteArray} {nL D pc : Nat} {ls : List (Nat × Value)} {st : List Value} {σ : ST} (hX : Ok X RX4 cc nL D) (hd : decode cc pc = .ok (.getfield 12, 3)) (kk : JJ X (pc + 3) ls (.ref (xad X 8) :: st) σ) : JJ X pc ls (.ref (xad X 7) :: st) σ := JJ.get hX 7 4 1 rfl inG4 (by decide) lf_RX4_12 rfl rfl hd kk
theorem lf_RX3_9 : Cond.fieldLink RX3 9 (TX3 0).1 (TX3 0).2.1 (TX3 0).2.2.1 ∈ GW := GW_1 76 rfl rfl
theorem inG3 : ∀ w ∈ u_ws RX3 TX3 1, w ∈ GW := by
  intro w hw
  obtain ⟨k, hk, rfl⟩ := List.mem_map.mp hw
  have hk := List.mem_range.mp hk
  rcases k with _|k
  · exact GW_1 77 rfl rfl
  · exact absurd hk (by omega)
theorem fg_X3_9_8 {X : CX} {cc : ByteArray} {nL D pc : Nat} {ls : List (Nat × Value)} {st : List Value} {σ : ST} (hX : Ok X RX3 cc nL D) (hd : decode cc pc = .ok (.getfield 9, 3)) (kk : JJ X (pc + 3) ls (.ref (xad X 12) :: st) σ) : JJ X pc ls (.ref (xad X 8) :: st) σ := JJ.get hX 8 3 0 rfl inG3 (by decide) lf_RX3_9 rfl rfl hd kk
theorem lm_RX3_19 : Cond.methodLinkNest RX3 19 yX5_put "LanternTongue" ∈ nestW := List.mem_of_getElem? (i := 27) rfl
theorem lm_RX4_75 : Cond.methodLink RX4 75 yX3_set ∈ GW := GW_2 100 rfl rfl
theorem cal_yX3_set : Cal yX3_set cX3_set 4 3 none := ⟨GW_2 103 rfl rfl, GW_1 5 rfl rfl, by decide +kernel⟩
theorem cav_yX3_set : CalV yX3_set := ⟨GW_2 101 rfl rfl, GW_2 102 rfl rfl⟩
theorem lf_RX4_18 : Cond.fieldLink RX4 18 (TX4 2).1 (TX4 2).2.1 (TX4 2).2.2.1 ∈ GW := GW_1 83 rfl rfl
theorem fg_X4_18_7 {X : CX} {cc : ByteArray} {nL D pc : Nat} {ls : List (Nat × Value)} {st : List Value} {σ : ST} (hX : Ok X RX4 cc nL D) (hd : decode cc pc = .ok (.getfield 18, 3)) (kk : JJ X (pc + 3) ls (.ref (xad X 9) :: st) σ) : JJ X pc ls (.ref (xad X 7) :: st) σ := JJ.get hX 7 4 2 rfl inG4 (by decide) lf_RX4_18 rfl rfl hd kk
theorem fg_X3_9_9 {X : CX} {cc : ByteArray} {nL D pc : Nat} {ls : List (Nat × Value)} {st : List Value} {σ : ST} (hX : Ok X RX3 cc nL D) (hd : decode cc pc = .ok (.getfield 9, 3)) (kk : JJ X (pc + 3) ls (.ref (xad X 13) :: st) σ) : JJ X pc ls (.ref (xad X 9) :: st) σ := JJ.get hX 9 3 0 rfl inG3 (by decide) lf_RX3_9 rfl rfl hd kk
theorem lf_RX4_21 : Cond.fieldLink RX4 21 (TX4 3).1 (TX4 3).2.1 (TX4 3).2.2.1 ∈ GW := GW_1 85 rfl rfl
theorem fg_X4_21_7 {X : CX} {cc : ByteArray} {nL D pc : Nat} {ls : List (Nat × Value)} {st : List Value} {σ : ST} (hX : Ok X RX4 cc nL D) (hd : decode cc pc = .ok (.getfield 21, 3)) (kk : JJ X (pc + 3) ls (.ref (xad X 10) :: st) σ) : JJ X pc ls (.ref (xad X 7) :: st) σ := JJ.get hX 7 4 3 rfl inG4 (by decide) lf_RX4_21 rfl rfl hd kk
theorem fg_X3_9_10 {X : CX} {cc : ByteArray} {nL D pc : Nat} {ls : List (Nat × Value)} {st : List Value} {σ : ST} (hX : Ok X RX3 cc nL D) (hd : decode cc pc = .ok (.getfield 9, 3)) (kk : JJ X (pc + 3) ls (.ref (xad X 14) :: st) σ) : JJ X pc ls (.ref (xad X 10) :: st) σ := JJ.get hX 10 3 0 rfl inG3 (by decide) lf_RX3_9 rfl rfl hd kk
theorem lf_RX4_24 : Cond.fieldLink RX4 24 (TX4 4).1 (TX4 4).2.1 (TX4 4).2.2.1 ∈ GW := GW_1 87 rfl rfl
theorem fg_X4_24_7 {X : CX} {cc : ByteArray} {nL D pc : Nat} {ls : List (Nat × Value)} {st : List Value} {σ : ST} (hX : Ok X RX4 cc nL D) (hd : decode cc pc = .ok (.getfield 24, 3)) (kk : JJ X (pc + 3) ls (.ref (xad X 11) :: st) σ) : JJ X pc ls (.ref (xad X 7) :: st) σ := JJ.get hX 7 4 4 rfl inG4 (by decide) lf_RX4_24 rfl rfl hd kk
theorem lm_RX4_79 : Cond.methodLink RX4 79 yX1_soundOf ∈ GW := GW_2 105 rfl rfl
theorem cal_yX1_soundOf : Cal yX1_soundOf cX1_soundOf 2 1 (some .int) := ⟨GW_2 108 rfl rfl, GW_1 3 rfl rfl, by decide +kernel⟩
theorem cav_yX1_soundOf : CalV yX1_soundOf := ⟨GW_2 106 rfl rfl, GW_2 107 rfl rfl⟩
theorem fg_X3_9_11 {X : CX} {cc : ByteArray} {nL D pc : Nat} {ls : List (Nat × Value)} {st : List Value} {σ : ST} (hX : Ok X RX3 cc nL D) (hd : decode cc pc = .ok (.getfield 9, 3)) (kk : JJ X (pc + 3) ls (.ref (xad X 15) :: st) σ) : JJ X pc ls (.ref (xad X 11) :: st) σ := JJ.get hX 11 3 0 rfl inG3 (by decide) lf_RX3_9 rfl rfl hd kk
theorem lm_RX4_35 : Cond.methodLink RX4 35 yX4_start ∈ GW := GW_2 96 rfl rfl
theorem cal_yX4_start : Cal yX4_start cX4_start 4 0 none := ⟨GW_2 99 rfl rfl, GW_1 4 rfl rfl, by decide +kernel⟩
theorem cav_yX4_start : CalV yX4_start := ⟨GW_2 98 rfl rfl, GW_p1 5 rfl rfl⟩
theorem lm_RX4_49 : Cond.methodLink RX4 49 yX1_leadsTo ∈ GW := GW_2 117 rfl rfl
theorem cal_yX1_leadsTo : Cal yX1_leadsTo cX1_leadsTo 3 2 (some .int) := ⟨GW_2 120 rfl rfl, GW_1 3 rfl rfl, by decide +kernel⟩
theorem cav_yX1_leadsTo : CalV yX1_leadsTo := ⟨GW_2 118 rfl rfl, GW_2 119 rfl rfl⟩
theorem lm_RX3_15 : Cond.methodLinkNest RX3 15 yX5_cell "LanternTongue" ∈ nestW := List.mem_of_getElem? (i := 28) rfl
theorem lm_RX4_45 : Cond.methodLink RX4 45 yX3_get ∈ GW := GW_2 121 rfl rfl
theorem cal_yX3_get : Cal yX3_get cX3_get 3 2 (some .int) := ⟨GW_2 124 rfl rfl, GW_1 5 rfl rfl, by decide +kernel⟩
theorem cav_yX3_get : CalV yX3_get := ⟨GW_2 122 rfl rfl, GW_2 123 rfl rfl⟩
theorem lm_RX3_23 : Cond.methodLink RX3 23 yX3_get ∈ GW := GW_2 130 rfl rfl
theorem lm_RX3_27 : Cond.methodLink RX3 27 yX3_set ∈ GW := GW_2 131 rfl rfl
theorem lm_RX4_87 : Cond.methodLink RX4 87 yX3_lower ∈ GW := GW_2 126 rfl rfl
theorem cal_yX3_lower : Cal yX3_lower cX3_lower 4 3 (some .boolean) := ⟨GW_2 129 rfl rfl, GW_1 5 rfl rfl, by decide +kernel⟩
theorem cav_yX3_lower : CalV yX3_lower := ⟨GW_2 127 rfl rfl, GW_2 128 rfl rfl⟩
theorem lm_RX4_90 : Cond.methodLink RX4 90 yX1_oilTo ∈ GW := GW_2 132 rfl rfl
theorem cal_yX1_oilTo : Cal yX1_oilTo cX1_oilTo 2 1 (some .int) := ⟨GW_2 135 rfl rfl, GW_1 3 rfl rfl, by decide +kernel⟩
theorem cav_yX1_oilTo : CalV yX1_oilTo := ⟨GW_2 133 rfl rfl, GW_2 134 rfl rfl⟩
theorem lm_RX4_58 : Cond.methodLink RX4 58 yX4_apartAfter ∈ GW := GW_2 136 rfl rfl
theorem cal_yX4_apartAfter : Cal yX4_apartAfter cX4_apartAfter 4 3 (some .int) := ⟨GW_2 139 rfl rfl, GW_1 4 rfl rfl, by decide +kernel⟩
theorem cav_yX4_apartAfter : CalV yX4_apartAfter := ⟨GW_2 138 rfl rfl, GW_p1 8 rfl rfl⟩
theorem lm_RX4_83 : Cond.methodLink RX4 83 yX4_lowerBy ∈ GW := GW_2 113 rfl rfl
theorem cal_yX4_lowerBy : Cal yX4_lowerBy cX4_lowerBy 6 3 (some .boolean) := ⟨GW_2 116 rfl rfl, GW_1 4 rfl rfl, by decide +kernel⟩
theorem cav_yX4_lowerBy : CalV yX4_lowerBy := ⟨GW_2 115 rfl rfl, GW_p1 7 rfl rfl⟩
theorem lm_RX4_38 : Cond.methodLink RX4 38 yX4_sweepPairs ∈ GW := GW_2 109 rfl rfl
theorem cal_yX4_sweepPairs : Cal yX4_sweepPairs cX4_sweepPairs 5 0 (some .boolean) := ⟨GW_2 112 rfl rfl, GW_1 4 rfl rfl, by decide +kernel⟩
theorem cav_yX4_sweepPairs : CalV yX4_sweepPairs := ⟨GW_2 111 rfl rfl, GW_p1 6 rfl rfl⟩
theorem lm_RX4_100 : Cond.methodLink RX4 100 yX1_isIn ∈ GW := GW_2 148 rfl rfl
theorem cal_yX1_isIn : Cal yX1_isIn cX1_isIn 2 2 (some .boolean) := ⟨GW_2 150 rfl rfl, GW_1 3 rfl rfl, by decide +kernel⟩
theorem cas_yX1_isIn : Cond.static yX1_isIn ∈ GW := GW_2 149 rfl rfl
theorem lf_RX4_27 : Cond.fieldLink RX4 27 (TX4 5).1 (TX4 5).2.1 (TX4 5).2.2.1 ∈ GW := GW_1 89 rfl rfl
theorem fg_X4_27_7 {X : CX} {cc : ByteArray} {nL D pc : Nat} {ls : List (Nat × Value)} {st : List Value} {σ : ST} (hX : Ok X RX4 cc nL D) (hd : decode cc pc = .ok (.getfield 27, 3)) (kk : JJ X (pc + 3) ls (.ref (xad X 16) :: st) σ) : JJ X pc ls (.ref (xad X 7) :: st) σ := JJ.get hX 7 4 5 rfl inG4 (by decide) lf_RX4_27 rfl rfl hd kk
theorem lm_RX4_67 : Cond.methodLinkNest RX4 67 yX5_cell "LanternTongue" ∈ nestW := List.mem_of_getElem? (i := 29) rfl
theorem lm_RX4_61 : Cond.methodLink RX4 61 yX4_stepsOfRound ∈ GW := GW_2 151 rfl rfl
theorem cal_yX4_stepsOfRound : Cal yX4_stepsOfRound cX4_stepsOfRound 3 2 (some .int) := ⟨GW_2 154 rfl rfl, GW_1 4 rfl rfl, by decide +kernel⟩
theorem cav_yX4_stepsOfRound : CalV yX4_stepsOfRound := ⟨GW_2 152 rfl rfl, GW_2 153 rfl rfl⟩
theorem lm_RX4_104 : Cond.methodLink RX4 104 Lib.Math.min.name ∈ GW := GW_2 156 rfl rfl
theorem lm_RX4_93 : Cond.methodLink RX4 93 yX4_leastOfRound ∈ GW := GW_2 144 rfl rfl
theorem cal_yX4_leastOfRound : Cal yX4_leastOfRound cX4_leastOfRound 5 2 (some .int) := ⟨GW_2 147 rfl rfl, GW_1 4 rfl rfl, by decide +kernel⟩
theorem cav_yX4_leastOfRound : CalV yX4_leastOfRound := ⟨GW_2 146 rfl rfl, GW_p1 10 rfl rfl⟩
theorem lm_RX4_96 : Cond.methodLinkNest RX4 96 yX5_put "LanternTongue" ∈ nestW := List.mem_of_getElem? (i := 30) rfl
theorem lm_RX4_42 : Cond.methodLink RX4 42 yX4_workOutRounds ∈ GW := GW_2 140 rfl rfl
theorem cal_yX4_workOutRounds : Cal yX4_workOutRounds cX4_workOutRounds 5 0 none := ⟨GW_2 143 rfl rfl, GW_1 4 rfl rfl, by decide +kernel⟩
theorem cav_yX4_workOutRounds : CalV yX4_workOutRounds := ⟨GW_2 142 rfl rfl, GW_p1 9 rfl rfl⟩
theorem lm_RX5_62 : Cond.methodLink RX5 62 yX4_workOut ∈ GW := GW_2 92 rfl rfl
theorem cal_yX4_workOut : Cal yX4_workOut cX4_workOut 3 0 none := ⟨GW_2 95 rfl rfl, GW_1 4 rfl rfl, by decide +kernel⟩
theorem cav_yX4_workOut : CalV yX4_workOut := ⟨GW_2 93 rfl rfl, GW_2 94 rfl rfl⟩
theorem lf_RX5_35 : Cond.fieldLink RX5 35 (TX5 3).1 (TX5 3).2.1 (TX5 3).2.2.1 ∈ GW := GW_1 146 rfl rfl
theorem fg_X5_35_0 {X : CX} {cc : ByteArray} {nL D pc : Nat} {ls : List (Nat × Value)} {st : List Value} {σ : ST} (hX : Ok X RX5 cc nL D) (hd : decode cc pc = .ok (.getfield 35, 3)) (kk : JJ X (pc + 3) ls (.ref (xad X 17) :: st) σ) : JJ X pc ls (.ref (xad X 0) :: st) σ := JJ.get hX 0 5 3 rfl inG5 (by decide) lf_RX5_35 rfl rfl hd kk
theorem lf_RX0_30 : Cond.fieldLink RX0 30 (TX0 0).1 (TX0 0).2.1 (TX0 0).2.2.1 ∈ GW := GW_1 109 rfl rfl
theorem inG0 : ∀ w ∈ u_ws RX0 TX0 8, w ∈ GW := by
  intro w hw
  obtain ⟨k, hk, rfl⟩ := List.mem_map.mp hw
  have hk := List.mem_range.mp hk
  rcases k with _|_|_|_|_|_|_|_|k
  · exact GW_1 126 rfl rfl
  · exact GW_1 128 rfl rfl
  · exact GW_1 130 rfl rfl
  · exact GW_1 132 rfl rfl
  · exact GW_1 134 rfl rfl
  · exact GW_1 136 rfl rfl
  · exact GW_1 138 rfl rfl
  · exact GW_1 140 rfl rfl
  · exact absurd hk (by omega)
theorem fp_X0_30_17 {X : CX} {cc : ByteArray} {nL D pc : Nat} {ls : List (Nat × Value)} {st : List Value} {σ : ST} (hX : Ok X RX0 cc nL D) {v : Int32} (hd : decode cc pc = .ok (.putfield 30, 3)) (kk : JJ X (pc + 3) ls st (sI σ 1700 v)) : JJ X pc ls (.int v :: .ref (xad X 17) :: st) σ := JJ.put hX 17 0 0 (ty := .int) rfl inG0 tyX0_ok nmX0 (by decide) lf_RX0_30 rfl rfl (by decide +kernel) rfl rfl (Nat.le_of_ble_eq_true rfl) rfl hd kk
theorem lf_RX0_34 : Cond.fieldLink RX0 34 (TX0 5).1 (TX0 5).2.1 (TX0 5).2.2.1 ∈ GW := GW_1 119 rfl rfl
theorem fp_X0_34_17 {X : CX} {cc : ByteArray} {nL D pc : Nat} {ls : List (Nat × Value)} {st : List Value} {σ : ST} (hX : Ok X RX0 cc nL D) {v : Int32} (hd : decode cc pc = .ok (.putfield 34, 3)) (kk : JJ X (pc + 3) ls st (sI σ 1705 v)) : JJ X pc ls (.int v :: .ref (xad X 17) :: st) σ := JJ.put hX 17 0 5 (ty := .int) rfl inG0 tyX0_ok nmX0 (by decide) lf_RX0_34 rfl rfl (by decide +kernel) rfl rfl (Nat.le_of_ble_eq_true rfl) rfl hd kk
theorem lm_RX5_65 : Cond.methodLink RX5 65 yX0_clear ∈ GW := GW_2 158 rfl rfl
theorem cal_yX0_clear : Cal yX0_clear cX0_clear 1 0 none := ⟨GW_2 161 rfl rfl, GW_1 6 rfl rfl, by decide +kernel⟩
theorem cav_yX0_clear : CalV yX0_clear := ⟨GW_2 159 rfl rfl, GW_2 160 rfl rfl⟩
theorem lf_RX5_68 : Cond.fieldLink RX5 68 (TX5 5).1 (TX5 5).2.1 (TX5 5).2.2.1 ∈ GW := GW_1 148 rfl rfl
theorem fp_X5_68_0 {X : CX} {cc : ByteArray} {nL D pc : Nat} {ls : List (Nat × Value)} {st : List Value} {σ : ST} (hX : Ok X RX5 cc nL D) {v : Int32} (hn : narrow .boolean (.int v) = .int v) (hf : fits .boolean (.int v) = true) (hd : decode cc pc = .ok (.putfield 68, 3)) (kk : JJ X (pc + 3) ls st (sI σ 5 v)) : JJ X pc ls (.int v :: .ref (xad X 0) :: st) σ := JJ.put hX 0 5 5 (ty := .boolean) rfl inG5 tyX5_ok nmX5 (by decide) lf_RX5_68 rfl rfl (by decide +kernel) hn hf (Nat.le_of_ble_eq_true rfl) rfl hd kk
theorem lf_RX5_72 : Cond.fieldLink RX5 72 (TX5 6).1 (TX5 6).2.1 (TX5 6).2.2.1 ∈ GW := GW_1 149 rfl rfl
theorem fg_X5_72_0 {X : CX} {cc : ByteArray} {nL D pc : Nat} {ls : List (Nat × Value)} {st : List Value} {σ : ST} (hX : Ok X RX5 cc nL D) (hd : decode cc pc = .ok (.getfield 72, 3)) (kk : JJ X (pc + 3) ls (.int (gI σ 6) :: st) σ) : JJ X pc ls (.ref (xad X 0) :: st) σ := JJ.get hX 0 5 6 rfl inG5 (by decide) lf_RX5_72 rfl rfl hd kk
theorem fp_X5_72_0 {X : CX} {cc : ByteArray} {nL D pc : Nat} {ls : List (Nat × Value)} {st : List Value} {σ : ST} (hX : Ok X RX5 cc nL D) {v : Int32} (hd : decode cc pc = .ok (.putfield 72, 3)) (kk : JJ X (pc + 3) ls st (sI σ 6 v)) : JJ X pc ls (.int v :: .ref (xad X 0) :: st) σ := JJ.put hX 0 5 6 (ty := .int) rfl inG5 tyX5_ok nmX5 (by decide) lf_RX5_72 rfl rfl (by decide +kernel) rfl rfl (Nat.le_of_ble_eq_true rfl) rfl hd kk
theorem lf_RX5_75 : Cond.fieldLinkNest RX5 75 (TX1 0).1 (TX1 0).2.1 (TX1 0).2.2.1 "LanternTongue" ∈ nestW := List.mem_of_getElem? (i := 4) rfl
theorem fg_X5_75_3 {X : CX} {cc : ByteArray} {nL D pc : Nat} {ls : List (Nat × Value)} {st : List Value} {σ : ST} (hX : Ok X RX5 cc nL D) (hd : decode cc pc = .ok (.getfield 75, 3)) (kk : JJ X (pc + 3) ls (.int (gI σ 300) :: st) σ) : JJ X pc ls (.ref (xad X 3) :: st) σ := JJ.getN hX 3 1 0 rfl inG1 (by decide) lf_RX5_75 rfl rfl hd kk
theorem lf_RX6_84 : Cond.fieldLink RX6 84 (TX6 6).1 (TX6 6).2.1 (TX6 6).2.2.1 ∈ GW := GW_3 169 rfl rfl
theorem fp_X6_84_31 {X : CX} {cc : ByteArray} {nL D pc : Nat} {ls : List (Nat × Value)} {st : List Value} {σ : ST} (hX : Ok X RX6 cc nL D) {v : Int32} (hd : decode cc pc = .ok (.putfield 84, 3)) (kk : JJ X (pc + 3) ls st (sI σ 3106 v)) : JJ X pc ls (.int v :: .ref (xad X 31) :: st) σ := JJ.put hX 31 6 6 (ty := .int) rfl inG6 tyX6_ok nmX6 (by decide) lf_RX6_84 rfl rfl (by decide +kernel) rfl rfl (Nat.le_of_ble_eq_true rfl) rfl hd kk
theorem fg_X6_84_31 {X : CX} {cc : ByteArray} {nL D pc : Nat} {ls : List (Nat × Value)} {st : List Value} {σ : ST} (hX : Ok X RX6 cc nL D) (hd : decode cc pc = .ok (.getfield 84, 3)) (kk : JJ X (pc + 3) ls (.int (gI σ 3106) :: st) σ) : JJ X pc ls (.ref (xad X 31) :: st) σ := JJ.get hX 31 6 6 rfl inG6 (by decide) lf_RX6_84 rfl rfl hd kk
theorem lf_RX6_16 : Cond.fieldLink RX6 16 (TX6 9).1 (TX6 9).2.1 (TX6 9).2.2.1 ∈ GW := GW_3 172 rfl rfl
theorem fg_X6_16_31 {X : CX} {cc : ByteArray} {nL D pc : Nat} {ls : List (Nat × Value)} {st : List Value} {σ : ST} (hX : Ok X RX6 cc nL D) (hd : decode cc pc = .ok (.getfield 16, 3)) (kk : JJ X (pc + 3) ls (.ref (xad X 34) :: st) σ) : JJ X pc ls (.ref (xad X 31) :: st) σ := JJ.get hX 31 6 9 rfl inG6 (by decide) lf_RX6_16 rfl rfl hd kk
theorem ast_34 {X : CX} {own : String} {cc : ByteArray} {nL D pc : Nat} {ls : List (Nat × Value)} {st : List Value} {σ : ST} (hX : Ok X own cc nL D) {i x : Int32} (hin : inB i 6 = true) (hd : decode cc pc = .ok (.iastore, 1)) (kk : JJ X (pc + 1) ls st (sA σ 34 i.toNatClampNeg x)) : JJ X pc ls (.int x :: .int i :: .ref (xad X 34) :: st) σ := JJ.iast hX 34 rfl rfl (inB_in hin) hd kk
theorem lf_RX6_19 : Cond.fieldLink RX6 19 (TX6 10).1 (TX6 10).2.1 (TX6 10).2.2.1 ∈ GW := GW_3 173 rfl rfl
theorem fg_X6_19_31 {X : CX} {cc : ByteArray} {nL D pc : Nat} {ls : List (Nat × Value)} {st : List Value} {σ : ST} (hX : Ok X RX6 cc nL D) (hd : decode cc pc = .ok (.getfield 19, 3)) (kk : JJ X (pc + 3) ls (.ref (xad X 35) :: st) σ) : JJ X pc ls (.ref (xad X 31) :: st) σ := JJ.get hX 31 6 10 rfl inG6 (by decide) lf_RX6_19 rfl rfl hd kk
theorem ast_35 {X : CX} {own : String} {cc : ByteArray} {nL D pc : Nat} {ls : List (Nat × Value)} {st : List Value} {σ : ST} (hX : Ok X own cc nL D) {i x : Int32} (hin : inB i 12 = true) (hd : decode cc pc = .ok (.iastore, 1)) (kk : JJ X (pc + 1) ls st (sA σ 35 i.toNatClampNeg x)) : JJ X pc ls (.int x :: .int i :: .ref (xad X 35) :: st) σ := JJ.iast hX 35 rfl rfl (inB_in hin) hd kk
theorem fg_X6_68_31 {X : CX} {cc : ByteArray} {nL D pc : Nat} {ls : List (Nat × Value)} {st : List Value} {σ : ST} (hX : Ok X RX6 cc nL D) (hd : decode cc pc = .ok (.getfield 68, 3)) (kk : JJ X (pc + 3) ls (.int (gI σ 3104) :: st) σ) : JJ X pc ls (.ref (xad X 31) :: st) σ := JJ.get hX 31 6 4 rfl inG6 (by decide) lf_RX6_68 rfl rfl hd kk
theorem lf_RX6_87 : Cond.fieldLink RX6 87 (TX6 7).1 (TX6 7).2.1 (TX6 7).2.2.1 ∈ GW := GW_3 170 rfl rfl
theorem fp_X6_87_31 {X : CX} {cc : ByteArray} {nL D pc : Nat} {ls : List (Nat × Value)} {st : List Value} {σ : ST} (hX : Ok X RX6 cc nL D) {v : Int32} (hd : decode cc pc = .ok (.putfield 87, 3)) (kk : JJ X (pc + 3) ls st (sI σ 3107 v)) : JJ X pc ls (.int v :: .ref (xad X 31) :: st) σ := JJ.put hX 31 6 7 (ty := .int) rfl inG6 tyX6_ok nmX6 (by decide) lf_RX6_87 rfl rfl (by decide +kernel) rfl rfl (Nat.le_of_ble_eq_true rfl) rfl hd kk
theorem lf_RX6_90 : Cond.fieldLink RX6 90 (TX6 11).1 (TX6 11).2.1 (TX6 11).2.2.1 ∈ GW := GW_3 174 rfl rfl
theorem fp_X6_90_31 {X : CX} {cc : ByteArray} {nL D pc : Nat} {ls : List (Nat × Value)} {st : List Value} {σ : ST} (hX : Ok X RX6 cc nL D) {v : Int32} (hd : decode cc pc = .ok (.putfield 90, 3)) (kk : JJ X (pc + 3) ls st (sI σ 3111 v)) : JJ X pc ls (.int v :: .ref (xad X 31) :: st) σ := JJ.put hX 31 6 11 (ty := .int) rfl inG6 tyX6_ok nmX6 (by decide) lf_RX6_90 rfl rfl (by decide +kernel) rfl rfl (Nat.le_of_ble_eq_true rfl) rfl hd kk
theorem lf_RX6_93 : Cond.fieldLink RX6 93 (TX6 16).1 (TX6 16).2.1 (TX6 16).2.2.1 ∈ GW := GW_3 179 rfl rfl
theorem fp_X6_93_31 {X : CX} {cc : ByteArray} {nL D pc : Nat} {ls : List (Nat × Value)} {st : List Value} {σ : ST} (hX : Ok X RX6 cc nL D) {v : Int32} (hd : decode cc pc = .ok (.putfield 93, 3)) (kk : JJ X (pc + 3) ls st (sI σ 3116 v)) : JJ X pc ls (.int v :: .ref (xad X 31) :: st) σ := JJ.put hX 31 6 16 (ty := .int) rfl inG6 tyX6_ok nmX6 (by decide) lf_RX6_93 rfl rfl (by decide +kernel) rfl rfl (Nat.le_of_ble_eq_true rfl) rfl hd kk
theorem lf_RX6_96 : Cond.fieldLink RX6 96 (TX6 8).1 (TX6 8).2.1 (TX6 8).2.2.1 ∈ GW := GW_3 171 rfl rfl
theorem fg_X6_96_31 {X : CX} {cc : ByteArray} {nL D pc : Nat} {ls : List (Nat × Value)} {st : List Value} {σ : ST} (hX : Ok X RX6 cc nL D) (hd : decode cc pc = .ok (.getfield 96, 3)) (kk : JJ X (pc + 3) ls (.int (gI σ 3108) :: st) σ) : JJ X pc ls (.ref (xad X 31) :: st) σ := JJ.get hX 31 6 8 rfl inG6 (by decide) lf_RX6_96 rfl rfl hd kk
theorem fp_X6_96_31 {X : CX} {cc : ByteArray} {nL D pc : Nat} {ls : List (Nat × Value)} {st : List Value} {σ : ST} (hX : Ok X RX6 cc nL D) {v : Int32} (hd : decode cc pc = .ok (.putfield 96, 3)) (kk : JJ X (pc + 3) ls st (sI σ 3108 v)) : JJ X pc ls (.int v :: .ref (xad X 31) :: st) σ := JJ.put hX 31 6 8 (ty := .int) rfl inG6 tyX6_ok nmX6 (by decide) lf_RX6_96 rfl rfl (by decide +kernel) rfl rfl (Nat.le_of_ble_eq_true rfl) rfl hd kk
theorem lm_RX5_76 : Cond.methodLink RX5 76 yX1_has ∈ GW := GW_2 166 rfl rfl
theorem cal_yX1_has : Cal yX1_has cX1_has 2 1 (some .boolean) := ⟨GW_2 169 rfl rfl, GW_1 3 rfl rfl, by decide +kernel⟩
theorem cav_yX1_has : CalV yX1_has := ⟨GW_2 167 rfl rfl, GW_2 168 rfl rfl⟩
theorem lm_RX5_80 : Cond.methodLink RX5 80 yX1_kindOf ∈ GW := GW_2 170 rfl rfl
theorem lm_RX5_84 : Cond.methodLink RX5 84 yX1_leadsTo ∈ GW := GW_2 171 rfl rfl
theorem lm_RX5_88 : Cond.methodLink RX5 88 yX1_soundOf ∈ GW := GW_2 172 rfl rfl
theorem lm_RX5_91 : Cond.methodLink RX5 91 yX1_oilTo ∈ GW := GW_2 173 rfl rfl
theorem fg_X0_30_17 {X : CX} {cc : ByteArray} {nL D pc : Nat} {ls : List (Nat × Value)} {st : List Value} {σ : ST} (hX : Ok X RX0 cc nL D) (hd : decode cc pc = .ok (.getfield 30, 3)) (kk : JJ X (pc + 3) ls (.int (gI σ 1700) :: st) σ) : JJ X pc ls (.ref (xad X 17) :: st) σ := JJ.get hX 17 0 0 rfl inG0 (by decide) lf_RX0_30 rfl rfl hd kk
theorem lf_RX0_9 : Cond.fieldLink RX0 9 (TX0 1).1 (TX0 1).2.1 (TX0 1).2.2.1 ∈ GW := GW_1 111 rfl rfl
theorem fg_X0_9_17 {X : CX} {cc : ByteArray} {nL D pc : Nat} {ls : List (Nat × Value)} {st : List Value} {σ : ST} (hX : Ok X RX0 cc nL D) (hd : decode cc pc = .ok (.getfield 9, 3)) (kk : JJ X (pc + 3) ls (.ref (xad X 18) :: st) σ) : JJ X pc ls (.ref (xad X 17) :: st) σ := JJ.get hX 17 0 1 rfl inG0 (by decide) lf_RX0_9 rfl rfl hd kk
theorem lm_RX0_41 : Cond.methodLinkNest RX0 41 yX5_cell "LanternTongue" ∈ nestW := List.mem_of_getElem? (i := 31) rfl
theorem lm_RX5_94 : Cond.methodLink RX5 94 yX0_partiesAt ∈ GW := GW_2 174 rfl rfl
theorem cal_yX0_partiesAt : Cal yX0_partiesAt cX0_partiesAt 4 1 (some .int) := ⟨GW_2 177 rfl rfl, GW_1 6 rfl rfl, by decide +kernel⟩
theorem cav_yX0_partiesAt : CalV yX0_partiesAt := ⟨GW_2 175 rfl rfl, GW_2 176 rfl rfl⟩
theorem lm_RX6_108 : Cond.methodLink RX6 108 yX6_isCrossing ∈ GW := GW_4 40 rfl rfl
theorem cal_yX6_isCrossing : Cal yX6_isCrossing cX6_isCrossing 2 1 (some .boolean) := ⟨GW_4 43 rfl rfl, GW_1 7 rfl rfl, by decide +kernel⟩
theorem cav_yX6_isCrossing : CalV yX6_isCrossing := ⟨GW_4 42 rfl rfl, GW_p2 3 rfl rfl⟩
theorem ald_34 {X : CX} {own : String} {cc : ByteArray} {nL D pc : Nat} {ls : List (Nat × Value)} {st : List Value} {σ : ST} (hX : Ok X own cc nL D) {i : Int32} (hin : inB i 6 = true) (hd : decode cc pc = .ok (.iaload, 1)) (kk : JJ X (pc + 1) ls (.int (gA σ 34 i.toNatClampNeg) :: st) σ) : JJ X pc ls (.int i :: .ref (xad X 34) :: st) σ := JJ.iald hX 34 rfl (inB_in hin) hd kk
theorem ald_35 {X : CX} {own : String} {cc : ByteArray} {nL D pc : Nat} {ls : List (Nat × Value)} {st : List Value} {σ : ST} (hX : Ok X own cc nL D) {i : Int32} (hin : inB i 12 = true) (hd : decode cc pc = .ok (.iaload, 1)) (kk : JJ X (pc + 1) ls (.int (gA σ 35 i.toNatClampNeg) :: st) σ) : JJ X pc ls (.int i :: .ref (xad X 35) :: st) σ := JJ.iald hX 35 rfl (inB_in hin) hd kk
theorem lm_RX6_99 : Cond.methodLink RX6 99 yX6_soundOf ∈ GW := GW_4 48 rfl rfl
theorem cal_yX6_soundOf : Cal yX6_soundOf cX6_soundOf 2 1 (some .int) := ⟨GW_4 51 rfl rfl, GW_1 7 rfl rfl, by decide +kernel⟩
theorem cav_yX6_soundOf : CalV yX6_soundOf := ⟨GW_4 50 rfl rfl, GW_p2 5 rfl rfl⟩
theorem lm_RX6_102 : Cond.methodLink RX6 102 yX6_burnsAt ∈ GW := GW_4 52 rfl rfl
theorem cal_yX6_burnsAt : Cal yX6_burnsAt cX6_burnsAt 2 1 (some .int) := ⟨GW_4 55 rfl rfl, GW_1 7 rfl rfl, by decide +kernel⟩
theorem cav_yX6_burnsAt : CalV yX6_burnsAt := ⟨GW_4 54 rfl rfl, GW_p2 6 rfl rfl⟩
theorem fg_X6_90_31 {X : CX} {cc : ByteArray} {nL D pc : Nat} {ls : List (Nat × Value)} {st : List Value} {σ : ST} (hX : Ok X RX6 cc nL D) (hd : decode cc pc = .ok (.getfield 90, 3)) (kk : JJ X (pc + 3) ls (.int (gI σ 3111) :: st) σ) : JJ X pc ls (.ref (xad X 31) :: st) σ := JJ.get hX 31 6 11 rfl inG6 (by decide) lf_RX6_90 rfl rfl hd kk
theorem lf_RX6_22 : Cond.fieldLink RX6 22 (TX6 12).1 (TX6 12).2.1 (TX6 12).2.2.1 ∈ GW := GW_3 175 rfl rfl
theorem fg_X6_22_31 {X : CX} {cc : ByteArray} {nL D pc : Nat} {ls : List (Nat × Value)} {st : List Value} {σ : ST} (hX : Ok X RX6 cc nL D) (hd : decode cc pc = .ok (.getfield 22, 3)) (kk : JJ X (pc + 3) ls (.ref (xad X 36) :: st) σ) : JJ X pc ls (.ref (xad X 31) :: st) σ := JJ.get hX 31 6 12 rfl inG6 (by decide) lf_RX6_22 rfl rfl hd kk
theorem ald_36 {X : CX} {own : String} {cc : ByteArray} {nL D pc : Nat} {ls : List (Nat × Value)} {st : List Value} {σ : ST} (hX : Ok X own cc nL D) {i : Int32} (hin : inB i 12 = true) (hd : decode cc pc = .ok (.iaload, 1)) (kk : JJ X (pc + 1) ls (.int (gA σ 36 i.toNatClampNeg) :: st) σ) : JJ X pc ls (.int i :: .ref (xad X 36) :: st) σ := JJ.iald hX 36 rfl (inB_in hin) hd kk
theorem lm_RX6_105 : Cond.methodLink RX6 105 yX6_whoIsAt ∈ GW := GW_4 56 rfl rfl
theorem cal_yX6_whoIsAt : Cal yX6_whoIsAt cX6_whoIsAt 4 1 (some .int) := ⟨GW_4 59 rfl rfl, GW_1 7 rfl rfl, by decide +kernel⟩
theorem cav_yX6_whoIsAt : CalV yX6_whoIsAt := ⟨GW_4 58 rfl rfl, GW_p2 7 rfl rfl⟩
theorem lm_RX6_111 : Cond.methodLink RX6 111 yX6_tellCrossing ∈ GW := GW_4 44 rfl rfl
theorem cal_yX6_tellCrossing : Cal yX6_tellCrossing cX6_tellCrossing 3 2 (some .int) := ⟨GW_4 47 rfl rfl, GW_1 7 rfl rfl, by decide +kernel⟩
theorem cav_yX6_tellCrossing : CalV yX6_tellCrossing := ⟨GW_4 46 rfl rfl, GW_p2 4 rfl rfl⟩
theorem lm_RX5_97 : Cond.methodLink RX5 97 yX5_isSuch ∈ GW := GW_2 183 rfl rfl
theorem cal_yX5_isSuch : Cal yX5_isSuch cX5_isSuch 2 2 (some .boolean) := ⟨GW_2 185 rfl rfl, GW_1 1 rfl rfl, by decide +kernel⟩
theorem cas_yX5_isSuch : Cond.static yX5_isSuch ∈ GW := GW_2 184 rfl rfl
theorem lc_RX6_115 : Cond.constantLong RX6 115 4 ∈ GW := GW_4 64 rfl rfl
theorem lf_RX5_101 : Cond.fieldLinkNest RX5 101 (TX0 0).1 (TX0 0).2.1 (TX0 0).2.2.1 "LanternTongue" ∈ nestW := List.mem_of_getElem? (i := 13) rfl
theorem fg_X5_101_17 {X : CX} {cc : ByteArray} {nL D pc : Nat} {ls : List (Nat × Value)} {st : List Value} {σ : ST} (hX : Ok X RX5 cc nL D) (hd : decode cc pc = .ok (.getfield 101, 3)) (kk : JJ X (pc + 3) ls (.int (gI σ 1700) :: st) σ) : JJ X pc ls (.ref (xad X 17) :: st) σ := JJ.getN hX 17 0 0 rfl inG0 (by decide) lf_RX5_101 rfl rfl hd kk
theorem lf_RX5_104 : Cond.fieldLinkNest RX5 104 (TX1 1).1 (TX1 1).2.1 (TX1 1).2.2.1 "LanternTongue" ∈ nestW := List.mem_of_getElem? (i := 6) rfl
theorem fg_X5_104_3 {X : CX} {cc : ByteArray} {nL D pc : Nat} {ls : List (Nat × Value)} {st : List Value} {σ : ST} (hX : Ok X RX5 cc nL D) (hd : decode cc pc = .ok (.getfield 104, 3)) (kk : JJ X (pc + 3) ls (.int (gI σ 301) :: st) σ) : JJ X pc ls (.ref (xad X 3) :: st) σ := JJ.getN hX 3 1 1 rfl inG1 (by decide) lf_RX5_104 rfl rfl hd kk
theorem lm_RX0_45 : Cond.methodLinkNest RX0 45 yX5_put "LanternTongue" ∈ nestW := List.mem_of_getElem? (i := 32) rfl
theorem lf_RX0_15 : Cond.fieldLink RX0 15 (TX0 2).1 (TX0 2).2.1 (TX0 2).2.2.1 ∈ GW := GW_1 113 rfl rfl
theorem fg_X0_15_17 {X : CX} {cc : ByteArray} {nL D pc : Nat} {ls : List (Nat × Value)} {st : List Value} {σ : ST} (hX : Ok X RX0 cc nL D) (hd : decode cc pc = .ok (.getfield 15, 3)) (kk : JJ X (pc + 3) ls (.ref (xad X 19) :: st) σ) : JJ X pc ls (.ref (xad X 17) :: st) σ := JJ.get hX 17 0 2 rfl inG0 (by decide) lf_RX0_15 rfl rfl hd kk
theorem lf_RX0_18 : Cond.fieldLink RX0 18 (TX0 3).1 (TX0 3).2.1 (TX0 3).2.2.1 ∈ GW := GW_1 115 rfl rfl
theorem fg_X0_18_17 {X : CX} {cc : ByteArray} {nL D pc : Nat} {ls : List (Nat × Value)} {st : List Value} {σ : ST} (hX : Ok X RX0 cc nL D) (hd : decode cc pc = .ok (.getfield 18, 3)) (kk : JJ X (pc + 3) ls (.ref (xad X 20) :: st) σ) : JJ X pc ls (.ref (xad X 17) :: st) σ := JJ.get hX 17 0 3 rfl inG0 (by decide) lf_RX0_18 rfl rfl hd kk
theorem lf_RX0_21 : Cond.fieldLink RX0 21 (TX0 4).1 (TX0 4).2.1 (TX0 4).2.2.1 ∈ GW := GW_1 117 rfl rfl
theorem fg_X0_21_17 {X : CX} {cc : ByteArray} {nL D pc : Nat} {ls : List (Nat × Value)} {st : List Value} {σ : ST} (hX : Ok X RX0 cc nL D) (hd : decode cc pc = .ok (.getfield 21, 3)) (kk : JJ X (pc + 3) ls (.ref (xad X 21) :: st) σ) : JJ X pc ls (.ref (xad X 17) :: st) σ := JJ.get hX 17 0 4 rfl inG0 (by decide) lf_RX0_21 rfl rfl hd kk
theorem lm_RX5_107 : Cond.methodLink RX5 107 yX0_welcome ∈ GW := GW_2 190 rfl rfl
theorem cal_yX0_welcome : Cal yX0_welcome cX0_welcome 4 2 (some .int) := ⟨GW_2 193 rfl rfl, GW_1 6 rfl rfl, by decide +kernel⟩
theorem cav_yX0_welcome : CalV yX0_welcome := ⟨GW_2 191 rfl rfl, GW_2 192 rfl rfl⟩
theorem ast_36 {X : CX} {own : String} {cc : ByteArray} {nL D pc : Nat} {ls : List (Nat × Value)} {st : List Value} {σ : ST} (hX : Ok X own cc nL D) {i x : Int32} (hin : inB i 12 = true) (hd : decode cc pc = .ok (.iastore, 1)) (kk : JJ X (pc + 1) ls st (sA σ 36 i.toNatClampNeg x)) : JJ X pc ls (.int x :: .int i :: .ref (xad X 36) :: st) σ := JJ.iast hX 36 rfl rfl (inB_in hin) hd kk
theorem fg_X6_87_31 {X : CX} {cc : ByteArray} {nL D pc : Nat} {ls : List (Nat × Value)} {st : List Value} {σ : ST} (hX : Ok X RX6 cc nL D) (hd : decode cc pc = .ok (.getfield 87, 3)) (kk : JJ X (pc + 3) ls (.int (gI σ 3107) :: st) σ) : JJ X pc ls (.ref (xad X 31) :: st) σ := JJ.get hX 31 6 7 rfl inG6 (by decide) lf_RX6_87 rfl rfl hd kk
theorem lm_RX5_110 : Cond.methodLink RX5 110 yX0_has ∈ GW := GW_2 199 rfl rfl
theorem cal_yX0_has : Cal yX0_has cX0_has 2 1 (some .boolean) := ⟨GW_2 202 rfl rfl, GW_1 6 rfl rfl, by decide +kernel⟩
theorem cav_yX0_has : CalV yX0_has := ⟨GW_2 200 rfl rfl, GW_2 201 rfl rfl⟩
theorem lf_RX5_111 : Cond.fieldLinkNest RX5 111 (TX0 1).1 (TX0 1).2.1 (TX0 1).2.2.1 "LanternTongue" ∈ nestW := List.mem_of_getElem? (i := 14) rfl
theorem fg_X5_111_17 {X : CX} {cc : ByteArray} {nL D pc : Nat} {ls : List (Nat × Value)} {st : List Value} {σ : ST} (hX : Ok X RX5 cc nL D) (hd : decode cc pc = .ok (.getfield 111, 3)) (kk : JJ X (pc + 3) ls (.ref (xad X 18) :: st) σ) : JJ X pc ls (.ref (xad X 17) :: st) σ := JJ.getN hX 17 0 1 rfl inG0 (by decide) lf_RX5_111 rfl rfl hd kk
theorem lm_RX5_115 : Cond.methodLink RX5 115 yX5_cell ∈ GW := GW_2 203 rfl rfl
theorem lf_RX5_119 : Cond.fieldLinkNest RX5 119 (TX0 2).1 (TX0 2).2.1 (TX0 2).2.2.1 "LanternTongue" ∈ nestW := List.mem_of_getElem? (i := 15) rfl
theorem fg_X5_119_17 {X : CX} {cc : ByteArray} {nL D pc : Nat} {ls : List (Nat × Value)} {st : List Value} {σ : ST} (hX : Ok X RX5 cc nL D) (hd : decode cc pc = .ok (.getfield 119, 3)) (kk : JJ X (pc + 3) ls (.ref (xad X 19) :: st) σ) : JJ X pc ls (.ref (xad X 17) :: st) σ := JJ.getN hX 17 0 2 rfl inG0 (by decide) lf_RX5_119 rfl rfl hd kk
theorem lf_RX5_122 : Cond.fieldLinkNest RX5 122 (TX0 3).1 (TX0 3).2.1 (TX0 3).2.2.1 "LanternTongue" ∈ nestW := List.mem_of_getElem? (i := 16) rfl
theorem fg_X5_122_17 {X : CX} {cc : ByteArray} {nL D pc : Nat} {ls : List (Nat × Value)} {st : List Value} {σ : ST} (hX : Ok X RX5 cc nL D) (hd : decode cc pc = .ok (.getfield 122, 3)) (kk : JJ X (pc + 3) ls (.ref (xad X 20) :: st) σ) : JJ X pc ls (.ref (xad X 17) :: st) σ := JJ.getN hX 17 0 3 rfl inG0 (by decide) lf_RX5_122 rfl rfl hd kk
theorem lm_RX5_125 : Cond.methodLink RX5 125 yX0_stepsSinceSpoken ∈ GW := GW_2 204 rfl rfl
theorem cal_yX0_stepsSinceSpoken : Cal yX0_stepsSinceSpoken cX0_stepsSinceSpoken 3 1 (some .int) := ⟨GW_2 207 rfl rfl, GW_1 6 rfl rfl, by decide +kernel⟩
theorem cav_yX0_stepsSinceSpoken : CalV yX0_stepsSinceSpoken := ⟨GW_2 205 rfl rfl, GW_2 206 rfl rfl⟩
theorem lm_RX0_49 : Cond.methodLink RX0 49 yX0_stepsSinceSpoken ∈ GW := GW_2 212 rfl rfl
theorem lm_RX5_128 : Cond.methodLink RX5 128 yX0_mayLook ∈ GW := GW_2 208 rfl rfl
theorem cal_yX0_mayLook : Cal yX0_mayLook cX0_mayLook 3 1 (some .boolean) := ⟨GW_2 211 rfl rfl, GW_1 6 rfl rfl, by decide +kernel⟩
theorem cav_yX0_mayLook : CalV yX0_mayLook := ⟨GW_2 209 rfl rfl, GW_2 210 rfl rfl⟩
theorem lm_RX6_123 : Cond.methodLink RX6 123 yX6_isParty ∈ GW := GW_4 73 rfl rfl
theorem cal_yX6_isParty : Cal yX6_isParty cX6_isParty 2 1 (some .boolean) := ⟨GW_4 76 rfl rfl, GW_1 7 rfl rfl, by decide +kernel⟩
theorem cav_yX6_isParty : CalV yX6_isParty := ⟨GW_4 75 rfl rfl, GW_p2 8 rfl rfl⟩
theorem lm_RX6_117 : Cond.methodLink RX6 117 yX6_sinceOf ∈ GW := GW_4 81 rfl rfl
theorem cal_yX6_sinceOf : Cal yX6_sinceOf cX6_sinceOf 2 1 (some .int) := ⟨GW_4 84 rfl rfl, GW_1 7 rfl rfl, by decide +kernel⟩
theorem cav_yX6_sinceOf : CalV yX6_sinceOf := ⟨GW_4 83 rfl rfl, GW_p2 10 rfl rfl⟩
theorem lm_RX6_120 : Cond.methodLink RX6 120 yX6_mayLook ∈ GW := GW_4 85 rfl rfl
theorem cal_yX6_mayLook : Cal yX6_mayLook cX6_mayLook 2 1 (some .boolean) := ⟨GW_4 88 rfl rfl, GW_1 7 rfl rfl, by decide +kernel⟩
theorem cav_yX6_mayLook : CalV yX6_mayLook := ⟨GW_4 87 rfl rfl, GW_p2 11 rfl rfl⟩
theorem lm_RX6_126 : Cond.methodLink RX6 126 yX6_tell ∈ GW := GW_4 77 rfl rfl
theorem cal_yX6_tell : Cal yX6_tell cX6_tell 3 2 (some .int) := ⟨GW_4 80 rfl rfl, GW_1 7 rfl rfl, by decide +kernel⟩
theorem cav_yX6_tell : CalV yX6_tell := ⟨GW_4 79 rfl rfl, GW_p2 9 rfl rfl⟩
theorem lm_RX5_131 : Cond.methodLink RX5 131 yX5_isWay ∈ GW := GW_2 217 rfl rfl
theorem cal_yX5_isWay : Cal yX5_isWay cX5_isWay 1 1 (some .boolean) := ⟨GW_2 219 rfl rfl, GW_1 1 rfl rfl, by decide +kernel⟩
theorem cas_yX5_isWay : Cond.static yX5_isWay ∈ GW := GW_2 218 rfl rfl
theorem lm_RX5_134 : Cond.methodLink RX5 134 yX0_go ∈ GW := GW_2 220 rfl rfl
theorem cal_yX0_go : Cal yX0_go cX0_go 4 3 none := ⟨GW_2 223 rfl rfl, GW_1 6 rfl rfl, by decide +kernel⟩
theorem cav_yX0_go : CalV yX0_go := ⟨GW_2 221 rfl rfl, GW_2 222 rfl rfl⟩
theorem lf_RX5_138 : Cond.fieldLinkNest RX5 138 (TX0 4).1 (TX0 4).2.1 (TX0 4).2.2.1 "LanternTongue" ∈ nestW := List.mem_of_getElem? (i := 17) rfl
theorem fg_X5_138_17 {X : CX} {cc : ByteArray} {nL D pc : Nat} {ls : List (Nat × Value)} {st : List Value} {σ : ST} (hX : Ok X RX5 cc nL D) (hd : decode cc pc = .ok (.getfield 138, 3)) (kk : JJ X (pc + 3) ls (.ref (xad X 21) :: st) σ) : JJ X pc ls (.ref (xad X 17) :: st) σ := JJ.getN hX 17 0 4 rfl inG0 (by decide) lf_RX5_138 rfl rfl hd kk
theorem lm_RX5_141 : Cond.methodLink RX5 141 yX5_put ∈ GW := GW_2 228 rfl rfl
theorem lf_RX5_145 : Cond.fieldLinkNest RX5 145 (TX4 1).1 (TX4 1).2.1 (TX4 1).2.2.1 "LanternTongue" ∈ nestW := List.mem_of_getElem? (i := 8) rfl
theorem fg_X5_145_7 {X : CX} {cc : ByteArray} {nL D pc : Nat} {ls : List (Nat × Value)} {st : List Value} {σ : ST} (hX : Ok X RX5 cc nL D) (hd : decode cc pc = .ok (.getfield 145, 3)) (kk : JJ X (pc + 3) ls (.ref (xad X 8) :: st) σ) : JJ X pc ls (.ref (xad X 7) :: st) σ := JJ.getN hX 7 4 1 rfl inG4 (by decide) lf_RX5_145 rfl rfl hd kk
theorem lm_RX5_148 : Cond.methodLink RX5 148 yX3_get ∈ GW := GW_3 1 rfl rfl
theorem lm_RX5_153 : Cond.methodLink RX5 153 yX5_orNone ∈ GW := GW_3 2 rfl rfl
theorem cal_yX5_orNone : Cal yX5_orNone cX5_orNone 1 1 (some .int) := ⟨GW_3 4 rfl rfl, GW_1 1 rfl rfl, by decide +kernel⟩
theorem cas_yX5_orNone : Cond.static yX5_orNone ∈ GW := GW_3 3 rfl rfl
theorem lm_RX4_54 : Cond.methodLink RX4 54 yX4_firstBy ∈ GW := GW_3 9 rfl rfl
theorem cal_yX4_firstBy : Cal yX4_firstBy cX4_firstBy 3 3 (some .int) := ⟨GW_3 11 rfl rfl, GW_1 4 rfl rfl, by decide +kernel⟩
theorem cas_yX4_firstBy : Cond.static yX4_firstBy ∈ GW := GW_3 10 rfl rfl
theorem lm_RX5_156 : Cond.methodLink RX5 156 yX4_firstOfWay ∈ GW := GW_3 5 rfl rfl
theorem cal_yX4_firstOfWay : Cal yX4_firstOfWay cX4_firstOfWay 3 2 (some .int) := ⟨GW_3 8 rfl rfl, GW_1 4 rfl rfl, by decide +kernel⟩
theorem cav_yX4_firstOfWay : CalV yX4_firstOfWay := ⟨GW_3 6 rfl rfl, GW_3 7 rfl rfl⟩
theorem lf_RX5_159 : Cond.fieldLinkNest RX5 159 (TX4 2).1 (TX4 2).2.1 (TX4 2).2.2.1 "LanternTongue" ∈ nestW := List.mem_of_getElem? (i := 9) rfl
theorem fg_X5_159_7 {X : CX} {cc : ByteArray} {nL D pc : Nat} {ls : List (Nat × Value)} {st : List Value} {σ : ST} (hX : Ok X RX5 cc nL D) (hd : decode cc pc = .ok (.getfield 159, 3)) (kk : JJ X (pc + 3) ls (.ref (xad X 9) :: st) σ) : JJ X pc ls (.ref (xad X 7) :: st) σ := JJ.getN hX 7 4 2 rfl inG4 (by decide) lf_RX5_159 rfl rfl hd kk
theorem lc_RX6_136 : Cond.constantLong RX6 136 2 ∈ GW := GW_4 109 rfl rfl
theorem lf_RX6_25 : Cond.fieldLink RX6 25 (TX6 13).1 (TX6 13).2.1 (TX6 13).2.2.1 ∈ GW := GW_3 176 rfl rfl
theorem fg_X6_25_31 {X : CX} {cc : ByteArray} {nL D pc : Nat} {ls : List (Nat × Value)} {st : List Value} {σ : ST} (hX : Ok X RX6 cc nL D) (hd : decode cc pc = .ok (.getfield 25, 3)) (kk : JJ X (pc + 3) ls (.ref (xad X 37) :: st) σ) : JJ X pc ls (.ref (xad X 31) :: st) σ := JJ.get hX 31 6 13 rfl inG6 (by decide) lf_RX6_25 rfl rfl hd kk
theorem ast_37 {X : CX} {own : String} {cc : ByteArray} {nL D pc : Nat} {ls : List (Nat × Value)} {st : List Value} {σ : ST} (hX : Ok X own cc nL D) {i x : Int32} (hin : inB i 6 = true) (hd : decode cc pc = .ok (.iastore, 1)) (kk : JJ X (pc + 1) ls st (sA σ 37 i.toNatClampNeg x)) : JJ X pc ls (.int x :: .int i :: .ref (xad X 37) :: st) σ := JJ.iast hX 37 rfl rfl (inB_in hin) hd kk
theorem ald_37 {X : CX} {own : String} {cc : ByteArray} {nL D pc : Nat} {ls : List (Nat × Value)} {st : List Value} {σ : ST} (hX : Ok X own cc nL D) {i : Int32} (hin : inB i 6 = true) (hd : decode cc pc = .ok (.iaload, 1)) (kk : JJ X (pc + 1) ls (.int (gA σ 37 i.toNatClampNeg) :: st) σ) : JJ X pc ls (.int i :: .ref (xad X 37) :: st) σ := JJ.iald hX 37 rfl (inB_in hin) hd kk
theorem lm_RX6_129 : Cond.methodLink RX6 129 yX6_layFar ∈ GW := GW_4 118 rfl rfl
theorem cal_yX6_layFar : Cal yX6_layFar cX6_layFar 7 2 none := ⟨GW_4 121 rfl rfl, GW_1 7 rfl rfl, by decide +kernel⟩
theorem cav_yX6_layFar : CalV yX6_layFar := ⟨GW_4 120 rfl rfl, GW_p2 14 rfl rfl⟩
theorem lm_RX6_133 : Cond.methodLink RX6 133 yX6_stepsTo ∈ GW := GW_4 114 rfl rfl
theorem cal_yX6_stepsTo : Cal yX6_stepsTo cX6_stepsTo 3 2 (some .int) := ⟨GW_4 117 rfl rfl, GW_1 7 rfl rfl, by decide +kernel⟩
theorem cav_yX6_stepsTo : CalV yX6_stepsTo := ⟨GW_4 116 rfl rfl, GW_p2 13 rfl rfl⟩
theorem lm_RX6_138 : Cond.methodLink RX6 138 yX6_wayOf ∈ GW := GW_4 110 rfl rfl
theorem cal_yX6_wayOf : Cal yX6_wayOf cX6_wayOf 5 3 (some .int) := ⟨GW_4 113 rfl rfl, GW_1 7 rfl rfl, by decide +kernel⟩
theorem cav_yX6_wayOf : CalV yX6_wayOf := ⟨GW_4 112 rfl rfl, GW_p2 12 rfl rfl⟩
theorem lm_RX5_161 : Cond.methodLink RX5 161 yX4_stepsOfRound ∈ GW := GW_3 16 rfl rfl
theorem lm_RX4_64 : Cond.methodLink RX4 64 yX4_roundAfter ∈ GW := GW_3 21 rfl rfl
theorem cal_yX4_roundAfter : Cal yX4_roundAfter cX4_roundAfter 4 2 (some .int) := ⟨GW_3 24 rfl rfl, GW_1 4 rfl rfl, by decide +kernel⟩
theorem cav_yX4_roundAfter : CalV yX4_roundAfter := ⟨GW_3 23 rfl rfl, GW_p1 11 rfl rfl⟩
theorem lm_RX5_164 : Cond.methodLink RX5 164 yX4_firstOfRound ∈ GW := GW_3 17 rfl rfl
theorem cal_yX4_firstOfRound : Cal yX4_firstOfRound cX4_firstOfRound 2 1 (some .int) := ⟨GW_3 20 rfl rfl, GW_1 4 rfl rfl, by decide +kernel⟩
theorem cav_yX4_firstOfRound : CalV yX4_firstOfRound := ⟨GW_3 18 rfl rfl, GW_3 19 rfl rfl⟩
theorem lf_RX6_28 : Cond.fieldLink RX6 28 (TX6 14).1 (TX6 14).2.1 (TX6 14).2.2.1 ∈ GW := GW_3 177 rfl rfl
theorem fg_X6_28_31 {X : CX} {cc : ByteArray} {nL D pc : Nat} {ls : List (Nat × Value)} {st : List Value} {σ : ST} (hX : Ok X RX6 cc nL D) (hd : decode cc pc = .ok (.getfield 28, 3)) (kk : JJ X (pc + 3) ls (.ref (xad X 38) :: st) σ) : JJ X pc ls (.ref (xad X 31) :: st) σ := JJ.get hX 31 6 14 rfl inG6 (by decide) lf_RX6_28 rfl rfl hd kk
theorem ast_38 {X : CX} {own : String} {cc : ByteArray} {nL D pc : Nat} {ls : List (Nat × Value)} {st : List Value} {σ : ST} (hX : Ok X own cc nL D) {i x : Int32} (hin : inB i 384 = true) (hd : decode cc pc = .ok (.iastore, 1)) (kk : JJ X (pc + 1) ls st (sA σ 38 i.toNatClampNeg x)) : JJ X pc ls (.int x :: .int i :: .ref (xad X 38) :: st) σ := JJ.iast hX 38 rfl rfl (inB_in hin) hd kk
theorem ald_38 {X : CX} {own : String} {cc : ByteArray} {nL D pc : Nat} {ls : List (Nat × Value)} {st : List Value} {σ : ST} (hX : Ok X own cc nL D) {i : Int32} (hin : inB i 384 = true) (hd : decode cc pc = .ok (.iaload, 1)) (kk : JJ X (pc + 1) ls (.int (gA σ 38 i.toNatClampNeg) :: st) σ) : JJ X pc ls (.int i :: .ref (xad X 38) :: st) σ := JJ.iald hX 38 rfl (inB_in hin) hd kk
theorem lm_RX6_142 : Cond.methodLink RX6 142 yX6_roundFrom ∈ GW := GW_4 130 rfl rfl
theorem cal_yX6_roundFrom : Cal yX6_roundFrom cX6_roundFrom 10 2 (some .int) := ⟨GW_4 133 rfl rfl, GW_1 7 rfl rfl, by decide +kernel⟩
theorem cav_yX6_roundFrom : CalV yX6_roundFrom := ⟨GW_4 132 rfl rfl, GW_p3 0 rfl rfl⟩
theorem lm_RX6_145 : Cond.methodLink RX6 145 yX6_roundOf ∈ GW := GW_4 126 rfl rfl
theorem cal_yX6_roundOf : Cal yX6_roundOf cX6_roundOf 4 2 (some .int) := ⟨GW_4 129 rfl rfl, GW_1 7 rfl rfl, by decide +kernel⟩
theorem cav_yX6_roundOf : CalV yX6_roundOf := ⟨GW_4 128 rfl rfl, GW_p2 15 rfl rfl⟩
theorem lf_RX5_167 : Cond.fieldLinkNest RX5 167 (TX4 3).1 (TX4 3).2.1 (TX4 3).2.2.1 "LanternTongue" ∈ nestW := List.mem_of_getElem? (i := 10) rfl
theorem fg_X5_167_7 {X : CX} {cc : ByteArray} {nL D pc : Nat} {ls : List (Nat × Value)} {st : List Value} {σ : ST} (hX : Ok X RX5 cc nL D) (hd : decode cc pc = .ok (.getfield 167, 3)) (kk : JJ X (pc + 3) ls (.ref (xad X 10) :: st) σ) : JJ X pc ls (.ref (xad X 7) :: st) σ := JJ.getN hX 7 4 3 rfl inG4 (by decide) lf_RX5_167 rfl rfl hd kk
theorem lf_RX6_31 : Cond.fieldLink RX6 31 (TX6 15).1 (TX6 15).2.1 (TX6 15).2.2.1 ∈ GW := GW_3 178 rfl rfl
theorem fg_X6_31_31 {X : CX} {cc : ByteArray} {nL D pc : Nat} {ls : List (Nat × Value)} {st : List Value} {σ : ST} (hX : Ok X RX6 cc nL D) (hd : decode cc pc = .ok (.getfield 31, 3)) (kk : JJ X (pc + 3) ls (.ref (xad X 39) :: st) σ) : JJ X pc ls (.ref (xad X 31) :: st) σ := JJ.get hX 31 6 15 rfl inG6 (by decide) lf_RX6_31 rfl rfl hd kk
theorem ast_39 {X : CX} {own : String} {cc : ByteArray} {nL D pc : Nat} {ls : List (Nat × Value)} {st : List Value} {σ : ST} (hX : Ok X own cc nL D) {i x : Int32} (hin : inB i 36 = true) (hd : decode cc pc = .ok (.iastore, 1)) (kk : JJ X (pc + 1) ls st (sA σ 39 i.toNatClampNeg x)) : JJ X pc ls (.int x :: .int i :: .ref (xad X 39) :: st) σ := JJ.iast hX 39 rfl rfl (inB_in hin) hd kk
theorem lm_RX6_148 : Cond.methodLink RX6 148 yX6_beginPair ∈ GW := GW_4 142 rfl rfl
theorem cal_yX6_beginPair : Cal yX6_beginPair cX6_beginPair 4 2 none := ⟨GW_4 145 rfl rfl, GW_1 7 rfl rfl, by decide +kernel⟩
theorem cav_yX6_beginPair : CalV yX6_beginPair := ⟨GW_4 144 rfl rfl, GW_p3 2 rfl rfl⟩
theorem ald_39 {X : CX} {own : String} {cc : ByteArray} {nL D pc : Nat} {ls : List (Nat × Value)} {st : List Value} {σ : ST} (hX : Ok X own cc nL D) {i : Int32} (hin : inB i 36 = true) (hd : decode cc pc = .ok (.iaload, 1)) (kk : JJ X (pc + 1) ls (.int (gA σ 39 i.toNatClampNeg) :: st) σ) : JJ X pc ls (.int i :: .ref (xad X 39) :: st) σ := JJ.iald hX 39 rfl (inB_in hin) hd kk
theorem lm_RX6_152 : Cond.methodLink RX6 152 yX6_meetOf ∈ GW := GW_4 138 rfl rfl
theorem cal_yX6_meetOf : Cal yX6_meetOf cX6_meetOf 7 2 (some .int) := ⟨GW_4 141 rfl rfl, GW_1 7 rfl rfl, by decide +kernel⟩
theorem cav_yX6_meetOf : CalV yX6_meetOf := ⟨GW_4 140 rfl rfl, GW_p3 1 rfl rfl⟩
theorem lf_RX5_170 : Cond.fieldLinkNest RX5 170 (TX4 4).1 (TX4 4).2.1 (TX4 4).2.2.1 "LanternTongue" ∈ nestW := List.mem_of_getElem? (i := 11) rfl
theorem fg_X5_170_7 {X : CX} {cc : ByteArray} {nL D pc : Nat} {ls : List (Nat × Value)} {st : List Value} {σ : ST} (hX : Ok X RX5 cc nL D) (hd : decode cc pc = .ok (.getfield 170, 3)) (kk : JJ X (pc + 3) ls (.ref (xad X 11) :: st) σ) : JJ X pc ls (.ref (xad X 7) :: st) σ := JJ.getN hX 7 4 4 rfl inG4 (by decide) lf_RX5_170 rfl rfl hd kk
theorem lm_RX5_173 : Cond.methodLink RX5 173 yX4_firstOfApart ∈ GW := GW_3 33 rfl rfl
theorem cal_yX4_firstOfApart : Cal yX4_firstOfApart cX4_firstOfApart 3 2 (some .int) := ⟨GW_3 36 rfl rfl, GW_1 4 rfl rfl, by decide +kernel⟩
theorem cav_yX4_firstOfApart : CalV yX4_firstOfApart := ⟨GW_3 34 rfl rfl, GW_3 35 rfl rfl⟩
theorem lm_RX6_155 : Cond.methodLink RX6 155 yX6_apartFrom ∈ GW := GW_4 154 rfl rfl
theorem cal_yX6_apartFrom : Cal yX6_apartFrom cX6_apartFrom 7 2 (some .int) := ⟨GW_4 157 rfl rfl, GW_1 7 rfl rfl, by decide +kernel⟩
theorem cav_yX6_apartFrom : CalV yX6_apartFrom := ⟨GW_4 156 rfl rfl, GW_p3 4 rfl rfl⟩
theorem lm_RX6_158 : Cond.methodLink RX6 158 yX6_apartOf ∈ GW := GW_4 150 rfl rfl
theorem cal_yX6_apartOf : Cal yX6_apartOf cX6_apartOf 5 3 (some .int) := ⟨GW_4 153 rfl rfl, GW_1 7 rfl rfl, by decide +kernel⟩
theorem cav_yX6_apartOf : CalV yX6_apartOf := ⟨GW_4 152 rfl rfl, GW_p3 3 rfl rfl⟩
theorem lf_RX5_176 : Cond.fieldLinkNest RX5 176 (TX0 5).1 (TX0 5).2.1 (TX0 5).2.2.1 "LanternTongue" ∈ nestW := List.mem_of_getElem? (i := 19) rfl
theorem fg_X5_176_17 {X : CX} {cc : ByteArray} {nL D pc : Nat} {ls : List (Nat × Value)} {st : List Value} {σ : ST} (hX : Ok X RX5 cc nL D) (hd : decode cc pc = .ok (.getfield 176, 3)) (kk : JJ X (pc + 3) ls (.int (gI σ 1705) :: st) σ) : JJ X pc ls (.ref (xad X 17) :: st) σ := JJ.getN hX 17 0 5 rfl inG0 (by decide) lf_RX5_176 rfl rfl hd kk
theorem lf_RX0_24 : Cond.fieldLink RX0 24 (TX0 6).1 (TX0 6).2.1 (TX0 6).2.2.1 ∈ GW := GW_1 122 rfl rfl
theorem fg_X0_24_17 {X : CX} {cc : ByteArray} {nL D pc : Nat} {ls : List (Nat × Value)} {st : List Value} {σ : ST} (hX : Ok X RX0 cc nL D) (hd : decode cc pc = .ok (.getfield 24, 3)) (kk : JJ X (pc + 3) ls (.ref (xad X 22) :: st) σ) : JJ X pc ls (.ref (xad X 17) :: st) σ := JJ.get hX 17 0 6 rfl inG0 (by decide) lf_RX0_24 rfl rfl hd kk
theorem fg_X0_34_17 {X : CX} {cc : ByteArray} {nL D pc : Nat} {ls : List (Nat × Value)} {st : List Value} {σ : ST} (hX : Ok X RX0 cc nL D) (hd : decode cc pc = .ok (.getfield 34, 3)) (kk : JJ X (pc + 3) ls (.int (gI σ 1705) :: st) σ) : JJ X pc ls (.ref (xad X 17) :: st) σ := JJ.get hX 17 0 5 rfl inG0 (by decide) lf_RX0_34 rfl rfl hd kk
theorem lf_RX0_27 : Cond.fieldLink RX0 27 (TX0 7).1 (TX0 7).2.1 (TX0 7).2.2.1 ∈ GW := GW_1 124 rfl rfl
theorem fg_X0_27_17 {X : CX} {cc : ByteArray} {nL D pc : Nat} {ls : List (Nat × Value)} {st : List Value} {σ : ST} (hX : Ok X RX0 cc nL D) (hd : decode cc pc = .ok (.getfield 27, 3)) (kk : JJ X (pc + 3) ls (.ref (xad X 23) :: st) σ) : JJ X pc ls (.ref (xad X 17) :: st) σ := JJ.get hX 17 0 7 rfl inG0 (by decide) lf_RX0_27 rfl rfl hd kk
theorem lm_RX5_179 : Cond.methodLink RX5 179 yX0_note ∈ GW := GW_3 41 rfl rfl
theorem cal_yX0_note : Cal yX0_note cX0_note 3 2 none := ⟨GW_3 44 rfl rfl, GW_1 6 rfl rfl, by decide +kernel⟩
theorem cav_yX0_note : CalV yX0_note := ⟨GW_3 42 rfl rfl, GW_3 43 rfl rfl⟩
theorem fg_X6_93_31 {X : CX} {cc : ByteArray} {nL D pc : Nat} {ls : List (Nat × Value)} {st : List Value} {σ : ST} (hX : Ok X RX6 cc nL D) (hd : decode cc pc = .ok (.getfield 93, 3)) (kk : JJ X (pc + 3) ls (.int (gI σ 3116) :: st) σ) : JJ X pc ls (.ref (xad X 31) :: st) σ := JJ.get hX 31 6 16 rfl inG6 (by decide) lf_RX6_93 rfl rfl hd kk
theorem lf_RX6_34 : Cond.fieldLink RX6 34 (TX6 17).1 (TX6 17).2.1 (TX6 17).2.2.1 ∈ GW := GW_3 180 rfl rfl
theorem fg_X6_34_31 {X : CX} {cc : ByteArray} {nL D pc : Nat} {ls : List (Nat × Value)} {st : List Value} {σ : ST} (hX : Ok X RX6 cc nL D) (hd : decode cc pc = .ok (.getfield 34, 3)) (kk : JJ X (pc + 3) ls (.ref (xad X 40) :: st) σ) : JJ X pc ls (.ref (xad X 31) :: st) σ := JJ.get hX 31 6 17 rfl inG6 (by decide) lf_RX6_34 rfl rfl hd kk
theorem ast_40 {X : CX} {own : String} {cc : ByteArray} {nL D pc : Nat} {ls : List (Nat × Value)} {st : List Value} {σ : ST} (hX : Ok X own cc nL D) {i x : Int32} (hin : inB i 16 = true) (hd : decode cc pc = .ok (.iastore, 1)) (kk : JJ X (pc + 1) ls st (sA σ 40 i.toNatClampNeg x)) : JJ X pc ls (.int x :: .int i :: .ref (xad X 40) :: st) σ := JJ.iast hX 40 rfl rfl (inB_in hin) hd kk
theorem fp_X5_176_17 {X : CX} {cc : ByteArray} {nL D pc : Nat} {ls : List (Nat × Value)} {st : List Value} {σ : ST} (hX : Ok X RX5 cc nL D) {v : Int32} (hd : decode cc pc = .ok (.putfield 176, 3)) (kk : JJ X (pc + 3) ls st (sI σ 1705 v)) : JJ X pc ls (.int v :: .ref (xad X 17) :: st) σ := JJ.putN hX 17 0 5 (ty := .int) rfl inG0 tyX0_ok nmX0 (by decide) lf_RX5_176 rfl rfl (by decide +kernel) rfl rfl (Nat.le_of_ble_eq_true rfl) rfl hd kk
theorem lm_RX5_183 : Cond.methodLink RX5 183 yX1_isThere ∈ GW := GW_3 53 rfl rfl
theorem cal_yX1_isThere : Cal yX1_isThere cX1_isThere 1 0 (some .boolean) := ⟨GW_3 56 rfl rfl, GW_1 3 rfl rfl, by decide +kernel⟩
theorem cav_yX1_isThere : CalV yX1_isThere := ⟨GW_3 54 rfl rfl, GW_3 55 rfl rfl⟩
theorem lf_RX1_52 : Cond.fieldLinkNest RX1 52 (TX0 5).1 (TX0 5).2.1 (TX0 5).2.2.1 "LanternTongue" ∈ nestW := List.mem_of_getElem? (i := 18) rfl
theorem fg_X1_52_17 {X : CX} {cc : ByteArray} {nL D pc : Nat} {ls : List (Nat × Value)} {st : List Value} {σ : ST} (hX : Ok X RX1 cc nL D) (hd : decode cc pc = .ok (.getfield 52, 3)) (kk : JJ X (pc + 3) ls (.int (gI σ 1705) :: st) σ) : JJ X pc ls (.ref (xad X 17) :: st) σ := JJ.getN hX 17 0 5 rfl inG0 (by decide) lf_RX1_52 rfl rfl hd kk
theorem lf_RX1_64 : Cond.fieldLinkNest RX1 64 (TX0 7).1 (TX0 7).2.1 (TX0 7).2.2.1 "LanternTongue" ∈ nestW := List.mem_of_getElem? (i := 21) rfl
theorem fg_X1_64_17 {X : CX} {cc : ByteArray} {nL D pc : Nat} {ls : List (Nat × Value)} {st : List Value} {σ : ST} (hX : Ok X RX1 cc nL D) (hd : decode cc pc = .ok (.getfield 64, 3)) (kk : JJ X (pc + 3) ls (.ref (xad X 23) :: st) σ) : JJ X pc ls (.ref (xad X 17) :: st) σ := JJ.getN hX 17 0 7 rfl inG0 (by decide) lf_RX1_64 rfl rfl hd kk
theorem lm_RX1_80 : Cond.methodLink RX1 80 yX1_isIn ∈ GW := GW_3 65 rfl rfl
theorem lm_RX1_87 : Cond.methodLink RX1 87 yX1_soundOf ∈ GW := GW_3 71 rfl rfl
theorem lm_RX1_67 : Cond.methodLink RX1 67 yX1_placesOfSound ∈ GW := GW_3 67 rfl rfl
theorem cal_yX1_placesOfSound : Cal yX1_placesOfSound cX1_placesOfSound 5 2 (some .int) := ⟨GW_3 70 rfl rfl, GW_1 3 rfl rfl, by decide +kernel⟩
theorem cav_yX1_placesOfSound : CalV yX1_placesOfSound := ⟨GW_3 69 rfl rfl, GW_p1 13 rfl rfl⟩
theorem lf_RX1_57 : Cond.fieldLinkNest RX1 57 (TX0 6).1 (TX0 6).2.1 (TX0 6).2.2.1 "LanternTongue" ∈ nestW := List.mem_of_getElem? (i := 20) rfl
theorem fg_X1_57_17 {X : CX} {cc : ByteArray} {nL D pc : Nat} {ls : List (Nat × Value)} {st : List Value} {σ : ST} (hX : Ok X RX1 cc nL D) (hd : decode cc pc = .ok (.getfield 57, 3)) (kk : JJ X (pc + 3) ls (.ref (xad X 22) :: st) σ) : JJ X pc ls (.ref (xad X 17) :: st) σ := JJ.getN hX 17 0 6 rfl inG0 (by decide) lf_RX1_57 rfl rfl hd kk
theorem lm_RX1_84 : Cond.methodLink RX1 84 yX1_leadsTo ∈ GW := GW_3 66 rfl rfl
theorem lm_RX1_60 : Cond.methodLink RX1 60 yX1_placesAfter ∈ GW := GW_3 61 rfl rfl
theorem cal_yX1_placesAfter : Cal yX1_placesAfter cX1_placesAfter 5 2 (some .int) := ⟨GW_3 64 rfl rfl, GW_1 3 rfl rfl, by decide +kernel⟩
theorem cav_yX1_placesAfter : CalV yX1_placesAfter := ⟨GW_3 63 rfl rfl, GW_p1 12 rfl rfl⟩
theorem lm_RX5_186 : Cond.methodLink RX5 186 yX1_placesBy ∈ GW := GW_3 57 rfl rfl
theorem cal_yX1_placesBy : Cal yX1_placesBy cX1_placesBy 4 1 (some .int) := ⟨GW_3 60 rfl rfl, GW_1 3 rfl rfl, by decide +kernel⟩
theorem cav_yX1_placesBy : CalV yX1_placesBy := ⟨GW_3 58 rfl rfl, GW_3 59 rfl rfl⟩
theorem lm_RX6_167 : Cond.methodLink RX6 167 yX6_lacks ∈ GW := GW_4 170 rfl rfl
theorem cal_yX6_lacks : Cal yX6_lacks cX6_lacks 1 0 (some .boolean) := ⟨GW_4 173 rfl rfl, GW_1 7 rfl rfl, by decide +kernel⟩
theorem cav_yX6_lacks : CalV yX6_lacks := ⟨GW_4 172 rfl rfl, GW_p3 5 rfl rfl⟩
theorem ald_40 {X : CX} {own : String} {cc : ByteArray} {nL D pc : Nat} {ls : List (Nat × Value)} {st : List Value} {σ : ST} (hX : Ok X own cc nL D) {i : Int32} (hin : inB i 16 = true) (hd : decode cc pc = .ok (.iaload, 1)) (kk : JJ X (pc + 1) ls (.int (gA σ 40 i.toNatClampNeg) :: st) σ) : JJ X pc ls (.int i :: .ref (xad X 40) :: st) σ := JJ.iald hX 40 rfl (inB_in hin) hd kk
theorem lm_RX6_161 : Cond.methodLink RX6 161 yX6_steppedFrom ∈ GW := GW_4 178 rfl rfl
theorem cal_yX6_steppedFrom : Cal yX6_steppedFrom cX6_steppedFrom 5 2 (some .int) := ⟨GW_4 181 rfl rfl, GW_1 7 rfl rfl, by decide +kernel⟩
theorem cav_yX6_steppedFrom : CalV yX6_steppedFrom := ⟨GW_4 180 rfl rfl, GW_p3 7 rfl rfl⟩
theorem lm_RX6_164 : Cond.methodLink RX6 164 yX6_soundingIn ∈ GW := GW_4 182 rfl rfl
theorem cal_yX6_soundingIn : Cal yX6_soundingIn cX6_soundingIn 5 2 (some .int) := ⟨GW_4 185 rfl rfl, GW_1 7 rfl rfl, by decide +kernel⟩
theorem cav_yX6_soundingIn : CalV yX6_soundingIn := ⟨GW_4 184 rfl rfl, GW_p3 8 rfl rfl⟩
theorem lm_RX6_171 : Cond.methodLink RX6 171 yX6_whereOf ∈ GW := GW_4 174 rfl rfl
theorem cal_yX6_whereOf : Cal yX6_whereOf cX6_whereOf 3 0 (some .int) := ⟨GW_4 177 rfl rfl, GW_1 7 rfl rfl, by decide +kernel⟩
theorem cav_yX6_whereOf : CalV yX6_whereOf := ⟨GW_4 176 rfl rfl, GW_p3 6 rfl rfl⟩
theorem lc_RJ6_265 : Cond.constant RJ6 265 1431655765 ∈ GW := GW_3 83 rfl rfl
theorem lc_RJ6_266 : Cond.constant RJ6 266 858993459 ∈ GW := GW_3 84 rfl rfl
theorem lc_RJ6_267 : Cond.constant RJ6 267 252645135 ∈ GW := GW_3 85 rfl rfl
theorem lm_RX1_70 : Cond.methodLink RX1 70 yJ6_bitCount_0f7a4 ∈ GW := GW_3 80 rfl rfl
theorem cal_yJ6_bitCount_0f7a4 : Cal yJ6_bitCount_0f7a4 cJ6_bitCount_0f7a4 1 1 (some .int) := ⟨GW_3 82 rfl rfl, GW_1 14 rfl rfl, by decide +kernel⟩
theorem cas_yJ6_bitCount_0f7a4 : Cond.static yJ6_bitCount_0f7a4 ∈ GW := GW_3 81 rfl rfl
theorem lm_RX1_75 : Cond.methodLink RX1 75 Lib.Math.max.name ∈ GW := GW_3 86 rfl rfl
theorem lm_RX5_190 : Cond.methodLink RX5 190 yX1_mostLeft ∈ GW := GW_3 76 rfl rfl
theorem cal_yX1_mostLeft : Cal yX1_mostLeft cX1_mostLeft 6 2 (some .int) := ⟨GW_3 79 rfl rfl, GW_1 3 rfl rfl, by decide +kernel⟩
theorem cav_yX1_mostLeft : CalV yX1_mostLeft := ⟨GW_3 77 rfl rfl, GW_3 78 rfl rfl⟩
theorem lm_RX6_174 : Cond.methodLink RX6 174 yX6_ones ∈ GW := GW_4 198 rfl rfl
theorem cal_yX6_ones : Cal yX6_ones cX6_ones 3 1 (some .int) := ⟨GW_4 200 rfl rfl, GW_1 7 rfl rfl, by decide +kernel⟩
theorem cas_yX6_ones : Cond.static yX6_ones ∈ GW := GW_4 199 rfl rfl
theorem lm_RX6_177 : Cond.methodLink RX6 177 yX6_worstBy ∈ GW := GW_4 194 rfl rfl
theorem cal_yX6_worstBy : Cal yX6_worstBy cX6_worstBy 6 2 (some .int) := ⟨GW_4 197 rfl rfl, GW_1 7 rfl rfl, by decide +kernel⟩
theorem cav_yX6_worstBy : CalV yX6_worstBy := ⟨GW_4 196 rfl rfl, GW_p3 10 rfl rfl⟩
theorem lm_RX6_180 : Cond.methodLink RX6 180 yX6_nextOf ∈ GW := GW_4 190 rfl rfl
theorem cal_yX6_nextOf : Cal yX6_nextOf cX6_nextOf 2 0 (some .int) := ⟨GW_4 193 rfl rfl, GW_1 7 rfl rfl, by decide +kernel⟩
theorem cav_yX6_nextOf : CalV yX6_nextOf := ⟨GW_4 192 rfl rfl, GW_p3 9 rfl rfl⟩
theorem lc_RX5_260 : Cond.constantLong RX5 260 1103515245 ∈ GW := GW_3 94 rfl rfl
theorem lc_RX5_262 : Cond.constantLong RX5 262 12345 ∈ GW := GW_3 95 rfl rfl
theorem lc_RX5_264 : Cond.constantLong RX5 264 2147483648 ∈ GW := GW_3 96 rfl rfl
theorem lm_RX5_193 : Cond.methodLink RX5 193 yX5_seedAfter ∈ GW := GW_3 91 rfl rfl
theorem cal_yX5_seedAfter : Cal yX5_seedAfter cX5_seedAfter 1 1 (some .int) := ⟨GW_3 93 rfl rfl, GW_1 1 rfl rfl, by decide +kernel⟩
theorem cas_yX5_seedAfter : Cond.static yX5_seedAfter ∈ GW := GW_3 92 rfl rfl
theorem lc_RX5_266 : Cond.constant RX5 266 65536 ∈ GW := GW_3 100 rfl rfl
theorem lm_RX5_196 : Cond.methodLink RX5 196 yX5_drawOfTwo ∈ GW := GW_3 97 rfl rfl
theorem cal_yX5_drawOfTwo : Cal yX5_drawOfTwo cX5_drawOfTwo 1 1 (some .int) := ⟨GW_3 99 rfl rfl, GW_1 1 rfl rfl, by decide +kernel⟩
theorem cas_yX5_drawOfTwo : Cond.static yX5_drawOfTwo ∈ GW := GW_3 98 rfl rfl
theorem lm_RX5_199 : Cond.methodLink RX5 199 yJ6_bitCount_0f7a4 ∈ GW := GW_3 101 rfl rfl
theorem lc_RX6_193 : Cond.constantLong RX6 193 60 ∈ GW := GW_4 205 rfl rfl
theorem lc_RX6_195 : Cond.constantLong RX6 195 3 ∈ GW := GW_4 206 rfl rfl
theorem lf_RX6_185 : Cond.fieldLink RX6 185 (TX6 18).1 (TX6 18).2.1 (TX6 18).2.2.1 ∈ GW := GW_3 181 rfl rfl
theorem fp_X6_185_31 {X : CX} {cc : ByteArray} {nL D pc : Nat} {ls : List (Nat × Value)} {st : List Value} {σ : ST} (hX : Ok X RX6 cc nL D) {v : Int32} (hd : decode cc pc = .ok (.putfield 185, 3)) (kk : JJ X (pc + 3) ls st (sI σ 3118 v)) : JJ X pc ls (.int v :: .ref (xad X 31) :: st) σ := JJ.put hX 31 6 18 (ty := .int) rfl inG6 tyX6_ok nmX6 (by decide) lf_RX6_185 rfl rfl (by decide +kernel) rfl rfl (Nat.le_of_ble_eq_true rfl) rfl hd kk
theorem lc_RX6_183 : Cond.constantLong RX6 183 1103515245 ∈ GW := GW_4 211 rfl rfl
theorem fg_X6_185_31 {X : CX} {cc : ByteArray} {nL D pc : Nat} {ls : List (Nat × Value)} {st : List Value} {σ : ST} (hX : Ok X RX6 cc nL D) (hd : decode cc pc = .ok (.getfield 185, 3)) (kk : JJ X (pc + 3) ls (.int (gI σ 3118) :: st) σ) : JJ X pc ls (.ref (xad X 31) :: st) σ := JJ.get hX 31 6 18 rfl inG6 (by decide) lf_RX6_185 rfl rfl hd kk
theorem lc_RX6_188 : Cond.constantLong RX6 188 12345 ∈ GW := GW_4 212 rfl rfl
theorem lc_RX6_190 : Cond.constantLong RX6 190 2147483647 ∈ GW := GW_4 213 rfl rfl
theorem lc_RX6_192 : Cond.constant RX6 192 65536 ∈ GW := GW_4 214 rfl rfl
theorem lm_RX6_197 : Cond.methodLink RX6 197 yX6_draw ∈ GW := GW_4 207 rfl rfl
theorem cal_yX6_draw : Cal yX6_draw cX6_draw 2 1 (some .int) := ⟨GW_4 210 rfl rfl, GW_1 7 rfl rfl, by decide +kernel⟩
theorem cav_yX6_draw : CalV yX6_draw := ⟨GW_4 209 rfl rfl, GW_p3 11 rfl rfl⟩
theorem lf_RX5_39 : Cond.fieldLink RX5 39 (TX5 4).1 (TX5 4).2.1 (TX5 4).2.2.1 ∈ GW := GW_1 147 rfl rfl
theorem fg_X5_39_0 {X : CX} {cc : ByteArray} {nL D pc : Nat} {ls : List (Nat × Value)} {st : List Value} {σ : ST} (hX : Ok X RX5 cc nL D) (hd : decode cc pc = .ok (.getfield 39, 3)) (kk : JJ X (pc + 3) ls (.ref (xad X 24) :: st) σ) : JJ X pc ls (.ref (xad X 0) :: st) σ := JJ.get hX 0 5 4 rfl inG5 (by decide) lf_RX5_39 rfl rfl hd kk
theorem fp_X0_30_24 {X : CX} {cc : ByteArray} {nL D pc : Nat} {ls : List (Nat × Value)} {st : List Value} {σ : ST} (hX : Ok X RX0 cc nL D) {v : Int32} (hd : decode cc pc = .ok (.putfield 30, 3)) (kk : JJ X (pc + 3) ls st (sI σ 2400 v)) : JJ X pc ls (.int v :: .ref (xad X 24) :: st) σ := JJ.put hX 24 0 0 (ty := .int) rfl inG0 tyX0_ok nmX0 (by decide) lf_RX0_30 rfl rfl (by decide +kernel) rfl rfl (Nat.le_of_ble_eq_true rfl) rfl hd kk
theorem fp_X0_34_24 {X : CX} {cc : ByteArray} {nL D pc : Nat} {ls : List (Nat × Value)} {st : List Value} {σ : ST} (hX : Ok X RX0 cc nL D) {v : Int32} (hd : decode cc pc = .ok (.putfield 34, 3)) (kk : JJ X (pc + 3) ls st (sI σ 2405 v)) : JJ X pc ls (.int v :: .ref (xad X 24) :: st) σ := JJ.put hX 24 0 5 (ty := .int) rfl inG0 tyX0_ok nmX0 (by decide) lf_RX0_34 rfl rfl (by decide +kernel) rfl rfl (Nat.le_of_ble_eq_true rfl) rfl hd kk
theorem fg_X0_9_24 {X : CX} {cc : ByteArray} {nL D pc : Nat} {ls : List (Nat × Value)} {st : List Value} {σ : ST} (hX : Ok X RX0 cc nL D) (hd : decode cc pc = .ok (.getfield 9, 3)) (kk : JJ X (pc + 3) ls (.ref (xad X 25) :: st) σ) : JJ X pc ls (.ref (xad X 24) :: st) σ := JJ.get hX 24 0 1 rfl inG0 (by decide) lf_RX0_9 rfl rfl hd kk
theorem aln_25 {X : CX} {own : String} {cc : ByteArray} {nL D pc : Nat} {ls : List (Nat × Value)} {st : List Value} {σ : ST} (hX : Ok X own cc nL D) (hd : decode cc pc = .ok (.arraylength, 1)) (kk : JJ X (pc + 1) ls (.int 3 :: st) σ) : JJ X pc ls (.ref (xad X 25) :: st) σ := JJ.alen hX 25 rfl (by decide) hd kk
theorem lm_RX0_37 : Cond.methodLink RX0 37 yX0_copyRow ∈ GW := GW_3 110 rfl rfl
theorem cal_yX0_copyRow : Cal yX0_copyRow cX0_copyRow 3 2 none := ⟨GW_3 112 rfl rfl, GW_1 6 rfl rfl, by decide +kernel⟩
theorem cas_yX0_copyRow : Cond.static yX0_copyRow ∈ GW := GW_3 111 rfl rfl
theorem fg_X0_15_24 {X : CX} {cc : ByteArray} {nL D pc : Nat} {ls : List (Nat × Value)} {st : List Value} {σ : ST} (hX : Ok X RX0 cc nL D) (hd : decode cc pc = .ok (.getfield 15, 3)) (kk : JJ X (pc + 3) ls (.ref (xad X 26) :: st) σ) : JJ X pc ls (.ref (xad X 24) :: st) σ := JJ.get hX 24 0 2 rfl inG0 (by decide) lf_RX0_15 rfl rfl hd kk
theorem aln_26 {X : CX} {own : String} {cc : ByteArray} {nL D pc : Nat} {ls : List (Nat × Value)} {st : List Value} {σ : ST} (hX : Ok X own cc nL D) (hd : decode cc pc = .ok (.arraylength, 1)) (kk : JJ X (pc + 1) ls (.int 3 :: st) σ) : JJ X pc ls (.ref (xad X 26) :: st) σ := JJ.alen hX 26 rfl (by decide) hd kk
theorem fg_X0_18_24 {X : CX} {cc : ByteArray} {nL D pc : Nat} {ls : List (Nat × Value)} {st : List Value} {σ : ST} (hX : Ok X RX0 cc nL D) (hd : decode cc pc = .ok (.getfield 18, 3)) (kk : JJ X (pc + 3) ls (.ref (xad X 27) :: st) σ) : JJ X pc ls (.ref (xad X 24) :: st) σ := JJ.get hX 24 0 3 rfl inG0 (by decide) lf_RX0_18 rfl rfl hd kk
theorem aln_27 {X : CX} {own : String} {cc : ByteArray} {nL D pc : Nat} {ls : List (Nat × Value)} {st : List Value} {σ : ST} (hX : Ok X own cc nL D) (hd : decode cc pc = .ok (.arraylength, 1)) (kk : JJ X (pc + 1) ls (.int 3 :: st) σ) : JJ X pc ls (.ref (xad X 27) :: st) σ := JJ.alen hX 27 rfl (by decide) hd kk
theorem fg_X0_21_24 {X : CX} {cc : ByteArray} {nL D pc : Nat} {ls : List (Nat × Value)} {st : List Value} {σ : ST} (hX : Ok X RX0 cc nL D) (hd : decode cc pc = .ok (.getfield 21, 3)) (kk : JJ X (pc + 3) ls (.ref (xad X 28) :: st) σ) : JJ X pc ls (.ref (xad X 24) :: st) σ := JJ.get hX 24 0 4 rfl inG0 (by decide) lf_RX0_21 rfl rfl hd kk
theorem aln_28 {X : CX} {own : String} {cc : ByteArray} {nL D pc : Nat} {ls : List (Nat × Value)} {st : List Value} {σ : ST} (hX : Ok X own cc nL D) (hd : decode cc pc = .ok (.arraylength, 1)) (kk : JJ X (pc + 1) ls (.int 3 :: st) σ) : JJ X pc ls (.ref (xad X 28) :: st) σ := JJ.alen hX 28 rfl (by decide) hd kk
theorem fg_X0_24_24 {X : CX} {cc : ByteArray} {nL D pc : Nat} {ls : List (Nat × Value)} {st : List Value} {σ : ST} (hX : Ok X RX0 cc nL D) (hd : decode cc pc = .ok (.getfield 24, 3)) (kk : JJ X (pc + 3) ls (.ref (xad X 29) :: st) σ) : JJ X pc ls (.ref (xad X 24) :: st) σ := JJ.get hX 24 0 6 rfl inG0 (by decide) lf_RX0_24 rfl rfl hd kk
theorem aln_29 {X : CX} {own : String} {cc : ByteArray} {nL D pc : Nat} {ls : List (Nat × Value)} {st : List Value} {σ : ST} (hX : Ok X own cc nL D) (hd : decode cc pc = .ok (.arraylength, 1)) (kk : JJ X (pc + 1) ls (.int 8 :: st) σ) : JJ X pc ls (.ref (xad X 29) :: st) σ := JJ.alen hX 29 rfl (by decide) hd kk
theorem fg_X0_27_24 {X : CX} {cc : ByteArray} {nL D pc : Nat} {ls : List (Nat × Value)} {st : List Value} {σ : ST} (hX : Ok X RX0 cc nL D) (hd : decode cc pc = .ok (.getfield 27, 3)) (kk : JJ X (pc + 3) ls (.ref (xad X 30) :: st) σ) : JJ X pc ls (.ref (xad X 24) :: st) σ := JJ.get hX 24 0 7 rfl inG0 (by decide) lf_RX0_27 rfl rfl hd kk
theorem aln_30 {X : CX} {own : String} {cc : ByteArray} {nL D pc : Nat} {ls : List (Nat × Value)} {st : List Value} {σ : ST} (hX : Ok X own cc nL D) (hd : decode cc pc = .ok (.arraylength, 1)) (kk : JJ X (pc + 1) ls (.int 8 :: st) σ) : JJ X pc ls (.ref (xad X 30) :: st) σ := JJ.alen hX 30 rfl (by decide) hd kk
theorem lm_RX5_204 : Cond.methodLink RX5 204 yX0_copyFrom ∈ GW := GW_3 106 rfl rfl
theorem cal_yX0_copyFrom : Cal yX0_copyFrom cX0_copyFrom 2 1 none := ⟨GW_3 109 rfl rfl, GW_1 6 rfl rfl, by decide +kernel⟩
theorem cav_yX0_copyFrom : CalV yX0_copyFrom := ⟨GW_3 107 rfl rfl, GW_3 108 rfl rfl⟩
theorem fg_X5_101_24 {X : CX} {cc : ByteArray} {nL D pc : Nat} {ls : List (Nat × Value)} {st : List Value} {σ : ST} (hX : Ok X RX5 cc nL D) (hd : decode cc pc = .ok (.getfield 101, 3)) (kk : JJ X (pc + 3) ls (.int (gI σ 2400) :: st) σ) : JJ X pc ls (.ref (xad X 24) :: st) σ := JJ.getN hX 24 0 0 rfl inG0 (by decide) lf_RX5_101 rfl rfl hd kk
theorem lf_RX6_37 : Cond.fieldLink RX6 37 (TX6 22).1 (TX6 22).2.1 (TX6 22).2.2.1 ∈ GW := GW_3 185 rfl rfl
theorem fg_X6_37_31 {X : CX} {cc : ByteArray} {nL D pc : Nat} {ls : List (Nat × Value)} {st : List Value} {σ : ST} (hX : Ok X RX6 cc nL D) (hd : decode cc pc = .ok (.getfield 37, 3)) (kk : JJ X (pc + 3) ls (.ref (xad X 41) :: st) σ) : JJ X pc ls (.ref (xad X 31) :: st) σ := JJ.get hX 31 6 22 rfl inG6 (by decide) lf_RX6_37 rfl rfl hd kk
theorem aln_36 {X : CX} {own : String} {cc : ByteArray} {nL D pc : Nat} {ls : List (Nat × Value)} {st : List Value} {σ : ST} (hX : Ok X own cc nL D) (hd : decode cc pc = .ok (.arraylength, 1)) (kk : JJ X (pc + 1) ls (.int 12 :: st) σ) : JJ X pc ls (.ref (xad X 36) :: st) σ := JJ.alen hX 36 rfl (by decide) hd kk
theorem ast_41 {X : CX} {own : String} {cc : ByteArray} {nL D pc : Nat} {ls : List (Nat × Value)} {st : List Value} {σ : ST} (hX : Ok X own cc nL D) {i x : Int32} (hin : inB i 12 = true) (hd : decode cc pc = .ok (.iastore, 1)) (kk : JJ X (pc + 1) ls st (sA σ 41 i.toNatClampNeg x)) : JJ X pc ls (.int x :: .int i :: .ref (xad X 41) :: st) σ := JJ.iast hX 41 rfl rfl (inB_in hin) hd kk
theorem lm_RX6_200 : Cond.methodLink RX6 200 yX6_copy ∈ GW := GW_4 219 rfl rfl
theorem cal_yX6_copy : Cal yX6_copy cX6_copy 3 2 none := ⟨GW_4 221 rfl rfl, GW_1 7 rfl rfl, by decide +kernel⟩
theorem cas_yX6_copy : Cond.static yX6_copy ∈ GW := GW_4 220 rfl rfl
theorem lf_RX6_40 : Cond.fieldLink RX6 40 (TX6 23).1 (TX6 23).2.1 (TX6 23).2.2.1 ∈ GW := GW_3 186 rfl rfl
theorem fg_X6_40_31 {X : CX} {cc : ByteArray} {nL D pc : Nat} {ls : List (Nat × Value)} {st : List Value} {σ : ST} (hX : Ok X RX6 cc nL D) (hd : decode cc pc = .ok (.getfield 40, 3)) (kk : JJ X (pc + 3) ls (.ref (xad X 42) :: st) σ) : JJ X pc ls (.ref (xad X 31) :: st) σ := JJ.get hX 31 6 23 rfl inG6 (by decide) lf_RX6_40 rfl rfl hd kk
theorem aln_40 {X : CX} {own : String} {cc : ByteArray} {nL D pc : Nat} {ls : List (Nat × Value)} {st : List Value} {σ : ST} (hX : Ok X own cc nL D) (hd : decode cc pc = .ok (.arraylength, 1)) (kk : JJ X (pc + 1) ls (.int 16 :: st) σ) : JJ X pc ls (.ref (xad X 40) :: st) σ := JJ.alen hX 40 rfl (by decide) hd kk
theorem ast_42 {X : CX} {own : String} {cc : ByteArray} {nL D pc : Nat} {ls : List (Nat × Value)} {st : List Value} {σ : ST} (hX : Ok X own cc nL D) {i x : Int32} (hin : inB i 16 = true) (hd : decode cc pc = .ok (.iastore, 1)) (kk : JJ X (pc + 1) ls st (sA σ 42 i.toNatClampNeg x)) : JJ X pc ls (.int x :: .int i :: .ref (xad X 42) :: st) σ := JJ.iast hX 42 rfl rfl (inB_in hin) hd kk
theorem lf_RX6_204 : Cond.fieldLink RX6 204 (TX6 20).1 (TX6 20).2.1 (TX6 20).2.2.1 ∈ GW := GW_3 183 rfl rfl
theorem fp_X6_204_31 {X : CX} {cc : ByteArray} {nL D pc : Nat} {ls : List (Nat × Value)} {st : List Value} {σ : ST} (hX : Ok X RX6 cc nL D) {v : Int32} (hd : decode cc pc = .ok (.putfield 204, 3)) (kk : JJ X (pc + 3) ls st (sI σ 3120 v)) : JJ X pc ls (.int v :: .ref (xad X 31) :: st) σ := JJ.put hX 31 6 20 (ty := .int) rfl inG6 tyX6_ok nmX6 (by decide) lf_RX6_204 rfl rfl (by decide +kernel) rfl rfl (Nat.le_of_ble_eq_true rfl) rfl hd kk
theorem lf_RX6_207 : Cond.fieldLink RX6 207 (TX6 21).1 (TX6 21).2.1 (TX6 21).2.2.1 ∈ GW := GW_3 184 rfl rfl
theorem fp_X6_207_31 {X : CX} {cc : ByteArray} {nL D pc : Nat} {ls : List (Nat × Value)} {st : List Value} {σ : ST} (hX : Ok X RX6 cc nL D) {v : Int32} (hd : decode cc pc = .ok (.putfield 207, 3)) (kk : JJ X (pc + 3) ls st (sI σ 3121 v)) : JJ X pc ls (.int v :: .ref (xad X 31) :: st) σ := JJ.put hX 31 6 21 (ty := .int) rfl inG6 tyX6_ok nmX6 (by decide) lf_RX6_207 rfl rfl (by decide +kernel) rfl rfl (Nat.le_of_ble_eq_true rfl) rfl hd kk
theorem lf_RX6_43 : Cond.fieldLink RX6 43 (TX6 19).1 (TX6 19).2.1 (TX6 19).2.2.1 ∈ GW := GW_3 182 rfl rfl
theorem fp_X6_43_31 {X : CX} {cc : ByteArray} {nL D pc : Nat} {ls : List (Nat × Value)} {st : List Value} {σ : ST} (hX : Ok X RX6 cc nL D) {v : Int32} (hd : decode cc pc = .ok (.putfield 43, 3)) (kk : JJ X (pc + 3) ls st (sI σ 3119 v)) : JJ X pc ls (.int v :: .ref (xad X 31) :: st) σ := JJ.put hX 31 6 19 (ty := .int) rfl inG6 tyX6_ok nmX6 (by decide) lf_RX6_43 rfl rfl (by decide +kernel) rfl rfl (Nat.le_of_ble_eq_true rfl) rfl hd kk
theorem fg_X5_68_0 {X : CX} {cc : ByteArray} {nL D pc : Nat} {ls : List (Nat × Value)} {st : List Value} {σ : ST} (hX : Ok X RX5 cc nL D) (hd : decode cc pc = .ok (.getfield 68, 3)) (kk : JJ X (pc + 3) ls (.int (gI σ 5) :: st) σ) : JJ X pc ls (.ref (xad X 0) :: st) σ := JJ.get hX 0 5 5 rfl inG5 (by decide) lf_RX5_68 rfl rfl hd kk
theorem fg_X0_30_24 {X : CX} {cc : ByteArray} {nL D pc : Nat} {ls : List (Nat × Value)} {st : List Value} {σ : ST} (hX : Ok X RX0 cc nL D) (hd : decode cc pc = .ok (.getfield 30, 3)) (kk : JJ X (pc + 3) ls (.int (gI σ 2400) :: st) σ) : JJ X pc ls (.ref (xad X 24) :: st) σ := JJ.get hX 24 0 0 rfl inG0 (by decide) lf_RX0_30 rfl rfl hd kk
theorem fg_X0_34_24 {X : CX} {cc : ByteArray} {nL D pc : Nat} {ls : List (Nat × Value)} {st : List Value} {σ : ST} (hX : Ok X RX0 cc nL D) (hd : decode cc pc = .ok (.getfield 34, 3)) (kk : JJ X (pc + 3) ls (.int (gI σ 2405) :: st) σ) : JJ X pc ls (.ref (xad X 24) :: st) σ := JJ.get hX 24 0 5 rfl inG0 (by decide) lf_RX0_34 rfl rfl hd kk
theorem aln_18 {X : CX} {own : String} {cc : ByteArray} {nL D pc : Nat} {ls : List (Nat × Value)} {st : List Value} {σ : ST} (hX : Ok X own cc nL D) (hd : decode cc pc = .ok (.arraylength, 1)) (kk : JJ X (pc + 1) ls (.int 3 :: st) σ) : JJ X pc ls (.ref (xad X 18) :: st) σ := JJ.alen hX 18 rfl (by decide) hd kk
theorem aln_19 {X : CX} {own : String} {cc : ByteArray} {nL D pc : Nat} {ls : List (Nat × Value)} {st : List Value} {σ : ST} (hX : Ok X own cc nL D) (hd : decode cc pc = .ok (.arraylength, 1)) (kk : JJ X (pc + 1) ls (.int 3 :: st) σ) : JJ X pc ls (.ref (xad X 19) :: st) σ := JJ.alen hX 19 rfl (by decide) hd kk
theorem aln_20 {X : CX} {own : String} {cc : ByteArray} {nL D pc : Nat} {ls : List (Nat × Value)} {st : List Value} {σ : ST} (hX : Ok X own cc nL D) (hd : decode cc pc = .ok (.arraylength, 1)) (kk : JJ X (pc + 1) ls (.int 3 :: st) σ) : JJ X pc ls (.ref (xad X 20) :: st) σ := JJ.alen hX 20 rfl (by decide) hd kk
theorem aln_21 {X : CX} {own : String} {cc : ByteArray} {nL D pc : Nat} {ls : List (Nat × Value)} {st : List Value} {σ : ST} (hX : Ok X own cc nL D) (hd : decode cc pc = .ok (.arraylength, 1)) (kk : JJ X (pc + 1) ls (.int 3 :: st) σ) : JJ X pc ls (.ref (xad X 21) :: st) σ := JJ.alen hX 21 rfl (by decide) hd kk
theorem aln_22 {X : CX} {own : String} {cc : ByteArray} {nL D pc : Nat} {ls : List (Nat × Value)} {st : List Value} {σ : ST} (hX : Ok X own cc nL D) (hd : decode cc pc = .ok (.arraylength, 1)) (kk : JJ X (pc + 1) ls (.int 8 :: st) σ) : JJ X pc ls (.ref (xad X 22) :: st) σ := JJ.alen hX 22 rfl (by decide) hd kk
theorem aln_23 {X : CX} {own : String} {cc : ByteArray} {nL D pc : Nat} {ls : List (Nat × Value)} {st : List Value} {σ : ST} (hX : Ok X own cc nL D) (hd : decode cc pc = .ok (.arraylength, 1)) (kk : JJ X (pc + 1) ls (.int 8 :: st) σ) : JJ X pc ls (.ref (xad X 23) :: st) σ := JJ.alen hX 23 rfl (by decide) hd kk
theorem fg_X6_43_31 {X : CX} {cc : ByteArray} {nL D pc : Nat} {ls : List (Nat × Value)} {st : List Value} {σ : ST} (hX : Ok X RX6 cc nL D) (hd : decode cc pc = .ok (.getfield 43, 3)) (kk : JJ X (pc + 3) ls (.int (gI σ 3119) :: st) σ) : JJ X pc ls (.ref (xad X 31) :: st) σ := JJ.get hX 31 6 19 rfl inG6 (by decide) lf_RX6_43 rfl rfl hd kk
theorem aln_41 {X : CX} {own : String} {cc : ByteArray} {nL D pc : Nat} {ls : List (Nat × Value)} {st : List Value} {σ : ST} (hX : Ok X own cc nL D) (hd : decode cc pc = .ok (.arraylength, 1)) (kk : JJ X (pc + 1) ls (.int 12 :: st) σ) : JJ X pc ls (.ref (xad X 41) :: st) σ := JJ.alen hX 41 rfl (by decide) hd kk
theorem ald_41 {X : CX} {own : String} {cc : ByteArray} {nL D pc : Nat} {ls : List (Nat × Value)} {st : List Value} {σ : ST} (hX : Ok X own cc nL D) {i : Int32} (hin : inB i 12 = true) (hd : decode cc pc = .ok (.iaload, 1)) (kk : JJ X (pc + 1) ls (.int (gA σ 41 i.toNatClampNeg) :: st) σ) : JJ X pc ls (.int i :: .ref (xad X 41) :: st) σ := JJ.iald hX 41 rfl (inB_in hin) hd kk
theorem aln_42 {X : CX} {own : String} {cc : ByteArray} {nL D pc : Nat} {ls : List (Nat × Value)} {st : List Value} {σ : ST} (hX : Ok X own cc nL D) (hd : decode cc pc = .ok (.arraylength, 1)) (kk : JJ X (pc + 1) ls (.int 16 :: st) σ) : JJ X pc ls (.ref (xad X 42) :: st) σ := JJ.alen hX 42 rfl (by decide) hd kk
theorem ald_42 {X : CX} {own : String} {cc : ByteArray} {nL D pc : Nat} {ls : List (Nat × Value)} {st : List Value} {σ : ST} (hX : Ok X own cc nL D) {i : Int32} (hin : inB i 16 = true) (hd : decode cc pc = .ok (.iaload, 1)) (kk : JJ X (pc + 1) ls (.int (gA σ 42 i.toNatClampNeg) :: st) σ) : JJ X pc ls (.int i :: .ref (xad X 42) :: st) σ := JJ.iald hX 42 rfl (inB_in hin) hd kk
theorem fg_X6_204_31 {X : CX} {cc : ByteArray} {nL D pc : Nat} {ls : List (Nat × Value)} {st : List Value} {σ : ST} (hX : Ok X RX6 cc nL D) (hd : decode cc pc = .ok (.getfield 204, 3)) (kk : JJ X (pc + 3) ls (.int (gI σ 3120) :: st) σ) : JJ X pc ls (.ref (xad X 31) :: st) σ := JJ.get hX 31 6 20 rfl inG6 (by decide) lf_RX6_204 rfl rfl hd kk
theorem fg_X6_207_31 {X : CX} {cc : ByteArray} {nL D pc : Nat} {ls : List (Nat × Value)} {st : List Value} {σ : ST} (hX : Ok X RX6 cc nL D) (hd : decode cc pc = .ok (.getfield 207, 3)) (kk : JJ X (pc + 3) ls (.int (gI σ 3121) :: st) σ) : JJ X pc ls (.ref (xad X 31) :: st) σ := JJ.get hX 31 6 21 rfl inG6 (by decide) lf_RX6_207 rfl rfl hd kk
theorem lm_RX5_208 : Cond.methodLink RX5 208 yX0_sumOfAll ∈ GW := GW_3 121 rfl rfl
theorem cal_yX0_sumOfAll : Cal yX0_sumOfAll cX0_sumOfAll 4 1 (some .int) := ⟨GW_3 124 rfl rfl, GW_1 6 rfl rfl, by decide +kernel⟩
theorem cav_yX0_sumOfAll : CalV yX0_sumOfAll := ⟨GW_3 122 rfl rfl, GW_3 123 rfl rfl⟩
theorem lm_RX0_53 : Cond.methodLink RX0 53 yX0_mayLook ∈ GW := GW_3 129 rfl rfl
theorem lm_RX5_212 : Cond.methodLink RX5 212 yX0_thoseWhoMayLook ∈ GW := GW_3 125 rfl rfl
theorem cal_yX0_thoseWhoMayLook : Cal yX0_thoseWhoMayLook cX0_thoseWhoMayLook 3 0 (some .int) := ⟨GW_3 128 rfl rfl, GW_1 6 rfl rfl, by decide +kernel⟩
theorem cav_yX0_thoseWhoMayLook : CalV yX0_thoseWhoMayLook := ⟨GW_3 126 rfl rfl, GW_3 127 rfl rfl⟩
theorem lm_RX6_210 : Cond.methodLink RX6 210 yX6_sumBy ∈ GW := GW_4 234 rfl rfl
theorem cal_yX6_sumBy : Cal yX6_sumBy cX6_sumBy 4 1 (some .int) := ⟨GW_4 237 rfl rfl, GW_1 7 rfl rfl, by decide +kernel⟩
theorem cav_yX6_sumBy : CalV yX6_sumBy := ⟨GW_4 236 rfl rfl, GW_p3 13 rfl rfl⟩
theorem lm_RX6_213 : Cond.methodLink RX6 213 yX6_countOf ∈ GW := GW_4 230 rfl rfl
theorem cal_yX6_countOf : Cal yX6_countOf cX6_countOf 2 1 (some .int) := ⟨GW_4 233 rfl rfl, GW_1 7 rfl rfl, by decide +kernel⟩
theorem cav_yX6_countOf : CalV yX6_countOf := ⟨GW_4 232 rfl rfl, GW_p3 12 rfl rfl⟩
theorem lc_RX5_215 : Cond.constantLong RX5 215 977 ∈ GW := GW_3 134 rfl rfl
theorem lm_RX5_239 : Cond.methodLink RX5 239 yX5_crossing ∈ GW := GW_3 139 rfl rfl
theorem cal_yX5_crossing : Cal yX5_crossing cX5_crossing 3 2 (some .int) := ⟨GW_2 165 rfl rfl, GW_1 1 rfl rfl, by decide +kernel⟩
theorem cav_yX5_crossing : CalV yX5_crossing := ⟨GW_2 163 rfl rfl, GW_2 164 rfl rfl⟩
theorem lc_RX5_258 : Cond.constantLong RX5 258 31 ∈ GW := GW_3 143 rfl rfl
theorem lm_RX5_227 : Cond.methodLink RX5 227 yX5_with ∈ GW := GW_3 140 rfl rfl
theorem cal_yX5_with : Cal yX5_with cX5_with 3 2 (some .long) := ⟨GW_3 142 rfl rfl, GW_1 1 rfl rfl, by decide +kernel⟩
theorem cas_yX5_with : Cond.static yX5_with ∈ GW := GW_3 141 rfl rfl
theorem lm_RX5_242 : Cond.methodLink RX5 242 yX5_round ∈ GW := GW_3 144 rfl rfl
theorem cal_yX5_round : Cal yX5_round cX5_round 3 2 (some .int) := ⟨GW_3 15 rfl rfl, GW_1 1 rfl rfl, by decide +kernel⟩
theorem cav_yX5_round : CalV yX5_round := ⟨GW_3 13 rfl rfl, GW_3 14 rfl rfl⟩
theorem lm_RX5_245 : Cond.methodLink RX5 245 yX5_way ∈ GW := GW_3 145 rfl rfl
theorem cal_yX5_way : Cal yX5_way cX5_way 4 3 (some .int) := ⟨GW_3 0 rfl rfl, GW_1 1 rfl rfl, by decide +kernel⟩
theorem cav_yX5_way : CalV yX5_way := ⟨GW_2 238 rfl rfl, GW_2 239 rfl rfl⟩
theorem lm_RX5_249 : Cond.methodLink RX5 249 yX5_apart ∈ GW := GW_3 146 rfl rfl
theorem cal_yX5_apart : Cal yX5_apart cX5_apart 4 3 (some .int) := ⟨GW_3 32 rfl rfl, GW_1 1 rfl rfl, by decide +kernel⟩
theorem cav_yX5_apart : CalV yX5_apart := ⟨GW_3 30 rfl rfl, GW_3 31 rfl rfl⟩
theorem lm_RX5_217 : Cond.methodLink RX5 217 yX5_withCrossing ∈ GW := GW_3 135 rfl rfl
theorem cal_yX5_withCrossing : Cal yX5_withCrossing cX5_withCrossing 7 2 (some .long) := ⟨GW_3 138 rfl rfl, GW_1 1 rfl rfl, by decide +kernel⟩
theorem cav_yX5_withCrossing : CalV yX5_withCrossing := ⟨GW_3 137 rfl rfl, GW_p1 14 rfl rfl⟩
theorem lm_RX5_252 : Cond.methodLink RX5 252 yX5_about ∈ GW := GW_3 151 rfl rfl
theorem cal_yX5_about : Cal yX5_about cX5_about 3 2 (some .int) := ⟨GW_2 198 rfl rfl, GW_1 1 rfl rfl, by decide +kernel⟩
theorem cav_yX5_about : CalV yX5_about := ⟨GW_2 196 rfl rfl, GW_2 197 rfl rfl⟩
theorem lm_RX5_255 : Cond.methodLink RX5 255 yX5_meet ∈ GW := GW_3 152 rfl rfl
theorem cal_yX5_meet : Cal yX5_meet cX5_meet 3 2 (some .int) := ⟨GW_3 28 rfl rfl, GW_1 1 rfl rfl, by decide +kernel⟩
theorem cav_yX5_meet : CalV yX5_meet := ⟨GW_3 26 rfl rfl, GW_3 27 rfl rfl⟩
theorem lm_RX5_221 : Cond.methodLink RX5 221 yX5_withParty ∈ GW := GW_3 147 rfl rfl
theorem cal_yX5_withParty : Cal yX5_withParty cX5_withParty 7 2 (some .long) := ⟨GW_3 150 rfl rfl, GW_1 1 rfl rfl, by decide +kernel⟩
theorem cav_yX5_withParty : CalV yX5_withParty := ⟨GW_3 149 rfl rfl, GW_p1 15 rfl rfl⟩
theorem lm_RX5_233 : Cond.methodLink RX5 233 yX2_codeAt ∈ GW := GW_3 155 rfl rfl
theorem lm_RX5_236 : Cond.methodLink RX5 236 yX5_count ∈ GW := GW_3 156 rfl rfl
theorem cal_yX5_count : Cal yX5_count cX5_count 2 1 (some .int) := ⟨GW_3 120 rfl rfl, GW_1 1 rfl rfl, by decide +kernel⟩
theorem cav_yX5_count : CalV yX5_count := ⟨GW_3 118 rfl rfl, GW_3 119 rfl rfl⟩
theorem lm_RX5_224 : Cond.methodLink RX5 224 yX5_where ∈ GW := GW_3 153 rfl rfl
theorem cal_yX5_where : Cal yX5_where cX5_where 1 0 (some .int) := ⟨GW_3 52 rfl rfl, GW_1 1 rfl rfl, by decide +kernel⟩
theorem cav_yX5_where : CalV yX5_where := ⟨GW_3 50 rfl rfl, GW_3 51 rfl rfl⟩
theorem lm_RX5_230 : Cond.methodLink RX5 230 yX5_next ∈ GW := GW_3 154 rfl rfl
theorem cal_yX5_next : Cal yX5_next cX5_next 2 0 (some .int) := ⟨GW_3 75 rfl rfl, GW_1 1 rfl rfl, by decide +kernel⟩
theorem cav_yX5_next : CalV yX5_next := ⟨GW_3 73 rfl rfl, GW_3 74 rfl rfl⟩
theorem lc_RX6_226 : Cond.constantLong RX6 226 977 ∈ GW := GW_5 2 rfl rfl
theorem lf_RX6_218 : Cond.fieldLink RX6 218 (TX6 24).1 (TX6 24).2.1 (TX6 24).2.2.1 ∈ GW := GW_3 187 rfl rfl
theorem fp_X6_218_31 {X : CX} {cc : ByteArray} {nL D pc : Nat} {ls : List (Nat × Value)} {st : List Value} {σ : ST} (hX : Ok X RX6 cc nL D) {v : Int64} (hd : decode cc pc = .ok (.putfield 218, 3)) (kk : JJ X (pc + 3) ls st (sL σ v)) : JJ X pc ls (.long v :: .ref (xad X 31) :: st) σ := JJ.put hX 31 6 24 (ty := .long) rfl inG6 tyX6_ok nmX6 (by decide) lf_RX6_218 rfl rfl (by decide +kernel) rfl rfl (Nat.le_of_ble_eq_true rfl) rfl hd kk
theorem lc_RX6_216 : Cond.constantLong RX6 216 31 ∈ GW := GW_5 11 rfl rfl
theorem fg_X6_218_31 {X : CX} {cc : ByteArray} {nL D pc : Nat} {ls : List (Nat × Value)} {st : List Value} {σ : ST} (hX : Ok X RX6 cc nL D) (hd : decode cc pc = .ok (.getfield 218, 3)) (kk : JJ X (pc + 3) ls (.long (gL σ) :: st) σ) : JJ X pc ls (.ref (xad X 31) :: st) σ := JJ.get hX 31 6 24 rfl inG6 (by decide) lf_RX6_218 rfl rfl hd kk
theorem lm_RX6_222 : Cond.methodLink RX6 222 yX6_say ∈ GW := GW_5 7 rfl rfl
theorem cal_yX6_say : Cal yX6_say cX6_say 3 1 none := ⟨GW_5 10 rfl rfl, GW_1 7 rfl rfl, by decide +kernel⟩
theorem cav_yX6_say : CalV yX6_say := ⟨GW_5 9 rfl rfl, GW_p3 15 rfl rfl⟩
theorem lm_RX6_228 : Cond.methodLink RX6 228 yX6_sayCrossing ∈ GW := GW_5 3 rfl rfl
theorem cal_yX6_sayCrossing : Cal yX6_sayCrossing cX6_sayCrossing 3 1 none := ⟨GW_5 6 rfl rfl, GW_1 7 rfl rfl, by decide +kernel⟩
theorem cav_yX6_sayCrossing : CalV yX6_sayCrossing := ⟨GW_5 5 rfl rfl, GW_p3 14 rfl rfl⟩
theorem lm_RL_13 : Cond.methodLink RL 13 yX5_letter ∈ GW := GW_1 165 rfl rfl
theorem cal_yX5_letter : Cal yX5_letter cX5_letter 2 1 (some .int) := ⟨GW_1 168 rfl rfl, GW_1 1 rfl rfl, by decide +kernel⟩
theorem cav_yX5_letter : CalV yX5_letter := ⟨GW_1 166 rfl rfl, GW_1 167 rfl rfl⟩
theorem lm_RL_17 : Cond.methodLink RL 17 yX6_letter ∈ GW := GW_3 239 rfl rfl
theorem cal_yX6_letter : Cal yX6_letter cX6_letter 2 1 (some .int) := ⟨GW_4 2 rfl rfl, GW_1 7 rfl rfl, by decide +kernel⟩
theorem cav_yX6_letter : CalV yX6_letter := ⟨GW_4 0 rfl rfl, GW_4 1 rfl rfl⟩
theorem lm_RL_18 : Cond.methodLink RL 18 yX5_blank ∈ GW := GW_1 176 rfl rfl
theorem cal_yX5_blank : Cal yX5_blank cX5_blank 2 0 (some .int) := ⟨GW_1 179 rfl rfl, GW_1 1 rfl rfl, by decide +kernel⟩
theorem cav_yX5_blank : CalV yX5_blank := ⟨GW_1 177 rfl rfl, GW_1 178 rfl rfl⟩
theorem lm_RL_22 : Cond.methodLink RL 22 yX6_blank ∈ GW := GW_4 7 rfl rfl
theorem cal_yX6_blank : Cal yX6_blank cX6_blank 2 0 (some .int) := ⟨GW_4 10 rfl rfl, GW_1 7 rfl rfl, by decide +kernel⟩
theorem cav_yX6_blank : CalV yX6_blank := ⟨GW_4 8 rfl rfl, GW_4 9 rfl rfl⟩
theorem lm_RL_23 : Cond.methodLink RL 23 yX5_fault ∈ GW := GW_1 180 rfl rfl
theorem cal_yX5_fault : Cal yX5_fault cX5_fault 1 0 (some .int) := ⟨GW_1 183 rfl rfl, GW_1 1 rfl rfl, by decide +kernel⟩
theorem cav_yX5_fault : CalV yX5_fault := ⟨GW_1 181 rfl rfl, GW_1 182 rfl rfl⟩
theorem lm_RL_26 : Cond.methodLink RL 26 yX6_fault ∈ GW := GW_4 11 rfl rfl
theorem cal_yX6_fault : Cal yX6_fault cX6_fault 1 0 (some .int) := ⟨GW_4 14 rfl rfl, GW_1 7 rfl rfl, by decide +kernel⟩
theorem cav_yX6_fault : CalV yX6_fault := ⟨GW_4 12 rfl rfl, GW_4 13 rfl rfl⟩
theorem lm_RL_27 : Cond.methodLink RL 27 yX5_mine ∈ GW := GW_2 70 rfl rfl
theorem cal_yX5_mine : Cal yX5_mine cX5_mine 1 0 (some .int) := ⟨GW_2 73 rfl rfl, GW_1 1 rfl rfl, by decide +kernel⟩
theorem cav_yX5_mine : CalV yX5_mine := ⟨GW_2 71 rfl rfl, GW_2 72 rfl rfl⟩
theorem lm_RL_30 : Cond.methodLink RL 30 yX6_mine ∈ GW := GW_4 32 rfl rfl
theorem cal_yX6_mine : Cal yX6_mine cX6_mine 3 0 (some .int) := ⟨GW_4 35 rfl rfl, GW_1 7 rfl rfl, by decide +kernel⟩
theorem cav_yX6_mine : CalV yX6_mine := ⟨GW_4 33 rfl rfl, GW_4 34 rfl rfl⟩
theorem lm_RL_31 : Cond.methodLink RL 31 yX5_crossing ∈ GW := GW_2 162 rfl rfl
theorem lm_RL_35 : Cond.methodLink RL 35 yX6_crossing ∈ GW := GW_4 36 rfl rfl
theorem cal_yX6_crossing : Cal yX6_crossing cX6_crossing 3 2 (some .int) := ⟨GW_4 39 rfl rfl, GW_1 7 rfl rfl, by decide +kernel⟩
theorem cav_yX6_crossing : CalV yX6_crossing := ⟨GW_4 37 rfl rfl, GW_4 38 rfl rfl⟩
theorem lm_RL_36 : Cond.methodLink RL 36 yX5_as ∈ GW := GW_2 179 rfl rfl
theorem cal_yX5_as : Cal yX5_as cX5_as 3 2 (some .int) := ⟨GW_2 182 rfl rfl, GW_1 1 rfl rfl, by decide +kernel⟩
theorem cav_yX5_as : CalV yX5_as := ⟨GW_2 180 rfl rfl, GW_2 181 rfl rfl⟩
theorem lm_RL_39 : Cond.methodLink RL 39 yX6_as ∈ GW := GW_4 60 rfl rfl
theorem cal_yX6_as : Cal yX6_as cX6_as 4 2 (some .int) := ⟨GW_4 63 rfl rfl, GW_1 7 rfl rfl, by decide +kernel⟩
theorem cav_yX6_as : CalV yX6_as := ⟨GW_4 61 rfl rfl, GW_4 62 rfl rfl⟩
theorem lm_RL_40 : Cond.methodLink RL 40 yX5_party ∈ GW := GW_2 186 rfl rfl
theorem cal_yX5_party : Cal yX5_party cX5_party 2 1 (some .int) := ⟨GW_2 189 rfl rfl, GW_1 1 rfl rfl, by decide +kernel⟩
theorem cav_yX5_party : CalV yX5_party := ⟨GW_2 187 rfl rfl, GW_2 188 rfl rfl⟩
theorem lm_RL_43 : Cond.methodLink RL 43 yX6_party ∈ GW := GW_4 65 rfl rfl
theorem cal_yX6_party : Cal yX6_party cX6_party 2 1 (some .int) := ⟨GW_4 68 rfl rfl, GW_1 7 rfl rfl, by decide +kernel⟩
theorem cav_yX6_party : CalV yX6_party := ⟨GW_4 66 rfl rfl, GW_4 67 rfl rfl⟩
theorem lm_RL_44 : Cond.methodLink RL 44 yX5_about ∈ GW := GW_2 195 rfl rfl
theorem lm_RL_47 : Cond.methodLink RL 47 yX6_about ∈ GW := GW_4 69 rfl rfl
theorem cal_yX6_about : Cal yX6_about cX6_about 3 2 (some .int) := ⟨GW_4 72 rfl rfl, GW_1 7 rfl rfl, by decide +kernel⟩
theorem cav_yX6_about : CalV yX6_about := ⟨GW_4 70 rfl rfl, GW_4 71 rfl rfl⟩
theorem lm_RL_48 : Cond.methodLink RL 48 yX5_step ∈ GW := GW_2 213 rfl rfl
theorem cal_yX5_step : Cal yX5_step cX5_step 5 2 (some .int) := ⟨GW_2 216 rfl rfl, GW_1 1 rfl rfl, by decide +kernel⟩
theorem cav_yX5_step : CalV yX5_step := ⟨GW_2 214 rfl rfl, GW_2 215 rfl rfl⟩
theorem lm_RL_51 : Cond.methodLink RL 51 yX6_step ∈ GW := GW_4 89 rfl rfl
theorem cal_yX6_step : Cal yX6_step cX6_step 4 2 (some .int) := ⟨GW_4 92 rfl rfl, GW_1 7 rfl rfl, by decide +kernel⟩
theorem cav_yX6_step : CalV yX6_step := ⟨GW_4 90 rfl rfl, GW_4 91 rfl rfl⟩
theorem lm_RL_52 : Cond.methodLink RL 52 yX5_speak ∈ GW := GW_2 224 rfl rfl
theorem cal_yX5_speak : Cal yX5_speak cX5_speak 2 1 (some .int) := ⟨GW_2 227 rfl rfl, GW_1 1 rfl rfl, by decide +kernel⟩
theorem cav_yX5_speak : CalV yX5_speak := ⟨GW_2 225 rfl rfl, GW_2 226 rfl rfl⟩
theorem lm_RL_55 : Cond.methodLink RL 55 yX6_speak ∈ GW := GW_4 93 rfl rfl
theorem cal_yX6_speak : Cal yX6_speak cX6_speak 2 1 (some .int) := ⟨GW_4 96 rfl rfl, GW_1 7 rfl rfl, by decide +kernel⟩
theorem cav_yX6_speak : CalV yX6_speak := ⟨GW_4 94 rfl rfl, GW_4 95 rfl rfl⟩
theorem lm_RL_56 : Cond.methodLink RL 56 yX5_look ∈ GW := GW_2 229 rfl rfl
theorem cal_yX5_look : Cal yX5_look cX5_look 2 1 (some .int) := ⟨GW_2 232 rfl rfl, GW_1 1 rfl rfl, by decide +kernel⟩
theorem cav_yX5_look : CalV yX5_look := ⟨GW_2 230 rfl rfl, GW_2 231 rfl rfl⟩
theorem lm_RL_59 : Cond.methodLink RL 59 yX6_look ∈ GW := GW_4 97 rfl rfl
theorem cal_yX6_look : Cal yX6_look cX6_look 2 1 (some .int) := ⟨GW_4 100 rfl rfl, GW_1 7 rfl rfl, by decide +kernel⟩
theorem cav_yX6_look : CalV yX6_look := ⟨GW_4 98 rfl rfl, GW_4 99 rfl rfl⟩
theorem lm_RL_60 : Cond.methodLink RL 60 yX5_fill ∈ GW := GW_2 233 rfl rfl
theorem cal_yX5_fill : Cal yX5_fill cX5_fill 3 1 (some .int) := ⟨GW_2 236 rfl rfl, GW_1 1 rfl rfl, by decide +kernel⟩
theorem cav_yX5_fill : CalV yX5_fill := ⟨GW_2 234 rfl rfl, GW_2 235 rfl rfl⟩
theorem lm_RL_63 : Cond.methodLink RL 63 yX6_fill ∈ GW := GW_4 101 rfl rfl
theorem cal_yX6_fill : Cal yX6_fill cX6_fill 3 1 (some .int) := ⟨GW_4 104 rfl rfl, GW_1 7 rfl rfl, by decide +kernel⟩
theorem cav_yX6_fill : CalV yX6_fill := ⟨GW_4 102 rfl rfl, GW_4 103 rfl rfl⟩
theorem lm_RL_64 : Cond.methodLink RL 64 yX5_way ∈ GW := GW_2 237 rfl rfl
theorem lm_RL_68 : Cond.methodLink RL 68 yX6_way ∈ GW := GW_4 105 rfl rfl
theorem cal_yX6_way : Cal yX6_way cX6_way 4 3 (some .int) := ⟨GW_4 108 rfl rfl, GW_1 7 rfl rfl, by decide +kernel⟩
theorem cav_yX6_way : CalV yX6_way := ⟨GW_4 106 rfl rfl, GW_4 107 rfl rfl⟩
theorem lm_RL_69 : Cond.methodLink RL 69 yX5_round ∈ GW := GW_3 12 rfl rfl
theorem lm_RL_72 : Cond.methodLink RL 72 yX6_round ∈ GW := GW_4 122 rfl rfl
theorem cal_yX6_round : Cal yX6_round cX6_round 3 2 (some .int) := ⟨GW_4 125 rfl rfl, GW_1 7 rfl rfl, by decide +kernel⟩
theorem cav_yX6_round : CalV yX6_round := ⟨GW_4 123 rfl rfl, GW_4 124 rfl rfl⟩
theorem lm_RL_73 : Cond.methodLink RL 73 yX5_meet ∈ GW := GW_3 25 rfl rfl
theorem lm_RL_76 : Cond.methodLink RL 76 yX6_meet ∈ GW := GW_4 134 rfl rfl
theorem cal_yX6_meet : Cal yX6_meet cX6_meet 3 2 (some .int) := ⟨GW_4 137 rfl rfl, GW_1 7 rfl rfl, by decide +kernel⟩
theorem cav_yX6_meet : CalV yX6_meet := ⟨GW_4 135 rfl rfl, GW_4 136 rfl rfl⟩
theorem lm_RL_77 : Cond.methodLink RL 77 yX5_apart ∈ GW := GW_3 29 rfl rfl
theorem lm_RL_80 : Cond.methodLink RL 80 yX6_apart ∈ GW := GW_4 146 rfl rfl
theorem cal_yX6_apart : Cal yX6_apart cX6_apart 4 3 (some .int) := ⟨GW_4 149 rfl rfl, GW_1 7 rfl rfl, by decide +kernel⟩
theorem cav_yX6_apart : CalV yX6_apart := ⟨GW_4 147 rfl rfl, GW_4 148 rfl rfl⟩
theorem lm_RL_81 : Cond.methodLink RL 81 yX5_hear ∈ GW := GW_3 37 rfl rfl
theorem cal_yX5_hear : Cal yX5_hear cX5_hear 4 2 (some .int) := ⟨GW_3 40 rfl rfl, GW_1 1 rfl rfl, by decide +kernel⟩
theorem cav_yX5_hear : CalV yX5_hear := ⟨GW_3 38 rfl rfl, GW_3 39 rfl rfl⟩
theorem lm_RL_84 : Cond.methodLink RL 84 yX6_hear ∈ GW := GW_4 158 rfl rfl
theorem cal_yX6_hear : Cal yX6_hear cX6_hear 4 2 (some .int) := ⟨GW_4 161 rfl rfl, GW_1 7 rfl rfl, by decide +kernel⟩
theorem cav_yX6_hear : CalV yX6_hear := ⟨GW_4 159 rfl rfl, GW_4 160 rfl rfl⟩
theorem lm_RL_85 : Cond.methodLink RL 85 yX5_forget ∈ GW := GW_3 45 rfl rfl
theorem cal_yX5_forget : Cal yX5_forget cX5_forget 2 0 (some .int) := ⟨GW_3 48 rfl rfl, GW_1 1 rfl rfl, by decide +kernel⟩
theorem cav_yX5_forget : CalV yX5_forget := ⟨GW_3 46 rfl rfl, GW_3 47 rfl rfl⟩
theorem lm_RL_88 : Cond.methodLink RL 88 yX6_forget ∈ GW := GW_4 162 rfl rfl
theorem cal_yX6_forget : Cal yX6_forget cX6_forget 2 0 (some .int) := ⟨GW_4 165 rfl rfl, GW_1 7 rfl rfl, by decide +kernel⟩
theorem cav_yX6_forget : CalV yX6_forget := ⟨GW_4 163 rfl rfl, GW_4 164 rfl rfl⟩
theorem lm_RL_89 : Cond.methodLink RL 89 yX5_where ∈ GW := GW_3 49 rfl rfl
theorem lm_RL_92 : Cond.methodLink RL 92 yX6_where ∈ GW := GW_4 166 rfl rfl
theorem cal_yX6_where : Cal yX6_where cX6_where 1 0 (some .int) := ⟨GW_4 169 rfl rfl, GW_1 7 rfl rfl, by decide +kernel⟩
theorem cav_yX6_where : CalV yX6_where := ⟨GW_4 167 rfl rfl, GW_4 168 rfl rfl⟩
theorem lm_RL_93 : Cond.methodLink RL 93 yX5_next ∈ GW := GW_3 72 rfl rfl
theorem lm_RL_96 : Cond.methodLink RL 96 yX6_next ∈ GW := GW_4 186 rfl rfl
theorem cal_yX6_next : Cal yX6_next cX6_next 1 0 (some .int) := ⟨GW_4 189 rfl rfl, GW_1 7 rfl rfl, by decide +kernel⟩
theorem cav_yX6_next : CalV yX6_next := ⟨GW_4 187 rfl rfl, GW_4 188 rfl rfl⟩
theorem lm_RL_97 : Cond.methodLink RL 97 yX5_walks ∈ GW := GW_3 87 rfl rfl
theorem cal_yX5_walks : Cal yX5_walks cX5_walks 10 4 (some .int) := ⟨GW_3 90 rfl rfl, GW_1 1 rfl rfl, by decide +kernel⟩
theorem cav_yX5_walks : CalV yX5_walks := ⟨GW_3 88 rfl rfl, GW_3 89 rfl rfl⟩
theorem lm_RL_101 : Cond.methodLink RL 101 yX6_walks ∈ GW := GW_4 201 rfl rfl
theorem cal_yX6_walks : Cal yX6_walks cX6_walks 9 4 (some .int) := ⟨GW_4 204 rfl rfl, GW_1 7 rfl rfl, by decide +kernel⟩
theorem cav_yX6_walks : CalV yX6_walks := ⟨GW_4 202 rfl rfl, GW_4 203 rfl rfl⟩
theorem lm_RL_102 : Cond.methodLink RL 102 yX5_image ∈ GW := GW_3 102 rfl rfl
theorem cal_yX5_image : Cal yX5_image cX5_image 1 0 (some .int) := ⟨GW_3 105 rfl rfl, GW_1 1 rfl rfl, by decide +kernel⟩
theorem cav_yX5_image : CalV yX5_image := ⟨GW_3 103 rfl rfl, GW_3 104 rfl rfl⟩
theorem lm_RL_105 : Cond.methodLink RL 105 yX6_image ∈ GW := GW_4 215 rfl rfl
theorem cal_yX6_image : Cal yX6_image cX6_image 1 0 (some .int) := ⟨GW_4 218 rfl rfl, GW_1 7 rfl rfl, by decide +kernel⟩
theorem cav_yX6_image : CalV yX6_image := ⟨GW_4 216 rfl rfl, GW_4 217 rfl rfl⟩
theorem lm_RL_106 : Cond.methodLink RL 106 yX5_restore ∈ GW := GW_3 113 rfl rfl
theorem cal_yX5_restore : Cal yX5_restore cX5_restore 1 0 (some .int) := ⟨GW_3 116 rfl rfl, GW_1 1 rfl rfl, by decide +kernel⟩
theorem cav_yX5_restore : CalV yX5_restore := ⟨GW_3 114 rfl rfl, GW_3 115 rfl rfl⟩
theorem lm_RL_109 : Cond.methodLink RL 109 yX6_restore ∈ GW := GW_4 222 rfl rfl
theorem cal_yX6_restore : Cal yX6_restore cX6_restore 1 0 (some .int) := ⟨GW_4 225 rfl rfl, GW_1 7 rfl rfl, by decide +kernel⟩
theorem cav_yX6_restore : CalV yX6_restore := ⟨GW_4 223 rfl rfl, GW_4 224 rfl rfl⟩
theorem lm_RL_110 : Cond.methodLink RL 110 yX5_count ∈ GW := GW_3 117 rfl rfl
theorem lm_RL_113 : Cond.methodLink RL 113 yX6_count ∈ GW := GW_4 226 rfl rfl
theorem cal_yX6_count : Cal yX6_count cX6_count 2 1 (some .int) := ⟨GW_4 229 rfl rfl, GW_1 7 rfl rfl, by decide +kernel⟩
theorem cav_yX6_count : CalV yX6_count := ⟨GW_4 227 rfl rfl, GW_4 228 rfl rfl⟩
theorem lm_RL_114 : Cond.methodLink RL 114 yX5_digest ∈ GW := GW_3 130 rfl rfl
theorem cal_yX5_digest : Cal yX5_digest cX5_digest 4 0 (some .long) := ⟨GW_3 133 rfl rfl, GW_1 1 rfl rfl, by decide +kernel⟩
theorem cav_yX5_digest : CalV yX5_digest := ⟨GW_3 131 rfl rfl, GW_3 132 rfl rfl⟩
theorem lm_RL_118 : Cond.methodLink RL 118 yX6_digest ∈ GW := GW_4 238 rfl rfl
theorem cal_yX6_digest : Cal yX6_digest cX6_digest 3 0 (some .long) := ⟨GW_5 1 rfl rfl, GW_1 7 rfl rfl, by decide +kernel⟩
theorem cav_yX6_digest : CalV yX6_digest := ⟨GW_4 239 rfl rfl, GW_5 0 rfl rfl⟩
theorem oi_inst : Cond.instanceMethod Lib.objectInit ∈ GW := GW_1 21 rfl rfl
theorem oi_code : Cond.code Lib.objectInit ⟨#[0xb1]⟩ 1 none ∈ GW := GW_1 22 rfl rfl
theorem lm_RX2_3 : Cond.methodLink RX2 3 Lib.objectInit ∈ GW := GW_1 28 rfl rfl
theorem arr_int : Cond.arrayClass .int ∈ GW := GW_1 38 rfl rfl
theorem lm_RX1_3 : Cond.methodLink RX1 3 Lib.objectInit ∈ GW := GW_1 44 rfl rfl
theorem lm_RX3_3 : Cond.methodLink RX3 3 Lib.objectInit ∈ GW := GW_1 75 rfl rfl
theorem lm_RX4_3 : Cond.methodLink RX4 3 Lib.objectInit ∈ GW := GW_1 69 rfl rfl
theorem lcl_RX4_9 : Cond.classLink RX4 9 RX3 ∈ GW := GW_1 70 rfl rfl
theorem ins_RX3 : Cond.instantiable RX3 1 ∈ GW := GW_1 71 rfl rfl
theorem ini_RX3 : Cond.initialized RX3 ∈ GW := GW_1 5 rfl rfl
theorem lm_RX4_11 : Cond.methodLinkNest RX4 11 yX3_init "LanternTongue" ∈ nestW := List.mem_of_getElem? (i := 7) rfl
theorem cal_yX3_init : Cal yX3_init cX3_init 1 0 none := ⟨GW_1 74 rfl rfl, GW_1 5 rfl rfl, by decide +kernel⟩
theorem inm_yX3_init : Cond.instanceMethod yX3_init ∈ GW := GW_1 73 rfl rfl
theorem lm_RX0_3 : Cond.methodLink RX0 3 Lib.objectInit ∈ GW := GW_1 108 rfl rfl
theorem lm_RX5_3 : Cond.methodLink RX5 3 Lib.objectInit ∈ GW := GW_1 20 rfl rfl
theorem lcl_RX5_9 : Cond.classLink RX5 9 RX2 ∈ GW := GW_1 23 rfl rfl
theorem ins_RX2 : Cond.instantiable RX2 2 ∈ GW := GW_1 24 rfl rfl
theorem ini_RX2 : Cond.initialized RX2 ∈ GW := GW_1 2 rfl rfl
theorem lm_RX5_11 : Cond.methodLinkNest RX5 11 yX2_init "LanternTongue" ∈ nestW := List.mem_of_getElem? (i := 0) rfl
theorem cal_yX2_init : Cal yX2_init cX2_init 1 0 none := ⟨GW_1 27 rfl rfl, GW_1 2 rfl rfl, by decide +kernel⟩
theorem inm_yX2_init : Cond.instanceMethod yX2_init ∈ GW := GW_1 26 rfl rfl
theorem lcl_RX5_16 : Cond.classLink RX5 16 RX1 ∈ GW := GW_1 39 rfl rfl
theorem ins_RX1 : Cond.instantiable RX1 5 ∈ GW := GW_1 40 rfl rfl
theorem ini_RX1 : Cond.initialized RX1 ∈ GW := GW_1 3 rfl rfl
theorem lm_RX5_18 : Cond.methodLinkNest RX5 18 yX1_init "LanternTongue" ∈ nestW := List.mem_of_getElem? (i := 3) rfl
theorem cal_yX1_init : Cal yX1_init cX1_init 1 0 none := ⟨GW_1 43 rfl rfl, GW_1 3 rfl rfl, by decide +kernel⟩
theorem inm_yX1_init : Cond.instanceMethod yX1_init ∈ GW := GW_1 42 rfl rfl
theorem lcl_RX5_23 : Cond.classLink RX5 23 RX4 ∈ GW := GW_1 64 rfl rfl
theorem ins_RX4 : Cond.instantiable RX4 6 ∈ GW := GW_1 65 rfl rfl
theorem ini_RX4 : Cond.initialized RX4 ∈ GW := GW_1 4 rfl rfl
theorem lm_RX5_25 : Cond.methodLink RX5 25 yX4_init ∈ GW := GW_1 66 rfl rfl
theorem cal_yX4_init : Cal yX4_init cX4_init 2 1 none := ⟨GW_1 68 rfl rfl, GW_1 4 rfl rfl, by decide +kernel⟩
theorem inm_yX4_init : Cond.instanceMethod yX4_init ∈ GW := GW_1 67 rfl rfl
theorem lcl_RX5_32 : Cond.classLink RX5 32 RX0 ∈ GW := GW_1 103 rfl rfl
theorem ins_RX0 : Cond.instantiable RX0 8 ∈ GW := GW_1 104 rfl rfl
theorem ini_RX0 : Cond.initialized RX0 ∈ GW := GW_1 6 rfl rfl
theorem lm_RX5_34 : Cond.methodLinkNest RX5 34 yX0_init "LanternTongue" ∈ nestW := List.mem_of_getElem? (i := 12) rfl
theorem cal_yX0_init : Cal yX0_init cX0_init 1 0 none := ⟨GW_1 107 rfl rfl, GW_1 6 rfl rfl, by decide +kernel⟩
theorem inm_yX0_init : Cond.instanceMethod yX0_init ∈ GW := GW_1 106 rfl rfl
theorem lm_RX6_1 : Cond.methodLink RX6 1 Lib.objectInit ∈ GW := GW_3 162 rfl rfl
