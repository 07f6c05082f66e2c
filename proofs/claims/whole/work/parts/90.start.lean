/-! THE CLAIM OUT OF ONE WALK OF THE LAW'S BODY. Your part is whole_start (and what it stands on); all else here is the same for every law, but numbers. -/
def R_law : String := "LanternTongueLaw"
def lw_P (b : Addr) (xs : List Int32) (args : Array Value) (s : State) : Prop := args = #[.ref b] ∧ s.IntsAt b xs ∧ xs.length ≤ 320 ∧ (Jvm.Cond.and given_1 narrow_1).before args s = true
def lw_Q (_ : Array Value) (s : State) (o : Outcome) (t : State) : Prop := o = .returned (some (.int 1)) ∧ Framed s o t [] 43 1241
def lw_Z (below : List Frame) (a : Array Value) (s : State) : State → Prop := fun t => ∃ o, t.status = .running ∧ Ended t below o ∧ lw_Q a s o t
/-- the law's own end, with 1 on the stack, nothing written that was there before, its room as the claim has it -/
theorem lw_ret {p : Program} {l : Launch} {e : Env} {s : State} {m : MethodId} {below : List Frame} {meth : Method} {c : Code} {b : Nat} (hx : p.tables.exec = Jvm.exec) (hb : c.code = code) (hr : meth.sig.returnType = ret) (hlocks : meth.locks = false) {pc : Nat} {H : Heap} {ls : Array Slot} (hdg : decode code pc = .ok (.ireturn, 1)) : W p l e room_1 s m #[Value.ref b] below meth c H [] 43 1241 (lw_Z below #[Value.ref b] s) (F0 m pc ls [.int 1]) := by
  intro T hT X
  obtain ⟨fs, hret, hrun, hended, hW, hframe⟩ := X.leave (v := some (.int 1)) (hlocks := hlocks) (fun h => by rw [hr] at h; cases h)
  have hmeth' : T.vm.method? m = some meth := X.method'
  refine ⟨T.setFrames fs, ?_, .returned (some (.int 1)), hrun, hended, rfl, ⟨_, rfl⟩, hW, hframe⟩
  jvm_step X.here [X.here.top, hx, hb, hdg, hmeth', hr, ret, narrow_b1]
  (try refine ⟨rfl, ?_⟩); (try refine ⟨rfl, ?_⟩)
  first | (intro acts; rw [hret _ acts rfl rfl rfl]) | rw [hret _ _ rfl rfl rfl]
  exact Steps.refl _
/-- what holds at the law's entry: the machine, the code, the tables' words (any of lw_tbl by 'hts w (by decide +kernel)'), the script of L ints xs at the cell b, what the Statement gives of the start (any of its parts by flat_of_before) -/
def lw_At (p : Program) (s : State) (m : MethodId) (meth : Method) (c : Code) (b L : Nat) (xs : Nat → Int32) : Prop :=
  p.tables.exec = Jvm.exec ∧ c.code = code ∧ meth.sig.returnType = ret ∧ c.maxLocals = 4 ∧ s.vm.findClass R_law = some m.cls ∧ (∀ w ∈ lw_tbl, w.before #[Value.ref b] s = true) ∧ va_X b L xs s s.heap ∧ b < s.heap.size ∧ meth.locks = false ∧ (Jvm.Cond.and given_1 narrow_1).before #[Value.ref b] s = true
theorem lcl_RL_7 : Cond.classLink RL 7 RX5 ∈ GW := GW_1 15 rfl rfl
theorem ins_RX5 : Cond.instantiable RX5 7 ∈ GW := GW_1 16 rfl rfl
theorem ini_RX5 : Cond.initialized RX5 ∈ GW := GW_1 1 rfl rfl
theorem lm_RL_9 : Cond.methodLink RL 9 yX5_init ∈ GW := GW_1 17 rfl rfl
theorem cal_yX5_init : Cal yX5_init cX5_init 1 0 none := ⟨GW_1 19 rfl rfl, GW_1 1 rfl rfl, by decide +kernel⟩
theorem inm_yX5_init : Cond.instanceMethod yX5_init ∈ GW := GW_1 18 rfl rfl
theorem lcl_RL_10 : Cond.classLink RL 10 RX6 ∈ GW := GW_3 157 rfl rfl
theorem ins_RX6 : Cond.instantiable RX6 25 ∈ GW := GW_3 158 rfl rfl
theorem ini_RX6 : Cond.initialized RX6 ∈ GW := GW_1 7 rfl rfl
theorem lm_RL_12 : Cond.methodLink RL 12 yX6_init ∈ GW := GW_3 159 rfl rfl
theorem cal_yX6_init : Cal yX6_init cX6_init 1 0 none := ⟨GW_3 161 rfl rfl, GW_1 7 rfl rfl, by decide +kernel⟩
theorem inm_yX6_init : Cond.instanceMethod yX6_init ∈ GW := GW_3 160 rfl rfl
theorem nest_in : ∀ w ∈ nestW, w ∈ lw_tbl := by decide +kernel
theorem law_exit {X : CX} {b L : Nat} {zs : Nat → Int32} {σ : ST} (hX : Ok X RL cL_law 4 15) (hr : (xmeth X).sig.returnType = ret) (hc : xcells X = 43) (hs : xslots X = 1241) (hR : xR X = room_1) (ha : xargs X = #[Value.ref b]) (hQ : xQ X = lw_Z (xbelow X) #[Value.ref b] (xs X)) (hA : ∀ q, xA X q → (xs X).heap.size ≤ q) : JJ X 780 [] [] σ := by
  refine JJ.iconst (v := 1) hX dL_law_780 (by decide) ?_
  intro H locs lsA hP hS hl
  rw [hc, hs, hR, ha, hQ]
  refine va_forget (fun q hq => hA _ (hS.2.2 q hq)) ?_
  exact lw_ret hX.1 hX.2.1 hr hX.2.2.2.2.2.2.2.2.2.2.1 dL_law_781
set_option maxHeartbeats 4000000 in
set_option maxRecDepth 100000 in
/-- THE LAW, from its entry -/
theorem whole_start {p : Program} {e : Env} {s : State} {m : MethodId} {below : List Frame} {meth : Method} {c : Code} (l : Launch) {b L : Nat} {xs : Nat → Int32} (hL : L ≤ 320) (C0 : lw_At p s m meth c b L xs) : W p l e room_1 s m #[Value.ref b] below meth c s.heap [] 0 0 (lw_Z below #[Value.ref b] s) (entryFrame m ([Value.ref b] : List Value).toArray 4) := by
  obtain ⟨hx, hb, hr, hml, hown, hts, hXs, hbl, hlocks, hgv⟩ := id C0
  have htg : ∀ w ∈ GW, w.before #[Value.ref b] s = true := fun w hw => hts w (List.mem_filter.mp hw).1
  have hNW : NW s := fun w hw => by
    have h1 := List.all_eq_true.mp nestW_is w hw
    have h2 := hts w (nest_in w hw)
    cases w <;> first | exact va_Nw.of rfl h2 | (simp [isNest] at h1; done)
  obtain ⟨c0, i0, hk0⟩ := u_known (C := RX0) (T := TX0) (N := 8) (n := 8) htg inG0 (htg _ ins_RX0)
  obtain ⟨c1, i1, hk1⟩ := u_known (C := RX1) (T := TX1) (N := 5) (n := 5) htg inG1 (htg _ ins_RX1)
  obtain ⟨c2, i2, hk2⟩ := u_known (C := RX2) (T := TX2) (N := 2) (n := 2) htg inG2 (htg _ ins_RX2)
  obtain ⟨c3, i3, hk3⟩ := u_known (C := RX3) (T := TX3) (N := 1) (n := 1) htg inG3 (htg _ ins_RX3)
  obtain ⟨c4, i4, hk4⟩ := u_known (C := RX4) (T := TX4) (N := 6) (n := 6) htg inG4 (htg _ ins_RX4)
  obtain ⟨c5, i5, hk5⟩ := u_known (C := RX5) (T := TX5) (N := 7) (n := 7) htg inG5 (htg _ ins_RX5)
  obtain ⟨c6, i6, hk6⟩ := u_known (C := RX6) (T := TX6) (N := 25) (n := 25) htg inG6 (htg _ ins_RX6)
  obtain ⟨dC, dI, hKc⟩ : ∃ (dC : Nat → ClassId) (dI : Nat → Nat → Nat), ∀ (k : Nat) (q : vw_C), vwCl[k]? = some q → u_Kn s q.1 q.2.1 q.2.2 (dC k) (dI k) := by
    refine ⟨fun k => [c0, c1, c2, c3, c4, c5, c6].getD k c0, fun k => [i0, i1, i2, i3, i4, i5, i6].getD k i0, ?_⟩
    intro k q hq
    rcases k with _|_|_|_|_|_|_|k
    · cases hq; exact hk0
    · cases hq; exact hk1
    · cases hq; exact hk2
    · cases hq; exact hk3
    · cases hq; exact hk4
    · cases hq; exact hk5
    · cases hq; exact hk6
    · simp [vwCl] at hq
  obtain ⟨cA, kA, comp, ha1, ha2, ha3⟩ := Cond.arrayClass_spec (htg _ arr_int)
  have hK : va_K (dC, dI) vwCl [(cA, .int)] s := by
    refine ⟨hKc, fun k q hq => ?_⟩
    rcases k with _|k
    · cases hq
      exact ⟨fun n z => ⟨fun k h => (by cases h), kA, ha2, comp, ha3⟩, ha1⟩
    · simp at hq
  have hA0 : ∀ a : Nat, a < s.heap.size → ¬ (fun q : Nat => s.heap.size ≤ q) a := fun a h1 h2 => Nat.not_le.mpr h1 h2
  have hfl := flat_of_before _ hgv
  obtain ⟨vK, vV, hvS, hvE⟩ := vk_Sof (args := #[Value.ref b]) (s := s) (N := 1) (tm := fun _ => Term.string "LanternTongue$Page" 58) (len := [5]) (byt := [[46, 100, 115, 98, 119]]) (A := fun q : Nat => s.heap.size ≤ q)
    (fun i hi => by rcases i with _|i
                    · decide
                    · omega)
    (fun i hi => hfl _ (by decide +kernel)) (fun i hi => hfl _ (by decide +kernel)) (fun i hi => hfl _ (by decide +kernel))
    (fun i hi => by rcases i with _|i
                    · exact hfl _ (by decide +kernel)
                    · omega)
    (fun i hi j hj => by
      rcases i with _|i
      · have hj : j < 5 := hj
        rcases j with _|_|_|_|_|j
        · exact hfl _ (by decide +kernel)
        · exact hfl _ (by decide +kernel)
        · exact hfl _ (by decide +kernel)
        · exact hfl _ (by decide +kernel)
        · exact hfl _ (by decide +kernel)
        · omega
      · omega)
    (fun i j hi hj hne => absurd (show i = j by omega) hne) hA0
  have hZ : va_Z "java/lang/String" "COMPACT_STRINGS" "Z" (.int 1) (fun q : Nat => s.heap.size ≤ q) s s.heap := va_Zof (hts (.laysStatic "java/lang/String" "COMPACT_STRINGS" "Z") (by decide +kernel)) (hts (.initialized "java/lang/String") (by decide +kernel)) (va_eqi (hfl _ (by decide +kernel))) hA0
  have hRr : vk_R "LanternTongue$Page" 58 ".dsbw" (vK 0) s := vk_R.of (hts (.stringRef "LanternTongue$Page" 58 ".dsbw") (by decide +kernel)) (hvE 0 (by decide))
  have hl := lv_entry ([.ref b]) (n := 4) (Nat.le_of_ble_eq_true rfl)
  rw [lg_entry_eq]
  generalize (lg_sl ([.ref b]) ++ List.replicate (4 - (lg_sl ([.ref b])).length) Slot.unset).toArray = lsA at hl ⊢
  have hl : lv_has lsA 4 [(0, .ref b)] := hl
  obtain ⟨X, eX⟩ : ∃ X : CX, X = (p, l, e, room_1, s, m, #[Value.ref b], below, meth, c, 0, 0, lw_Z below #[Value.ref b] s, dC, dI, cA, fun _ => 0, fun q : Nat => s.heap.size ≤ q, 4) := ⟨_, rfl⟩
  have hX : OkC X RL cL_law 4 15 43 1241 := by
    subst eX
    exact ⟨hx, hb, hml, rfl, hown, htg, hNW, hK, fun _ h => h, hlocks, rfl, rfl, rfl, rfl⟩
  have start : JC X 0 [(0, .ref b)] [] [] 0 0 := by
    refine JC.new (ci := 5) (fs := [.null, .null, .null, .null, .null, .int 0, .int 0]) hX inG5 tyX5_ok lcl_RL_7 ins_RX5 ini_RX5 rfl dfl_5 (by decide) (by decide) dL_law_0 (fun q1 => ?_)
    show JC X 3 [(0, .ref b)] [.ref q1] [(q1, .inr (5, [.null, .null, .null, .null, .null, .int 0, .int 0]))] 1 7
    refine JC.dup hX dL_law_3 rfl ?_
    refine JC.callI (ws := []) (st := [.ref q1]) hX cn_RX5 cal_yX5_init rfl inm_yX5_init lm_RL_9 rfl rfl (Nat.le_of_ble_eq_true rfl) ⟨by decide, by decide⟩ (by decide) (by decide) rfl dL_law_4 (fun qs4 hqs => ?_)
    obtain ⟨q2, t2, rfl, hqs2⟩ := qs_cons hqs
    obtain ⟨q3, t3, rfl, hqs3⟩ := qs_cons hqs2
    obtain ⟨q4, t4, rfl, hqs4⟩ := qs_cons hqs3
    obtain ⟨q5, t5, rfl, hqs5⟩ := qs_cons hqs4
    obtain ⟨q6, t6, rfl, hqs6⟩ := qs_cons hqs5
    obtain ⟨q7, t7, rfl, hqs7⟩ := qs_cons hqs6
    obtain ⟨q8, t8, rfl, hqs8⟩ := qs_cons hqs7
    obtain ⟨q9, t9, rfl, hqs9⟩ := qs_cons hqs8
    obtain ⟨q10, t10, rfl, hqs10⟩ := qs_cons hqs9
    obtain ⟨q11, t11, rfl, hqs11⟩ := qs_cons hqs10
    obtain ⟨q12, t12, rfl, hqs12⟩ := qs_cons hqs11
    obtain ⟨q13, t13, rfl, hqs13⟩ := qs_cons hqs12
    obtain ⟨q14, t14, rfl, hqs14⟩ := qs_cons hqs13
    obtain ⟨q15, t15, rfl, hqs15⟩ := qs_cons hqs14
    obtain ⟨q16, t16, rfl, hqs16⟩ := qs_cons hqs15
    obtain ⟨q17, t17, rfl, hqs17⟩ := qs_cons hqs16
    obtain ⟨q18, t18, rfl, hqs18⟩ := qs_cons hqs17
    obtain ⟨q19, t19, rfl, hqs19⟩ := qs_cons hqs18
    obtain ⟨q20, t20, rfl, hqs20⟩ := qs_cons hqs19
    obtain ⟨q21, t21, rfl, hqs21⟩ := qs_cons hqs20
    obtain ⟨q22, t22, rfl, hqs22⟩ := qs_cons hqs21
    obtain ⟨q23, t23, rfl, hqs23⟩ := qs_cons hqs22
    obtain ⟨q24, t24, rfl, hqs24⟩ := qs_cons hqs23
    obtain ⟨q25, t25, rfl, hqs25⟩ := qs_cons hqs24
    obtain ⟨q26, t26, rfl, hqs26⟩ := qs_cons hqs25
    obtain ⟨q27, t27, rfl, hqs27⟩ := qs_cons hqs26
    obtain ⟨q28, t28, rfl, hqs28⟩ := qs_cons hqs27
    obtain ⟨q29, t29, rfl, hqs29⟩ := qs_cons hqs28
    obtain ⟨q30, t30, rfl, hqs30⟩ := qs_cons hqs29
    obtain ⟨q31, t31, rfl, hqs31⟩ := qs_cons hqs30
    obtain rfl := qs_nil hqs31
    show JC X 7 [(0, .ref b)] [.ref q1] [(q1, .inr (5, [.ref q2, .ref q4, .ref q8, .ref q18, .ref q25, .int 0, .int 0])), (q2, .inr (2, [.ref q3, .int 0])), (q3, .inl ((xcA X), 28, .inl (fun _ => 0))), (q4, .inr (1, [.int 0, .int 0, .ref q5, .ref q6, .ref q7])), (q5, .inl ((xcA X), 6, .inl (fun _ => 0))), (q6, .inl ((xcA X), 6, .inl (fun _ => 0))), (q7, .inl ((xcA X), 6, .inl (fun _ => 0))), (q8, .inr (4, [.ref q4, .ref q9, .ref q11, .ref q13, .ref q15, .ref q17])), (q9, .inr (3, [.ref q10])), (q10, .inl ((xcA X), 36, .inl (fun _ => 0))), (q11, .inr (3, [.ref q12])), (q12, .inl ((xcA X), 36, .inl (fun _ => 0))), (q13, .inr (3, [.ref q14])), (q14, .inl ((xcA X), 36, .inl (fun _ => 0))), (q15, .inr (3, [.ref q16])), (q16, .inl ((xcA X), 36, .inl (fun _ => 0))), (q17, .inl ((xcA X), 384, .inl (fun _ => 0))), (q18, .inr (0, [.int 0, .ref q19, .ref q20, .ref q21, .ref q22, .int 0, .ref q23, .ref q24])), (q19, .inl ((xcA X), 3, .inl (fun _ => 0))), (q20, .inl ((xcA X), 3, .inl (fun _ => 0))), (q21, .inl ((xcA X), 3, .inl (fun _ => 0))), (q22, .inl ((xcA X), 3, .inl (fun _ => 0))), (q23, .inl ((xcA X), 8, .inl (fun _ => 0))), (q24, .inl ((xcA X), 8, .inl (fun _ => 0))), (q25, .inr (0, [.int 0, .ref q26, .ref q27, .ref q28, .ref q29, .int 0, .ref q30, .ref q31])), (q26, .inl ((xcA X), 3, .inl (fun _ => 0))), (q27, .inl ((xcA X), 3, .inl (fun _ => 0))), (q28, .inl ((xcA X), 3, .inl (fun _ => 0))), (q29, .inl ((xcA X), 3, .inl (fun _ => 0))), (q30, .inl ((xcA X), 8, .inl (fun _ => 0))), (q31, .inl ((xcA X), 8, .inl (fun _ => 0)))] 31 670
    refine JC.astore_n (ls' := [(0, .ref b), (1, .ref q1)]) hX dL_law_7 (by decide) rfl rfl ?_
    refine JC.new (ci := 6) (fs := [.null, .int 0, .null, .int 0, .int 0, .int 0, .int 0, .int 0, .int 0, .null, .null, .int 0, .null, .null, .null, .null, .int 0, .null, .int 0, .int 0, .int 0, .int 0, .null, .null, .long 0]) hX inG6 tyX6_ok lcl_RL_10 ins_RX6 ini_RX6 rfl dfl_6 (by decide) (by decide) dL_law_8 (fun q32 => ?_)
    show JC X 11 [(0, .ref b), (1, .ref q1)] [.ref q32] [(q1, .inr (5, [.ref q2, .ref q4, .ref q8, .ref q18, .ref q25, .int 0, .int 0])), (q2, .inr (2, [.ref q3, .int 0])), (q3, .inl ((xcA X), 28, .inl (fun _ => 0))), (q4, .inr (1, [.int 0, .int 0, .ref q5, .ref q6, .ref q7])), (q5, .inl ((xcA X), 6, .inl (fun _ => 0))), (q6, .inl ((xcA X), 6, .inl (fun _ => 0))), (q7, .inl ((xcA X), 6, .inl (fun _ => 0))), (q8, .inr (4, [.ref q4, .ref q9, .ref q11, .ref q13, .ref q15, .ref q17])), (q9, .inr (3, [.ref q10])), (q10, .inl ((xcA X), 36, .inl (fun _ => 0))), (q11, .inr (3, [.ref q12])), (q12, .inl ((xcA X), 36, .inl (fun _ => 0))), (q13, .inr (3, [.ref q14])), (q14, .inl ((xcA X), 36, .inl (fun _ => 0))), (q15, .inr (3, [.ref q16])), (q16, .inl ((xcA X), 36, .inl (fun _ => 0))), (q17, .inl ((xcA X), 384, .inl (fun _ => 0))), (q18, .inr (0, [.int 0, .ref q19, .ref q20, .ref q21, .ref q22, .int 0, .ref q23, .ref q24])), (q19, .inl ((xcA X), 3, .inl (fun _ => 0))), (q20, .inl ((xcA X), 3, .inl (fun _ => 0))), (q21, .inl ((xcA X), 3, .inl (fun _ => 0))), (q22, .inl ((xcA X), 3, .inl (fun _ => 0))), (q23, .inl ((xcA X), 8, .inl (fun _ => 0))), (q24, .inl ((xcA X), 8, .inl (fun _ => 0))), (q25, .inr (0, [.int 0, .ref q26, .ref q27, .ref q28, .ref q29, .int 0, .ref q30, .ref q31])), (q26, .inl ((xcA X), 3, .inl (fun _ => 0))), (q27, .inl ((xcA X), 3, .inl (fun _ => 0))), (q28, .inl ((xcA X), 3, .inl (fun _ => 0))), (q29, .inl ((xcA X), 3, .inl (fun _ => 0))), (q30, .inl ((xcA X), 8, .inl (fun _ => 0))), (q31, .inl ((xcA X), 8, .inl (fun _ => 0))), (q32, .inr (6, [.null, .int 0, .null, .int 0, .int 0, .int 0, .int 0, .int 0, .int 0, .null, .null, .int 0, .null, .null, .null, .null, .int 0, .null, .int 0, .int 0, .int 0, .int 0, .null, .null, .long 0]))] 32 695
    refine JC.dup hX dL_law_11 rfl ?_
    refine JC.callI (ws := [(q1, .inr (5, [.ref q2, .ref q4, .ref q8, .ref q18, .ref q25, .int 0, .int 0])), (q2, .inr (2, [.ref q3, .int 0])), (q3, .inl ((xcA X), 28, .inl (fun _ => 0))), (q4, .inr (1, [.int 0, .int 0, .ref q5, .ref q6, .ref q7])), (q5, .inl ((xcA X), 6, .inl (fun _ => 0))), (q6, .inl ((xcA X), 6, .inl (fun _ => 0))), (q7, .inl ((xcA X), 6, .inl (fun _ => 0))), (q8, .inr (4, [.ref q4, .ref q9, .ref q11, .ref q13, .ref q15, .ref q17])), (q9, .inr (3, [.ref q10])), (q10, .inl ((xcA X), 36, .inl (fun _ => 0))), (q11, .inr (3, [.ref q12])), (q12, .inl ((xcA X), 36, .inl (fun _ => 0))), (q13, .inr (3, [.ref q14])), (q14, .inl ((xcA X), 36, .inl (fun _ => 0))), (q15, .inr (3, [.ref q16])), (q16, .inl ((xcA X), 36, .inl (fun _ => 0))), (q17, .inl ((xcA X), 384, .inl (fun _ => 0))), (q18, .inr (0, [.int 0, .ref q19, .ref q20, .ref q21, .ref q22, .int 0, .ref q23, .ref q24])), (q19, .inl ((xcA X), 3, .inl (fun _ => 0))), (q20, .inl ((xcA X), 3, .inl (fun _ => 0))), (q21, .inl ((xcA X), 3, .inl (fun _ => 0))), (q22, .inl ((xcA X), 3, .inl (fun _ => 0))), (q23, .inl ((xcA X), 8, .inl (fun _ => 0))), (q24, .inl ((xcA X), 8, .inl (fun _ => 0))), (q25, .inr (0, [.int 0, .ref q26, .ref q27, .ref q28, .ref q29, .int 0, .ref q30, .ref q31])), (q26, .inl ((xcA X), 3, .inl (fun _ => 0))), (q27, .inl ((xcA X), 3, .inl (fun _ => 0))), (q28, .inl ((xcA X), 3, .inl (fun _ => 0))), (q29, .inl ((xcA X), 3, .inl (fun _ => 0))), (q30, .inl ((xcA X), 8, .inl (fun _ => 0))), (q31, .inl ((xcA X), 8, .inl (fun _ => 0)))]) (st := [.ref q32]) hX cn_RX6 cal_yX6_init rfl inm_yX6_init lm_RL_12 rfl rfl (Nat.le_of_ble_eq_true rfl) ⟨by decide, by decide⟩ (by decide) (by decide) rfl dL_law_12 (fun qs12 hqs => ?_)
    obtain ⟨q33, t33, rfl, hqs33⟩ := qs_cons hqs
    obtain ⟨q34, t34, rfl, hqs34⟩ := qs_cons hqs33
    obtain ⟨q35, t35, rfl, hqs35⟩ := qs_cons hqs34
    obtain ⟨q36, t36, rfl, hqs36⟩ := qs_cons hqs35
    obtain ⟨q37, t37, rfl, hqs37⟩ := qs_cons hqs36
    obtain ⟨q38, t38, rfl, hqs38⟩ := qs_cons hqs37
    obtain ⟨q39, t39, rfl, hqs39⟩ := qs_cons hqs38
    obtain ⟨q40, t40, rfl, hqs40⟩ := qs_cons hqs39
    obtain ⟨q41, t41, rfl, hqs41⟩ := qs_cons hqs40
    obtain ⟨q42, t42, rfl, hqs42⟩ := qs_cons hqs41
    obtain ⟨q43, t43, rfl, hqs43⟩ := qs_cons hqs42
    obtain rfl := qs_nil hqs43
    show JC X 15 [(0, .ref b), (1, .ref q1)] [.ref q32] [(q1, .inr (5, [.ref q2, .ref q4, .ref q8, .ref q18, .ref q25, .int 0, .int 0])), (q2, .inr (2, [.ref q3, .int 0])), (q3, .inl ((xcA X), 28, .inl (fun _ => 0))), (q4, .inr (1, [.int 0, .int 0, .ref q5, .ref q6, .ref q7])), (q5, .inl ((xcA X), 6, .inl (fun _ => 0))), (q6, .inl ((xcA X), 6, .inl (fun _ => 0))), (q7, .inl ((xcA X), 6, .inl (fun _ => 0))), (q8, .inr (4, [.ref q4, .ref q9, .ref q11, .ref q13, .ref q15, .ref q17])), (q9, .inr (3, [.ref q10])), (q10, .inl ((xcA X), 36, .inl (fun _ => 0))), (q11, .inr (3, [.ref q12])), (q12, .inl ((xcA X), 36, .inl (fun _ => 0))), (q13, .inr (3, [.ref q14])), (q14, .inl ((xcA X), 36, .inl (fun _ => 0))), (q15, .inr (3, [.ref q16])), (q16, .inl ((xcA X), 36, .inl (fun _ => 0))), (q17, .inl ((xcA X), 384, .inl (fun _ => 0))), (q18, .inr (0, [.int 0, .ref q19, .ref q20, .ref q21, .ref q22, .int 0, .ref q23, .ref q24])), (q19, .inl ((xcA X), 3, .inl (fun _ => 0))), (q20, .inl ((xcA X), 3, .inl (fun _ => 0))), (q21, .inl ((xcA X), 3, .inl (fun _ => 0))), (q22, .inl ((xcA X), 3, .inl (fun _ => 0))), (q23, .inl ((xcA X), 8, .inl (fun _ => 0))), (q24, .inl ((xcA X), 8, .inl (fun _ => 0))), (q25, .inr (0, [.int 0, .ref q26, .ref q27, .ref q28, .ref q29, .int 0, .ref q30, .ref q31])), (q26, .inl ((xcA X), 3, .inl (fun _ => 0))), (q27, .inl ((xcA X), 3, .inl (fun _ => 0))), (q28, .inl ((xcA X), 3, .inl (fun _ => 0))), (q29, .inl ((xcA X), 3, .inl (fun _ => 0))), (q30, .inl ((xcA X), 8, .inl (fun _ => 0))), (q31, .inl ((xcA X), 8, .inl (fun _ => 0))), (q32, .inr (6, [.ref q33, .int 0, .ref q34, .int 0, .int 0, .int 0, .int 0, .int 0, .int 0, .ref q35, .ref q36, .int 0, .ref q37, .ref q38, .ref q39, .ref q40, .int 0, .ref q41, .int 0, .int (-1), .int 0, .int 0, .ref q42, .ref q43, .long 0])), (q33, .inl ((xcA X), 28, .inl (fun _ => 0))), (q34, .inl ((xcA X), 18, .inl (fun _ => 0))), (q35, .inl ((xcA X), 6, .inl (fun _ => 0))), (q36, .inl ((xcA X), 12, .inl (fun _ => 0))), (q37, .inl ((xcA X), 12, .inl (fun _ => 0))), (q38, .inl ((xcA X), 6, .inl (fun _ => 0))), (q39, .inl ((xcA X), 384, .inl (fun _ => 0))), (q40, .inl ((xcA X), 36, .inl (fun _ => 0))), (q41, .inl ((xcA X), 16, .inl (fun _ => 0))), (q42, .inl ((xcA X), 12, .inl (fun _ => 0))), (q43, .inl ((xcA X), 16, .inl (fun _ => 0)))] 43 1241
    refine JC.astore_n (ls' := [(0, .ref b), (1, .ref q1), (2, .ref q32)]) hX dL_law_15 (by decide) rfl rfl ?_
    refine JC.iconst (v := 0) hX dL_law_16 (by decide) ?_
    refine JC.istore_n (ls' := [(0, .ref b), (1, .ref q1), (2, .ref q32), (3, .int 0)]) hX dL_law_17 (by decide) rfl rfl ?_
    intro H locs lsB hP hD hS hl2
    subst eX
    have hP2 := hP.sub (ws' := wld cA (fun k => [q1, q2, q3, q4, q5, q6, q7, q8, q9, q11, q13, q15, q10, q12, q14, q16, q17, q18, q19, q20, q21, q22, q23, q24, q25, q26, q27, q28, q29, q30, q31, q32, q33, q34, q35, q36, q37, q38, q39, q40, q41, q42, q43, vK 0, vV 0].getD k 0) st0) [0, 1, 2, 3, 4, 5, 6, 7, 8, 10, 12, 14, 9, 11, 13, 15, 16, 17, 18, 19, 20, 21, 22, 23, 24, 25, 26, 27, 28, 29, 30, 31, 32, 33, 34, 35, 36, 37, 38, 39, 40, 41, 42] rfl
    have hD2 : va_D (fun q : Nat => s.heap.size ≤ q) (wld cA (fun k => [q1, q2, q3, q4, q5, q6, q7, q8, q9, q11, q13, q15, q10, q12, q14, q16, q17, q18, q19, q20, q21, q22, q23, q24, q25, q26, q27, q28, q29, q30, q31, q32, q33, q34, q35, q36, q37, q38, q39, q40, q41, q42, q43, vK 0, vV 0].getD k 0) st0) := hD.sub [0, 1, 2, 3, 4, 5, 6, 7, 8, 10, 12, 14, 9, 11, 13, 15, 16, 17, 18, 19, 20, 21, 22, 23, 24, 25, 26, 27, 28, 29, 30, 31, 32, 33, 34, 35, 36, 37, 38, 39, 40, 41, 42] (by decide) rfl
    obtain ⟨ad, ead⟩ : ∃ ad : Nat → Nat, ad = fun k => [q1, q2, q3, q4, q5, q6, q7, q8, q9, q11, q13, q15, q10, q12, q14, q16, q17, q18, q19, q20, q21, q22, q23, q24, q25, q26, q27, q28, q29, q30, q31, q32, q33, q34, q35, q36, q37, q38, q39, q40, q41, q42, q43, vK 0, vV 0].getD k 0 := ⟨_, rfl⟩
    rw [← ead] at hP2 hD2
    have hSC : SC ad (fun q : Nat => s.heap.size ≤ q) s s.heap := by
      rw [ead]
      refine ⟨⟨fun i hi => ?_, fun i j hi hj _ => by omega⟩, hRr, hZ⟩
      have h0 : i = 0 := by omega
      subst h0
      exact hvS.1 0 (by decide)
    obtain ⟨Y, eY⟩ : ∃ Y : CX, Y = (p, l, e, room_1, s, m, #[Value.ref b], below, meth, c, 43, 1241, lw_Z below #[Value.ref b] s, dC, dI, cA, ad, fun q : Nat => s.heap.size ≤ q, 4) := ⟨_, rfl⟩
    have hY : Ok Y RL cL_law 4 15 := by
      subst eY
      exact ⟨hx, hb, hml, rfl, hown, htg, hNW, hK, fun σ => va_D_addr (wld_ad cA ad st0 σ) hD2, fun _ h => h, hlocks, hSC, rfl, rfl, Nat.le_refl 43, Nat.le_refl 1241⟩
    have hs : Scr Y b L xs := by
      subst eY
      exact ⟨hXs, hbl, Nat.not_le.mpr hbl⟩
    obtain ⟨fin, hfin⟩ := law_pure L hL xs
    have big : JJ Y 18 [(0, .ref b), (1, .ref (xad Y 0)), (2, .ref (xad Y 31)), (3, .int 0)] [] st0 := by
      refine lp_Law_law_18 hY hs 400 0 st0 fin hfin ?_
      refine law_exit (b := b) (L := L) (zs := xs) hY ?_ ?_ ?_ ?_ ?_ ?_ ?_
      all_goals subst eY
      · exact hr
      · rfl
      · rfl
      · rfl
      · rfl
      · rfl
      · exact fun q h => h
    subst eY
    refine big H locs lsB hP2 hS ?_
    rw [ead]
    exact hl2
  subst eX
  exact start s.heap [] lsA (fun k q h => by simp at h) ⟨fun i j p q h => by simp at h, fun k q h => by simp at h⟩ va_S.rf hl
set_option maxHeartbeats 4000000 in
theorem lw_walk (l : Launch) (b : Addr) (xs : List Int32) : MetFree l x (headSpec (Jvm.Cond.code x code maxLocals ret :: tables_1) room_1) (lw_P b xs) (fun _ _ _ _ _ => True) lw_Q := by
  refine MetFree.of_bodyS (code := code) (maxLocals := maxLocals) (ret := ret) (by decide) ?_ ?_
  · intro args s m h hn
    obtain ⟨meth, c, h1, h2, h3, h4, h5, h6, -, -⟩ := Cond.code_spec hn (atoms_spec (ws := Jvm.Cond.code x code maxLocals ret :: tables_1) h _ List.mem_cons_self)
    exact ⟨meth, c, h1, h2, h3, h4, h5, h6⟩
  · intro p e s m args below meth c s₁ B hml0 hP _
    obtain ⟨rfl, hx, hbd, hgv⟩ := hP
    obtain ⟨scr, harrAt, hlist, hof, hsmall⟩ := hx
    obtain ⟨hcb, hkn, -, -⟩ := State.arrayAt?_spec harrAt
    have hown : s.vm.findClass R_law = some m.cls := findClass_of_methodNamed B.named
    have hts0 : ∀ c ∈ (Jvm.Cond.code x code maxLocals ret :: tables_1), c.before #[Value.ref b] s = true := atoms_spec (ws := Jvm.Cond.code x code maxLocals ret :: tables_1) B.pre
    have hts : ∀ w ∈ lw_tbl, w.before #[Value.ref b] s = true := k2_hts_sels lw_privs (fun w hw => hts0 w (List.mem_cons_of_mem _ hw)) lw_privs_ok
    have hml : c.maxLocals = 4 := B.maxLocals_eq (hts0 _ List.mem_cons_self)
    have X₀ : Stand p l e room_1 s m #[Value.ref b] below meth c s₁ [] 0 0 := Stand.of_body B
    have hh0 : s₁.heap = s.heap := by rw [B.state]; rfl
    have hsz : scr.slots.size = xs.length := by rw [← Array.length_toList, hlist, List.length_map]
    have hval : ∀ j : Nat, j < xs.length → scr.slots[j]? = some (.int (xs.getD j 0)) := fun j hj => by
      rw [← Array.getElem?_toList, hlist]
      simp [hj]
    have hbl : b < s.heap.size := (Array.getElem?_eq_some_iff.mp hcb).1
    have hX : va_X b xs.length (fun j => xs.getD j 0) s s.heap := ⟨scr, hcb, hof, hkn, hsz, hval⟩
    have K : W p l e room_1 s m #[Value.ref b] below meth c s₁.heap [] 0 0 (lw_Z below #[Value.ref b] s) (entryFrame m ([Value.ref b] : List Value).toArray 4) := by
      rw [hh0]
      exact whole_start l hbd ⟨B.exec, B.bytes, B.returns, hml, hown, hts, hX, hbl, B.notSynchronized, hgv⟩
    obtain ⟨t, a1, o, b1, b2, b3⟩ := K s₁ rfl X₀
    exact ⟨t, o, a1, b1, b2, b3⟩
theorem lw_pre_spec {args : Array Value} {s : State} (h : (Jvm.Cond.and given_1 narrow_1).before args s = true) (hr : rest_1_c.before args s = true) : ∃ (b : Addr) (xs : List Int32), lw_P b xs args s := by
  have hs := flat_of_before _ h
  have hq := flat_of_before _ hr
  have hc : (Cond.count 1).before args s = true := hs _ (by decide +kernel)
  have harr : (Cond.arrayOf (.arg 0) .int).before args s = true := hs _ (by decide +kernel)
  have hle : (Cond.le (.length (.arg 0)) (.int 320)).before args s = true := hs _ (by decide +kernel)
  have hlen : (Cond.isInt (.length (.arg 0))).before args s = true := hq _ (by decide +kernel)
  have hall : (Cond.all (.arg 0) (.isInt (.elem (.arg 0) (.index 0)))).before args s = true := hq _ (by decide +kernel)
  obtain ⟨b, xs, hb, hx⟩ := State.ints_of_pre rfl harr hlen hall
  have hsm : xs.length < 2 ^ 31 := hx.choose_spec.2.2.2
  have hev : (Term.length (.arg 0)).eval args s none [] s = some (.int xs.length.toInt32) := hx.length_eval hb
  have hv := Cond.le_ints hev (show (Term.int 320).eval args s none [] s = some (.int 320) from rfl)
  have hd : xs.length.toInt32 ≤ 320 := by
    simpa [Cond.before, Cond.holds, hv] using hle
  have hN : xs.length ≤ 320 := (Int32.ofNat_le_ofNat hsm (by decide)).mp (show Int32.ofNat xs.length ≤ Int32.ofNat 320 from hd)
  exact ⟨b, xs, Cond.one_arg hc (show args[0]? = some (.ref b) from hb), hx, hN, h⟩
theorem lw_comes (l : Launch) : Comes l x (Jvm.Cond.code x code maxLocals ret :: tables_1) room_1 (fun tb e args s => Calls_1 tb e args s ∧ rest_1 tb e args s ∧ Pre_1 tb e args s)
    (fun _ _ args s o t => lw_Q args s o t) := by
  intro p e ha hc hk s m args below hf hfit hheap happ hpre
  obtain ⟨b, xs, hP⟩ := lw_pre_spec hpre.2.2 hpre.2.1
  obtain ⟨k, o, h1, h2, h3, hQ⟩ := lw_walk l b xs p e ha hc hk s m args below hf ((Spec.applies_iff_loose hf).mp happ).1 hP trivial
  exact ⟨k, o, h1, h2, h3, hQ⟩
theorem lw_frame {s t : State} {o : Outcome} {args : Array Value} (h : Framed s o t [] 43 1241) :
    Framed s o t (fieldLocs frame_1_writes args s ++ arrayLocs frame_1_arrays args s ++ staticLocs frame_1_statics s) 43 1241 := h
theorem lw_limb (L : Cond) (hL : ∀ (args : Array Value) (s t : State), L.after args s (.returned (some (.int 1))) t = true) :
    ArmFor flags0 classFile x code maxLocals ret World_1 tables_1 room_1 Calls_1 rest_1 Pre_1
      (fun tb e a s o t => postC L tb e a s o t ∧ Framed s o t (fieldLocs frame_1_writes a s ++ arrayLocs frame_1_arrays a s ++ staticLocs frame_1_statics s) 43 1241) := by
  intro l _ _ _ p e ha hc hk s m args below hf hfit hheap happ hpre
  obtain ⟨k, o, h1, h2, h3, rfl, hF⟩ := lw_comes l p e ha hc hk s m args below hf hfit hheap happ hpre
  exact ⟨k, _, h1, h2, h3, hL args s _, lw_frame hF⟩
theorem i_vc : Claimed_1_1 ∧ Claimed_1_2 := ⟨lw_limb limb_1_1 (fun args s t => by simp [limb_1_1, Cond.after, Cond.holds, Cond.value]), lw_limb limb_1_2 (fun args s t => Cond.after_iff.mpr (by
  first | (rw [show limb_1_2 = Cond.eq .result (.int 1) from rfl, Cond.eq_ints (x := 1) (y := 1) rfl rfl]; simp; done) | (simp [limb_1_2, Cond.value, Term.eval]; done)))⟩
