/-- the law's script -/
def Scr (X : CX) (b L : Nat) (zs : Nat → Int32) : Prop := va_X b L zs (xs X) (xs X).heap ∧ b < (xs X).heap.size ∧ ¬ xA X b
theorem JJ.sld {X : CX} {own : String} {cc : ByteArray} {nL D pc : Nat} {ls : List (Nat × Value)} {st : List Value} {σ : ST} (hX : Ok X own cc nL D) {b L : Nat} {zs : Nat → Int32} (hs : Scr X b L zs) {i : Int32} (hin : vp_in i L) (hd : decode cc pc = .ok (.iaload, 1)) (k : JJ X (pc + 1) ls (.int (zs i.toNatClampNeg) :: st) σ) : JJ X pc ls (.int i :: .ref b :: st) σ := fun H locs lsA hP hS hl => va_sld hX.1 hX.2.1 hs.1 hs.2.1 hs.2.2 hS hin hd (k H locs lsA hP hS hl)
theorem JJ.slen {X : CX} {own : String} {cc : ByteArray} {nL D pc : Nat} {ls : List (Nat × Value)} {st : List Value} {σ : ST} (hX : Ok X own cc nL D) {b L : Nat} {zs : Nat → Int32} (hs : Scr X b L zs) (hd : decode cc pc = .ok (.arraylength, 1)) (k : JJ X (pc + 1) ls (.int (Int32.ofNat L) :: st) σ) : JJ X pc ls (.ref b :: st) σ := fun H locs lsA hP hS hl => va_slen hX.1 hX.2.1 hs.1 hs.2.1 hs.2.2 hS hd (k H locs lsA hP hS hl)
def f_Law_law_L18 (L : Nat) (zs : Nat → Int32) : Nat → Int32 → ST → Option (ST)
  | 0, _, _ => none
  | n + 1, x3, σ => (if ((Int32.ofNat L) - (5 : Int32)) < x3 then some σ else (if inB x3 L = true then (if ((zs x3.toNatClampNeg) &&& (31 : Int32)) = (0 : Int32) then (if inB (x3 + (1 : Int32)) L = true then (if inB (x3 + (1 : Int32)) L = true then ((f_M_letter (zs (x3 + (1 : Int32)).toNatClampNeg) ((f_LT_letter (zs (x3 + (1 : Int32)).toNatClampNeg) σ).2)).bind (fun q6 => (if (f_LT_letter (zs (x3 + (1 : Int32)).toNatClampNeg) σ).1 = q6.1 then (f_Law_law_L18 L zs n (x3 + (5 : Int32)) q6.2) else none))) else none) else none) else (if ((zs x3.toNatClampNeg) &&& (31 : Int32)) = (1 : Int32) then (if (f_LT_blank σ).1 = (f_M_blank ((f_LT_blank σ).2)).1 then (f_Law_law_L18 L zs n (x3 + (5 : Int32)) ((f_M_blank ((f_LT_blank σ).2)).2)) else none) else (if ((zs x3.toNatClampNeg) &&& (31 : Int32)) = (2 : Int32) then ((f_LT_fault σ).bind (fun q11 => ((f_M_fault σ).bind (fun q12 => (if q11 = q12.1 then (f_Law_law_L18 L zs n (x3 + (5 : Int32)) q12.2) else none))))) else (if ((zs x3.toNatClampNeg) &&& (31 : Int32)) = (3 : Int32) then ((f_LT_mine σ).bind (fun q15 => ((f_M_mine q15.2).bind (fun q16 => (if q15.1 = q16.1 then (f_Law_law_L18 L zs n (x3 + (5 : Int32)) q16.2) else none))))) else (if ((zs x3.toNatClampNeg) &&& (31 : Int32)) = (4 : Int32) then (if inB (x3 + (1 : Int32)) L = true then (if inB (x3 + (2 : Int32)) L = true then ((f_LT_crossing (zs (x3 + (1 : Int32)).toNatClampNeg) (zs (x3 + (2 : Int32)).toNatClampNeg) σ).bind (fun q21 => (if inB (x3 + (1 : Int32)) L = true then (if inB (x3 + (2 : Int32)) L = true then ((f_M_crossing (zs (x3 + (1 : Int32)).toNatClampNeg) (zs (x3 + (2 : Int32)).toNatClampNeg) σ).bind (fun q24 => (if q21 = q24 then (f_Law_law_L18 L zs n (x3 + (5 : Int32)) σ) else none))) else none) else none))) else none) else none) else (if ((zs x3.toNatClampNeg) &&& (31 : Int32)) = (5 : Int32) then (if inB (x3 + (1 : Int32)) L = true then (if inB (x3 + (2 : Int32)) L = true then (if inB (x3 + (1 : Int32)) L = true then (if inB (x3 + (2 : Int32)) L = true then ((f_M_as (zs (x3 + (1 : Int32)).toNatClampNeg) (zs (x3 + (2 : Int32)).toNatClampNeg) σ).bind (fun q31 => (if (f_LT_as (zs (x3 + (1 : Int32)).toNatClampNeg) (zs (x3 + (2 : Int32)).toNatClampNeg) σ) = q31 then (f_Law_law_L18 L zs n (x3 + (5 : Int32)) σ) else none))) else none) else none) else none) else none) else (if ((zs x3.toNatClampNeg) &&& (31 : Int32)) = (6 : Int32) then (if inB (x3 + (1 : Int32)) L = true then (if inB (x3 + (1 : Int32)) L = true then ((f_M_party (zs (x3 + (1 : Int32)).toNatClampNeg) ((f_LT_party (zs (x3 + (1 : Int32)).toNatClampNeg) σ).2)).bind (fun q36 => (if (f_LT_party (zs (x3 + (1 : Int32)).toNatClampNeg) σ).1 = q36.1 then (f_Law_law_L18 L zs n (x3 + (5 : Int32)) q36.2) else none))) else none) else none) else (if ((zs x3.toNatClampNeg) &&& (31 : Int32)) = (7 : Int32) then (if inB (x3 + (1 : Int32)) L = true then (if inB (x3 + (2 : Int32)) L = true then (if inB (x3 + (1 : Int32)) L = true then (if inB (x3 + (2 : Int32)) L = true then ((f_M_about (zs (x3 + (1 : Int32)).toNatClampNeg) (zs (x3 + (2 : Int32)).toNatClampNeg) σ).bind (fun q43 => (if (f_LT_about (zs (x3 + (1 : Int32)).toNatClampNeg) (zs (x3 + (2 : Int32)).toNatClampNeg) σ) = q43 then (f_Law_law_L18 L zs n (x3 + (5 : Int32)) σ) else none))) else none) else none) else none) else none) else (if ((zs x3.toNatClampNeg) &&& (31 : Int32)) = (8 : Int32) then (if inB (x3 + (1 : Int32)) L = true then (if inB (x3 + (2 : Int32)) L = true then (if inB (x3 + (1 : Int32)) L = true then (if inB (x3 + (2 : Int32)) L = true then ((f_M_step (zs (x3 + (1 : Int32)).toNatClampNeg) (zs (x3 + (2 : Int32)).toNatClampNeg) ((f_LT_step (zs (x3 + (1 : Int32)).toNatClampNeg) (zs (x3 + (2 : Int32)).toNatClampNeg) σ).2)).bind (fun q50 => (if (f_LT_step (zs (x3 + (1 : Int32)).toNatClampNeg) (zs (x3 + (2 : Int32)).toNatClampNeg) σ).1 = q50.1 then (f_Law_law_L18 L zs n (x3 + (5 : Int32)) q50.2) else none))) else none) else none) else none) else none) else (if ((zs x3.toNatClampNeg) &&& (31 : Int32)) = (9 : Int32) then (if inB (x3 + (1 : Int32)) L = true then (if inB (x3 + (1 : Int32)) L = true then ((f_M_speak (zs (x3 + (1 : Int32)).toNatClampNeg) ((f_LT_speak (zs (x3 + (1 : Int32)).toNatClampNeg) σ).2)).bind (fun q55 => (if (f_LT_speak (zs (x3 + (1 : Int32)).toNatClampNeg) σ).1 = q55.1 then (f_Law_law_L18 L zs n (x3 + (5 : Int32)) q55.2) else none))) else none) else none) else (if ((zs x3.toNatClampNeg) &&& (31 : Int32)) = (10 : Int32) then (if inB (x3 + (1 : Int32)) L = true then (if inB (x3 + (1 : Int32)) L = true then ((f_M_look (zs (x3 + (1 : Int32)).toNatClampNeg) σ).bind (fun q60 => (if (f_LT_look (zs (x3 + (1 : Int32)).toNatClampNeg) σ) = q60 then (f_Law_law_L18 L zs n (x3 + (5 : Int32)) σ) else none))) else none) else none) else (if ((zs x3.toNatClampNeg) &&& (31 : Int32)) = (11 : Int32) then (if inB (x3 + (1 : Int32)) L = true then (if inB (x3 + (1 : Int32)) L = true then ((f_M_fill (zs (x3 + (1 : Int32)).toNatClampNeg) ((f_LT_fill (zs (x3 + (1 : Int32)).toNatClampNeg) σ).2)).bind (fun q65 => (if (f_LT_fill (zs (x3 + (1 : Int32)).toNatClampNeg) σ).1 = q65.1 then (f_Law_law_L18 L zs n (x3 + (5 : Int32)) q65.2) else none))) else none) else none) else (if ((zs x3.toNatClampNeg) &&& (31 : Int32)) = (12 : Int32) then (if inB (x3 + (1 : Int32)) L = true then (if inB (x3 + (2 : Int32)) L = true then (if inB (x3 + (3 : Int32)) L = true then (if inB (x3 + (1 : Int32)) L = true then (if inB (x3 + (2 : Int32)) L = true then (if inB (x3 + (3 : Int32)) L = true then ((f_M_way (zs (x3 + (1 : Int32)).toNatClampNeg) (zs (x3 + (2 : Int32)).toNatClampNeg) (zs (x3 + (3 : Int32)).toNatClampNeg) σ).bind (fun q74 => (if (f_LT_way (zs (x3 + (1 : Int32)).toNatClampNeg) (zs (x3 + (2 : Int32)).toNatClampNeg) (zs (x3 + (3 : Int32)).toNatClampNeg) σ) = q74.1 then (f_Law_law_L18 L zs n (x3 + (5 : Int32)) q74.2) else none))) else none) else none) else none) else none) else none) else none) else (if ((zs x3.toNatClampNeg) &&& (31 : Int32)) = (13 : Int32) then (if inB (x3 + (1 : Int32)) L = true then (if inB (x3 + (2 : Int32)) L = true then (if inB (x3 + (1 : Int32)) L = true then (if inB (x3 + (2 : Int32)) L = true then ((f_M_round (zs (x3 + (1 : Int32)).toNatClampNeg) (zs (x3 + (2 : Int32)).toNatClampNeg) σ).bind (fun q81 => (if (f_LT_round (zs (x3 + (1 : Int32)).toNatClampNeg) (zs (x3 + (2 : Int32)).toNatClampNeg) σ) = q81.1 then (f_Law_law_L18 L zs n (x3 + (5 : Int32)) q81.2) else none))) else none) else none) else none) else none) else (if ((zs x3.toNatClampNeg) &&& (31 : Int32)) = (14 : Int32) then (if inB (x3 + (1 : Int32)) L = true then (if inB (x3 + (2 : Int32)) L = true then (if inB (x3 + (1 : Int32)) L = true then (if inB (x3 + (2 : Int32)) L = true then ((f_M_meet (zs (x3 + (1 : Int32)).toNatClampNeg) (zs (x3 + (2 : Int32)).toNatClampNeg) σ).bind (fun q88 => (if (f_LT_meet (zs (x3 + (1 : Int32)).toNatClampNeg) (zs (x3 + (2 : Int32)).toNatClampNeg) σ) = q88.1 then (f_Law_law_L18 L zs n (x3 + (5 : Int32)) q88.2) else none))) else none) else none) else none) else none) else (if ((zs x3.toNatClampNeg) &&& (31 : Int32)) = (15 : Int32) then (if inB (x3 + (1 : Int32)) L = true then (if inB (x3 + (2 : Int32)) L = true then (if inB (x3 + (3 : Int32)) L = true then (if inB (x3 + (1 : Int32)) L = true then (if inB (x3 + (2 : Int32)) L = true then (if inB (x3 + (3 : Int32)) L = true then ((f_M_apart (zs (x3 + (1 : Int32)).toNatClampNeg) (zs (x3 + (2 : Int32)).toNatClampNeg) (zs (x3 + (3 : Int32)).toNatClampNeg) σ).bind (fun q97 => (if (f_LT_apart (zs (x3 + (1 : Int32)).toNatClampNeg) (zs (x3 + (2 : Int32)).toNatClampNeg) (zs (x3 + (3 : Int32)).toNatClampNeg) σ) = q97.1 then (f_Law_law_L18 L zs n (x3 + (5 : Int32)) q97.2) else none))) else none) else none) else none) else none) else none) else none) else (if ((zs x3.toNatClampNeg) &&& (31 : Int32)) = (16 : Int32) then (if inB (x3 + (1 : Int32)) L = true then (if inB (x3 + (2 : Int32)) L = true then (if inB (x3 + (1 : Int32)) L = true then (if inB (x3 + (2 : Int32)) L = true then ((f_M_hear (zs (x3 + (1 : Int32)).toNatClampNeg) (zs (x3 + (2 : Int32)).toNatClampNeg) ((f_LT_hear (zs (x3 + (1 : Int32)).toNatClampNeg) (zs (x3 + (2 : Int32)).toNatClampNeg) σ).2)).bind (fun q104 => (if (f_LT_hear (zs (x3 + (1 : Int32)).toNatClampNeg) (zs (x3 + (2 : Int32)).toNatClampNeg) σ).1 = q104.1 then (f_Law_law_L18 L zs n (x3 + (5 : Int32)) q104.2) else none))) else none) else none) else none) else none) else (if ((zs x3.toNatClampNeg) &&& (31 : Int32)) = (17 : Int32) then (if (f_LT_forget σ).1 = (f_M_forget ((f_LT_forget σ).2)).1 then (f_Law_law_L18 L zs n (x3 + (5 : Int32)) ((f_M_forget ((f_LT_forget σ).2)).2)) else none) else (if ((zs x3.toNatClampNeg) &&& (31 : Int32)) = (18 : Int32) then ((f_LT_where σ).bind (fun q109 => ((f_M_where σ).bind (fun q110 => (if q109 = q110 then (f_Law_law_L18 L zs n (x3 + (5 : Int32)) σ) else none))))) else (if ((zs x3.toNatClampNeg) &&& (31 : Int32)) = (19 : Int32) then ((f_LT_next σ).bind (fun q113 => ((f_M_next σ).bind (fun q114 => (if q113 = q114 then (f_Law_law_L18 L zs n (x3 + (5 : Int32)) σ) else none))))) else (if ((zs x3.toNatClampNeg) &&& (31 : Int32)) = (20 : Int32) then (if inB (x3 + (1 : Int32)) L = true then (if inB (x3 + (2 : Int32)) L = true then (if inB (x3 + (3 : Int32)) L = true then (if inB (x3 + (4 : Int32)) L = true then ((f_LT_walks (zs (x3 + (1 : Int32)).toNatClampNeg) (zs (x3 + (2 : Int32)).toNatClampNeg) (zs (x3 + (3 : Int32)).toNatClampNeg) (zs (x3 + (4 : Int32)).toNatClampNeg) σ).bind (fun q121 => (if inB (x3 + (1 : Int32)) L = true then (if inB (x3 + (2 : Int32)) L = true then (if inB (x3 + (3 : Int32)) L = true then (if inB (x3 + (4 : Int32)) L = true then ((f_M_walks (zs (x3 + (1 : Int32)).toNatClampNeg) (zs (x3 + (2 : Int32)).toNatClampNeg) (zs (x3 + (3 : Int32)).toNatClampNeg) (zs (x3 + (4 : Int32)).toNatClampNeg) σ).bind (fun q126 => (if q121 = q126.1 then (f_Law_law_L18 L zs n (x3 + (5 : Int32)) q126.2) else none))) else none) else none) else none) else none))) else none) else none) else none) else none) else (if ((zs x3.toNatClampNeg) &&& (31 : Int32)) = (21 : Int32) then ((f_LT_image σ).bind (fun q129 => ((f_M_image q129.2).bind (fun q130 => (if q129.1 = q130.1 then (f_Law_law_L18 L zs n (x3 + (5 : Int32)) q130.2) else none))))) else (if ((zs x3.toNatClampNeg) &&& (31 : Int32)) = (22 : Int32) then ((f_LT_restore σ).bind (fun q133 => ((f_M_restore q133.2).bind (fun q134 => (if q133.1 = q134.1 then (f_Law_law_L18 L zs n (x3 + (5 : Int32)) q134.2) else none))))) else (if ((zs x3.toNatClampNeg) &&& (31 : Int32)) = (23 : Int32) then (if inB (x3 + (1 : Int32)) L = true then ((f_LT_count (zs (x3 + (1 : Int32)).toNatClampNeg) σ).bind (fun q138 => (if inB (x3 + (1 : Int32)) L = true then ((f_M_count (zs (x3 + (1 : Int32)).toNatClampNeg) σ).bind (fun q140 => (if q138 = q140 then (f_Law_law_L18 L zs n (x3 + (5 : Int32)) σ) else none))) else none))) else none) else (if ((zs x3.toNatClampNeg) &&& (31 : Int32)) = (24 : Int32) then ((f_LT_digest σ).bind (fun q143 => ((f_M_digest σ).bind (fun q144 => (if (lg_cmp q143 q144.1) = 0 then (f_Law_law_L18 L zs n (x3 + (5 : Int32)) q144.2) else none))))) else (f_Law_law_L18 L zs n (x3 + (5 : Int32)) σ)))))))))))))))))))))))))) else none))
set_option maxRecDepth 100000 in
theorem lp_Law_law_18 {X : CX} (hX : Ok X RL cL_law 4 15) {b L : Nat} {zs : Nat → Int32} (hs : Scr X b L zs) : ∀ (n : Nat) (x3 : Int32) (σ : ST) (e : (ST)), f_Law_law_L18 L zs n x3 σ = some e → JJ X 780 [] [] e → JJ X 18 [(0, .ref b), (1, .ref (xad X 0)), (2, .ref (xad X 31)), (3, .int x3)] [] σ := by
  intro n
  induction n with
  | zero =>
    intro x3 σ e h
    rw [f_Law_law_L18] at h
    cases h
  | succ n ih =>
    intro x3 σ e h K
    rw [f_Law_law_L18] at h
    refine JJ.iload_n hX 3 dL_law_18 rfl ?_
    refine JJ.aload_n hX 0 dL_law_19 rfl ?_
    refine JJ.slen hX hs dL_law_20 ?_
    refine JJ.iconst (v := 5) hX dL_law_21 (by decide) ?_
    refine JJ.isub hX dL_law_22 ?_
    refine JJ.icmp_gt (tgt := 780) hX dL_law_23 (by decide) (fun c1 => ?_) (fun c1 => ?_)
    · replace h := ipos c1 h
      obtain rfl := Option.some.inj h
      exact JJ.sub [] rfl K
    · replace h := ineg c1 h
      refine JJ.aload_n hX 0 dL_law_26 rfl ?_
      refine JJ.iload_n hX 3 dL_law_27 rfl ?_
      obtain ⟨c2, h⟩ := gte h
      refine JJ.sld hX hs (inB_in c2) dL_law_28 ?_
      refine JJ.bipush (v := 31) hX dL_law_29 (by decide) ?_
      refine JJ.iand hX dL_law_31 ?_
      by_cases c3 : ((zs x3.toNatClampNeg) &&& (31 : Int32)) = (0 : Int32)
      · replace h := ipos c3 h
        refine JJ.tableIn (v := 0) (tgt := 148) hX c3 dL_law_32 (by decide) (by decide) rfl (by decide) ?_
        refine JJ.aload_n hX 1 dL_law_148 rfl ?_
        refine JJ.aload_n hX 0 dL_law_149 rfl ?_
        refine JJ.iload_n hX 3 dL_law_150 rfl ?_
        refine JJ.iconst (v := 1) hX dL_law_151 (by decide) ?_
        refine JJ.iadd hX dL_law_152 ?_
        obtain ⟨c4, h⟩ := gte h
        refine JJ.sld hX hs (inB_in c4) dL_law_153 ?_
        refine JJ.callVi hX (ct_LT_letter _ _ _ rfl) cal_yX5_letter cav_yX5_letter lm_RL_13 rfl rfl rfl (Rcv.obj hX (ci := 5) rfl rfl) (Nat.le_of_ble_eq_true rfl) ⟨by decide, by decide⟩ dL_law_154 ?_
        refine JJ.aload_n hX 2 dL_law_157 rfl ?_
        refine JJ.aload_n hX 0 dL_law_158 rfl ?_
        refine JJ.iload_n hX 3 dL_law_159 rfl ?_
        refine JJ.iconst (v := 1) hX dL_law_160 (by decide) ?_
        refine JJ.iadd hX dL_law_161 ?_
        obtain ⟨c5, h⟩ := gte h
        refine JJ.sld hX hs (inB_in c5) dL_law_162 ?_
        obtain ⟨q6, h6, h⟩ := bnd h
        refine JJ.callVi hX (ct_M_letter _ _ _ h6) cal_yX6_letter cav_yX6_letter lm_RL_17 rfl rfl rfl (Rcv.obj hX (ci := 6) rfl rfl) (Nat.le_of_ble_eq_true rfl) ⟨by decide, by decide⟩ dL_law_163 ?_
        refine JJ.icmp_eq (tgt := 774) hX dL_law_166 (by decide) (fun c7 => ?_) (fun c7 => ?_)
        · replace h := ipos c7 h
          refine JJ.iinc (v := 5) (ls' := [(0, .ref b), (1, .ref (xad X 0)), (2, .ref (xad X 31)), (3, .int (x3 + (5 : Int32)))]) hX 3 dL_law_774 rfl (by decide) (by decide) rfl rfl ?_
          refine JJ.goto (tgt := 18) hX dL_law_777 (by decide) ?_
          exact ih _ _ _ h K
        · replace h := ineg c7 h
          refine JJ.iconst (v := 0) hX dL_law_169 (by decide) ?_
          cases h
      · replace h := ineg c3 h
        by_cases c8 : ((zs x3.toNatClampNeg) &&& (31 : Int32)) = (1 : Int32)
        · replace h := ipos c8 h
          refine JJ.tableIn (v := 1) (tgt := 171) hX c8 dL_law_32 (by decide) (by decide) rfl (by decide) ?_
          refine JJ.aload_n hX 1 dL_law_171 rfl ?_
          refine JJ.callVi hX (ct_LT_blank  _ _ rfl) cal_yX5_blank cav_yX5_blank lm_RL_18 rfl rfl rfl (Rcv.obj hX (ci := 5) rfl rfl) (Nat.le_of_ble_eq_true rfl) ⟨by decide, by decide⟩ dL_law_172 ?_
          refine JJ.aload_n hX 2 dL_law_175 rfl ?_
          refine JJ.callVi hX (ct_M_blank  _ _ rfl) cal_yX6_blank cav_yX6_blank lm_RL_22 rfl rfl rfl (Rcv.obj hX (ci := 6) rfl rfl) (Nat.le_of_ble_eq_true rfl) ⟨by decide, by decide⟩ dL_law_176 ?_
          refine JJ.icmp_eq (tgt := 774) hX dL_law_179 (by decide) (fun c9 => ?_) (fun c9 => ?_)
          · replace h := ipos c9 h
            refine JJ.iinc (v := 5) (ls' := [(0, .ref b), (1, .ref (xad X 0)), (2, .ref (xad X 31)), (3, .int (x3 + (5 : Int32)))]) hX 3 dL_law_774 rfl (by decide) (by decide) rfl rfl ?_
            refine JJ.goto (tgt := 18) hX dL_law_777 (by decide) ?_
            exact ih _ _ _ h K
          · replace h := ineg c9 h
            refine JJ.iconst (v := 0) hX dL_law_182 (by decide) ?_
            cases h
        · replace h := ineg c8 h
          by_cases c10 : ((zs x3.toNatClampNeg) &&& (31 : Int32)) = (2 : Int32)
          · replace h := ipos c10 h
            refine JJ.tableIn (v := 2) (tgt := 184) hX c10 dL_law_32 (by decide) (by decide) rfl (by decide) ?_
            refine JJ.aload_n hX 1 dL_law_184 rfl ?_
            obtain ⟨q11, h11, h⟩ := bnd h
            refine JJ.callVi hX (ct_LT_fault  _ _ h11) cal_yX5_fault cav_yX5_fault lm_RL_23 rfl rfl rfl (Rcv.obj hX (ci := 5) rfl rfl) (Nat.le_of_ble_eq_true rfl) ⟨by decide, by decide⟩ dL_law_185 ?_
            refine JJ.aload_n hX 2 dL_law_188 rfl ?_
            obtain ⟨q12, h12, h⟩ := bnd h
            refine JJ.callVi hX (ct_M_fault  _ _ h12) cal_yX6_fault cav_yX6_fault lm_RL_26 rfl rfl rfl (Rcv.obj hX (ci := 6) rfl rfl) (Nat.le_of_ble_eq_true rfl) ⟨by decide, by decide⟩ dL_law_189 ?_
            refine JJ.icmp_eq (tgt := 774) hX dL_law_192 (by decide) (fun c13 => ?_) (fun c13 => ?_)
            · replace h := ipos c13 h
              refine JJ.iinc (v := 5) (ls' := [(0, .ref b), (1, .ref (xad X 0)), (2, .ref (xad X 31)), (3, .int (x3 + (5 : Int32)))]) hX 3 dL_law_774 rfl (by decide) (by decide) rfl rfl ?_
              refine JJ.goto (tgt := 18) hX dL_law_777 (by decide) ?_
              exact ih _ _ _ h K
            · replace h := ineg c13 h
              refine JJ.iconst (v := 0) hX dL_law_195 (by decide) ?_
              cases h
          · replace h := ineg c10 h
            by_cases c14 : ((zs x3.toNatClampNeg) &&& (31 : Int32)) = (3 : Int32)
            · replace h := ipos c14 h
              refine JJ.tableIn (v := 3) (tgt := 197) hX c14 dL_law_32 (by decide) (by decide) rfl (by decide) ?_
              refine JJ.aload_n hX 1 dL_law_197 rfl ?_
              obtain ⟨q15, h15, h⟩ := bnd h
              refine JJ.callVi hX (ct_LT_mine  _ _ h15) cal_yX5_mine cav_yX5_mine lm_RL_27 rfl rfl rfl (Rcv.obj hX (ci := 5) rfl rfl) (Nat.le_of_ble_eq_true rfl) ⟨by decide, by decide⟩ dL_law_198 ?_
              refine JJ.aload_n hX 2 dL_law_201 rfl ?_
              obtain ⟨q16, h16, h⟩ := bnd h
              refine JJ.callVi hX (ct_M_mine  _ _ h16) cal_yX6_mine cav_yX6_mine lm_RL_30 rfl rfl rfl (Rcv.obj hX (ci := 6) rfl rfl) (Nat.le_of_ble_eq_true rfl) ⟨by decide, by decide⟩ dL_law_202 ?_
              refine JJ.icmp_eq (tgt := 774) hX dL_law_205 (by decide) (fun c17 => ?_) (fun c17 => ?_)
              · replace h := ipos c17 h
                refine JJ.iinc (v := 5) (ls' := [(0, .ref b), (1, .ref (xad X 0)), (2, .ref (xad X 31)), (3, .int (x3 + (5 : Int32)))]) hX 3 dL_law_774 rfl (by decide) (by decide) rfl rfl ?_
                refine JJ.goto (tgt := 18) hX dL_law_777 (by decide) ?_
                exact ih _ _ _ h K
              · replace h := ineg c17 h
                refine JJ.iconst (v := 0) hX dL_law_208 (by decide) ?_
                cases h
            · replace h := ineg c14 h
              by_cases c18 : ((zs x3.toNatClampNeg) &&& (31 : Int32)) = (4 : Int32)
              · replace h := ipos c18 h
                refine JJ.tableIn (v := 4) (tgt := 210) hX c18 dL_law_32 (by decide) (by decide) rfl (by decide) ?_
                refine JJ.aload_n hX 1 dL_law_210 rfl ?_
                refine JJ.aload_n hX 0 dL_law_211 rfl ?_
                refine JJ.iload_n hX 3 dL_law_212 rfl ?_
                refine JJ.iconst (v := 1) hX dL_law_213 (by decide) ?_
                refine JJ.iadd hX dL_law_214 ?_
                obtain ⟨c19, h⟩ := gte h
                refine JJ.sld hX hs (inB_in c19) dL_law_215 ?_
                refine JJ.aload_n hX 0 dL_law_216 rfl ?_
                refine JJ.iload_n hX 3 dL_law_217 rfl ?_
                refine JJ.iconst (v := 2) hX dL_law_218 (by decide) ?_
                refine JJ.iadd hX dL_law_219 ?_
                obtain ⟨c20, h⟩ := gte h
                refine JJ.sld hX hs (inB_in c20) dL_law_220 ?_
                obtain ⟨q21, h21, h⟩ := bnd h
                refine JJ.callVi hX (ct_LT_crossing _ _ _ _ h21) cal_yX5_crossing cav_yX5_crossing lm_RL_31 rfl rfl rfl (Rcv.obj hX (ci := 5) rfl rfl) (Nat.le_of_ble_eq_true rfl) ⟨by decide, by decide⟩ dL_law_221 ?_
                refine JJ.aload_n hX 2 dL_law_224 rfl ?_
                refine JJ.aload_n hX 0 dL_law_225 rfl ?_
                refine JJ.iload_n hX 3 dL_law_226 rfl ?_
                refine JJ.iconst (v := 1) hX dL_law_227 (by decide) ?_
                refine JJ.iadd hX dL_law_228 ?_
                obtain ⟨c22, h⟩ := gte h
                refine JJ.sld hX hs (inB_in c22) dL_law_229 ?_
                refine JJ.aload_n hX 0 dL_law_230 rfl ?_
                refine JJ.iload_n hX 3 dL_law_231 rfl ?_
                refine JJ.iconst (v := 2) hX dL_law_232 (by decide) ?_
                refine JJ.iadd hX dL_law_233 ?_
                obtain ⟨c23, h⟩ := gte h
                refine JJ.sld hX hs (inB_in c23) dL_law_234 ?_
                obtain ⟨q24, h24, h⟩ := bnd h
                refine JJ.callVi hX (ct_M_crossing _ _ _ _ h24) cal_yX6_crossing cav_yX6_crossing lm_RL_35 rfl rfl rfl (Rcv.obj hX (ci := 6) rfl rfl) (Nat.le_of_ble_eq_true rfl) ⟨by decide, by decide⟩ dL_law_235 ?_
                refine JJ.icmp_eq (tgt := 774) hX dL_law_238 (by decide) (fun c25 => ?_) (fun c25 => ?_)
                · replace h := ipos c25 h
                  refine JJ.iinc (v := 5) (ls' := [(0, .ref b), (1, .ref (xad X 0)), (2, .ref (xad X 31)), (3, .int (x3 + (5 : Int32)))]) hX 3 dL_law_774 rfl (by decide) (by decide) rfl rfl ?_
                  refine JJ.goto (tgt := 18) hX dL_law_777 (by decide) ?_
                  exact ih _ _ _ h K
                · replace h := ineg c25 h
                  refine JJ.iconst (v := 0) hX dL_law_241 (by decide) ?_
                  cases h
              · replace h := ineg c18 h
                by_cases c26 : ((zs x3.toNatClampNeg) &&& (31 : Int32)) = (5 : Int32)
                · replace h := ipos c26 h
                  refine JJ.tableIn (v := 5) (tgt := 243) hX c26 dL_law_32 (by decide) (by decide) rfl (by decide) ?_
                  refine JJ.aload_n hX 1 dL_law_243 rfl ?_
                  refine JJ.aload_n hX 0 dL_law_244 rfl ?_
                  refine JJ.iload_n hX 3 dL_law_245 rfl ?_
                  refine JJ.iconst (v := 1) hX dL_law_246 (by decide) ?_
                  refine JJ.iadd hX dL_law_247 ?_
                  obtain ⟨c27, h⟩ := gte h
                  refine JJ.sld hX hs (inB_in c27) dL_law_248 ?_
                  refine JJ.aload_n hX 0 dL_law_249 rfl ?_
                  refine JJ.iload_n hX 3 dL_law_250 rfl ?_
                  refine JJ.iconst (v := 2) hX dL_law_251 (by decide) ?_
                  refine JJ.iadd hX dL_law_252 ?_
                  obtain ⟨c28, h⟩ := gte h
                  refine JJ.sld hX hs (inB_in c28) dL_law_253 ?_
                  refine JJ.callVi hX (ct_LT_as _ _ _ _ rfl) cal_yX5_as cav_yX5_as lm_RL_36 rfl rfl rfl (Rcv.obj hX (ci := 5) rfl rfl) (Nat.le_of_ble_eq_true rfl) ⟨by decide, by decide⟩ dL_law_254 ?_
                  refine JJ.aload_n hX 2 dL_law_257 rfl ?_
                  refine JJ.aload_n hX 0 dL_law_258 rfl ?_
                  refine JJ.iload_n hX 3 dL_law_259 rfl ?_
                  refine JJ.iconst (v := 1) hX dL_law_260 (by decide) ?_
                  refine JJ.iadd hX dL_law_261 ?_
                  obtain ⟨c29, h⟩ := gte h
                  refine JJ.sld hX hs (inB_in c29) dL_law_262 ?_
                  refine JJ.aload_n hX 0 dL_law_263 rfl ?_
                  refine JJ.iload_n hX 3 dL_law_264 rfl ?_
                  refine JJ.iconst (v := 2) hX dL_law_265 (by decide) ?_
                  refine JJ.iadd hX dL_law_266 ?_
                  obtain ⟨c30, h⟩ := gte h
                  refine JJ.sld hX hs (inB_in c30) dL_law_267 ?_
                  obtain ⟨q31, h31, h⟩ := bnd h
                  refine JJ.callVi hX (ct_M_as _ _ _ _ h31) cal_yX6_as cav_yX6_as lm_RL_39 rfl rfl rfl (Rcv.obj hX (ci := 6) rfl rfl) (Nat.le_of_ble_eq_true rfl) ⟨by decide, by decide⟩ dL_law_268 ?_
                  refine JJ.icmp_eq (tgt := 774) hX dL_law_271 (by decide) (fun c32 => ?_) (fun c32 => ?_)
                  · replace h := ipos c32 h
                    refine JJ.iinc (v := 5) (ls' := [(0, .ref b), (1, .ref (xad X 0)), (2, .ref (xad X 31)), (3, .int (x3 + (5 : Int32)))]) hX 3 dL_law_774 rfl (by decide) (by decide) rfl rfl ?_
                    refine JJ.goto (tgt := 18) hX dL_law_777 (by decide) ?_
                    exact ih _ _ _ h K
                  · replace h := ineg c32 h
                    refine JJ.iconst (v := 0) hX dL_law_274 (by decide) ?_
                    cases h
                · replace h := ineg c26 h
                  by_cases c33 : ((zs x3.toNatClampNeg) &&& (31 : Int32)) = (6 : Int32)
                  · replace h := ipos c33 h
                    refine JJ.tableIn (v := 6) (tgt := 276) hX c33 dL_law_32 (by decide) (by decide) rfl (by decide) ?_
                    refine JJ.aload_n hX 1 dL_law_276 rfl ?_
                    refine JJ.aload_n hX 0 dL_law_277 rfl ?_
                    refine JJ.iload_n hX 3 dL_law_278 rfl ?_
                    refine JJ.iconst (v := 1) hX dL_law_279 (by decide) ?_
                    refine JJ.iadd hX dL_law_280 ?_
                    obtain ⟨c34, h⟩ := gte h
                    refine JJ.sld hX hs (inB_in c34) dL_law_281 ?_
                    refine JJ.callVi hX (ct_LT_party _ _ _ rfl) cal_yX5_party cav_yX5_party lm_RL_40 rfl rfl rfl (Rcv.obj hX (ci := 5) rfl rfl) (Nat.le_of_ble_eq_true rfl) ⟨by decide, by decide⟩ dL_law_282 ?_
                    refine JJ.aload_n hX 2 dL_law_285 rfl ?_
                    refine JJ.aload_n hX 0 dL_law_286 rfl ?_
                    refine JJ.iload_n hX 3 dL_law_287 rfl ?_
                    refine JJ.iconst (v := 1) hX dL_law_288 (by decide) ?_
                    refine JJ.iadd hX dL_law_289 ?_
                    obtain ⟨c35, h⟩ := gte h
                    refine JJ.sld hX hs (inB_in c35) dL_law_290 ?_
                    obtain ⟨q36, h36, h⟩ := bnd h
                    refine JJ.callVi hX (ct_M_party _ _ _ h36) cal_yX6_party cav_yX6_party lm_RL_43 rfl rfl rfl (Rcv.obj hX (ci := 6) rfl rfl) (Nat.le_of_ble_eq_true rfl) ⟨by decide, by decide⟩ dL_law_291 ?_
                    refine JJ.icmp_eq (tgt := 774) hX dL_law_294 (by decide) (fun c37 => ?_) (fun c37 => ?_)
                    · replace h := ipos c37 h
                      refine JJ.iinc (v := 5) (ls' := [(0, .ref b), (1, .ref (xad X 0)), (2, .ref (xad X 31)), (3, .int (x3 + (5 : Int32)))]) hX 3 dL_law_774 rfl (by decide) (by decide) rfl rfl ?_
                      refine JJ.goto (tgt := 18) hX dL_law_777 (by decide) ?_
                      exact ih _ _ _ h K
                    · replace h := ineg c37 h
                      refine JJ.iconst (v := 0) hX dL_law_297 (by decide) ?_
                      cases h
                  · replace h := ineg c33 h
                    by_cases c38 : ((zs x3.toNatClampNeg) &&& (31 : Int32)) = (7 : Int32)
                    · replace h := ipos c38 h
                      refine JJ.tableIn (v := 7) (tgt := 299) hX c38 dL_law_32 (by decide) (by decide) rfl (by decide) ?_
                      refine JJ.aload_n hX 1 dL_law_299 rfl ?_
                      refine JJ.aload_n hX 0 dL_law_300 rfl ?_
                      refine JJ.iload_n hX 3 dL_law_301 rfl ?_
                      refine JJ.iconst (v := 1) hX dL_law_302 (by decide) ?_
                      refine JJ.iadd hX dL_law_303 ?_
                      obtain ⟨c39, h⟩ := gte h
                      refine JJ.sld hX hs (inB_in c39) dL_law_304 ?_
                      refine JJ.aload_n hX 0 dL_law_305 rfl ?_
                      refine JJ.iload_n hX 3 dL_law_306 rfl ?_
                      refine JJ.iconst (v := 2) hX dL_law_307 (by decide) ?_
                      refine JJ.iadd hX dL_law_308 ?_
                      obtain ⟨c40, h⟩ := gte h
                      refine JJ.sld hX hs (inB_in c40) dL_law_309 ?_
                      refine JJ.callVi hX (ct_LT_about _ _ _ _ rfl) cal_yX5_about cav_yX5_about lm_RL_44 rfl rfl rfl (Rcv.obj hX (ci := 5) rfl rfl) (Nat.le_of_ble_eq_true rfl) ⟨by decide, by decide⟩ dL_law_310 ?_
                      refine JJ.aload_n hX 2 dL_law_313 rfl ?_
                      refine JJ.aload_n hX 0 dL_law_314 rfl ?_
                      refine JJ.iload_n hX 3 dL_law_315 rfl ?_
                      refine JJ.iconst (v := 1) hX dL_law_316 (by decide) ?_
                      refine JJ.iadd hX dL_law_317 ?_
                      obtain ⟨c41, h⟩ := gte h
                      refine JJ.sld hX hs (inB_in c41) dL_law_318 ?_
                      refine JJ.aload_n hX 0 dL_law_319 rfl ?_
                      refine JJ.iload_n hX 3 dL_law_320 rfl ?_
                      refine JJ.iconst (v := 2) hX dL_law_321 (by decide) ?_
                      refine JJ.iadd hX dL_law_322 ?_
                      obtain ⟨c42, h⟩ := gte h
                      refine JJ.sld hX hs (inB_in c42) dL_law_323 ?_
                      obtain ⟨q43, h43, h⟩ := bnd h
                      refine JJ.callVi hX (ct_M_about _ _ _ _ h43) cal_yX6_about cav_yX6_about lm_RL_47 rfl rfl rfl (Rcv.obj hX (ci := 6) rfl rfl) (Nat.le_of_ble_eq_true rfl) ⟨by decide, by decide⟩ dL_law_324 ?_
                      refine JJ.icmp_eq (tgt := 774) hX dL_law_327 (by decide) (fun c44 => ?_) (fun c44 => ?_)
                      · replace h := ipos c44 h
                        refine JJ.iinc (v := 5) (ls' := [(0, .ref b), (1, .ref (xad X 0)), (2, .ref (xad X 31)), (3, .int (x3 + (5 : Int32)))]) hX 3 dL_law_774 rfl (by decide) (by decide) rfl rfl ?_
                        refine JJ.goto (tgt := 18) hX dL_law_777 (by decide) ?_
                        exact ih _ _ _ h K
                      · replace h := ineg c44 h
                        refine JJ.iconst (v := 0) hX dL_law_330 (by decide) ?_
                        cases h
                    · replace h := ineg c38 h
                      by_cases c45 : ((zs x3.toNatClampNeg) &&& (31 : Int32)) = (8 : Int32)
                      · replace h := ipos c45 h
                        refine JJ.tableIn (v := 8) (tgt := 332) hX c45 dL_law_32 (by decide) (by decide) rfl (by decide) ?_
                        refine JJ.aload_n hX 1 dL_law_332 rfl ?_
                        refine JJ.aload_n hX 0 dL_law_333 rfl ?_
                        refine JJ.iload_n hX 3 dL_law_334 rfl ?_
                        refine JJ.iconst (v := 1) hX dL_law_335 (by decide) ?_
                        refine JJ.iadd hX dL_law_336 ?_
                        obtain ⟨c46, h⟩ := gte h
                        refine JJ.sld hX hs (inB_in c46) dL_law_337 ?_
                        refine JJ.aload_n hX 0 dL_law_338 rfl ?_
                        refine JJ.iload_n hX 3 dL_law_339 rfl ?_
                        refine JJ.iconst (v := 2) hX dL_law_340 (by decide) ?_
                        refine JJ.iadd hX dL_law_341 ?_
                        obtain ⟨c47, h⟩ := gte h
                        refine JJ.sld hX hs (inB_in c47) dL_law_342 ?_
                        refine JJ.callVi hX (ct_LT_step _ _ _ _ rfl) cal_yX5_step cav_yX5_step lm_RL_48 rfl rfl rfl (Rcv.obj hX (ci := 5) rfl rfl) (Nat.le_of_ble_eq_true rfl) ⟨by decide, by decide⟩ dL_law_343 ?_
                        refine JJ.aload_n hX 2 dL_law_346 rfl ?_
                        refine JJ.aload_n hX 0 dL_law_347 rfl ?_
                        refine JJ.iload_n hX 3 dL_law_348 rfl ?_
                        refine JJ.iconst (v := 1) hX dL_law_349 (by decide) ?_
                        refine JJ.iadd hX dL_law_350 ?_
                        obtain ⟨c48, h⟩ := gte h
                        refine JJ.sld hX hs (inB_in c48) dL_law_351 ?_
                        refine JJ.aload_n hX 0 dL_law_352 rfl ?_
                        refine JJ.iload_n hX 3 dL_law_353 rfl ?_
                        refine JJ.iconst (v := 2) hX dL_law_354 (by decide) ?_
                        refine JJ.iadd hX dL_law_355 ?_
                        obtain ⟨c49, h⟩ := gte h
                        refine JJ.sld hX hs (inB_in c49) dL_law_356 ?_
                        obtain ⟨q50, h50, h⟩ := bnd h
                        refine JJ.callVi hX (ct_M_step _ _ _ _ h50) cal_yX6_step cav_yX6_step lm_RL_51 rfl rfl rfl (Rcv.obj hX (ci := 6) rfl rfl) (Nat.le_of_ble_eq_true rfl) ⟨by decide, by decide⟩ dL_law_357 ?_
                        refine JJ.icmp_eq (tgt := 774) hX dL_law_360 (by decide) (fun c51 => ?_) (fun c51 => ?_)
                        · replace h := ipos c51 h
                          refine JJ.iinc (v := 5) (ls' := [(0, .ref b), (1, .ref (xad X 0)), (2, .ref (xad X 31)), (3, .int (x3 + (5 : Int32)))]) hX 3 dL_law_774 rfl (by decide) (by decide) rfl rfl ?_
                          refine JJ.goto (tgt := 18) hX dL_law_777 (by decide) ?_
                          exact ih _ _ _ h K
                        · replace h := ineg c51 h
                          refine JJ.iconst (v := 0) hX dL_law_363 (by decide) ?_
                          cases h
                      · replace h := ineg c45 h
                        by_cases c52 : ((zs x3.toNatClampNeg) &&& (31 : Int32)) = (9 : Int32)
                        · replace h := ipos c52 h
                          refine JJ.tableIn (v := 9) (tgt := 365) hX c52 dL_law_32 (by decide) (by decide) rfl (by decide) ?_
                          refine JJ.aload_n hX 1 dL_law_365 rfl ?_
                          refine JJ.aload_n hX 0 dL_law_366 rfl ?_
                          refine JJ.iload_n hX 3 dL_law_367 rfl ?_
                          refine JJ.iconst (v := 1) hX dL_law_368 (by decide) ?_
                          refine JJ.iadd hX dL_law_369 ?_
                          obtain ⟨c53, h⟩ := gte h
                          refine JJ.sld hX hs (inB_in c53) dL_law_370 ?_
                          refine JJ.callVi hX (ct_LT_speak _ _ _ rfl) cal_yX5_speak cav_yX5_speak lm_RL_52 rfl rfl rfl (Rcv.obj hX (ci := 5) rfl rfl) (Nat.le_of_ble_eq_true rfl) ⟨by decide, by decide⟩ dL_law_371 ?_
                          refine JJ.aload_n hX 2 dL_law_374 rfl ?_
                          refine JJ.aload_n hX 0 dL_law_375 rfl ?_
                          refine JJ.iload_n hX 3 dL_law_376 rfl ?_
                          refine JJ.iconst (v := 1) hX dL_law_377 (by decide) ?_
                          refine JJ.iadd hX dL_law_378 ?_
                          obtain ⟨c54, h⟩ := gte h
                          refine JJ.sld hX hs (inB_in c54) dL_law_379 ?_
                          obtain ⟨q55, h55, h⟩ := bnd h
                          refine JJ.callVi hX (ct_M_speak _ _ _ h55) cal_yX6_speak cav_yX6_speak lm_RL_55 rfl rfl rfl (Rcv.obj hX (ci := 6) rfl rfl) (Nat.le_of_ble_eq_true rfl) ⟨by decide, by decide⟩ dL_law_380 ?_
                          refine JJ.icmp_eq (tgt := 774) hX dL_law_383 (by decide) (fun c56 => ?_) (fun c56 => ?_)
                          · replace h := ipos c56 h
                            refine JJ.iinc (v := 5) (ls' := [(0, .ref b), (1, .ref (xad X 0)), (2, .ref (xad X 31)), (3, .int (x3 + (5 : Int32)))]) hX 3 dL_law_774 rfl (by decide) (by decide) rfl rfl ?_
                            refine JJ.goto (tgt := 18) hX dL_law_777 (by decide) ?_
                            exact ih _ _ _ h K
                          · replace h := ineg c56 h
                            refine JJ.iconst (v := 0) hX dL_law_386 (by decide) ?_
                            cases h
                        · replace h := ineg c52 h
                          by_cases c57 : ((zs x3.toNatClampNeg) &&& (31 : Int32)) = (10 : Int32)
                          · replace h := ipos c57 h
                            refine JJ.tableIn (v := 10) (tgt := 388) hX c57 dL_law_32 (by decide) (by decide) rfl (by decide) ?_
                            refine JJ.aload_n hX 1 dL_law_388 rfl ?_
                            refine JJ.aload_n hX 0 dL_law_389 rfl ?_
                            refine JJ.iload_n hX 3 dL_law_390 rfl ?_
                            refine JJ.iconst (v := 1) hX dL_law_391 (by decide) ?_
                            refine JJ.iadd hX dL_law_392 ?_
                            obtain ⟨c58, h⟩ := gte h
                            refine JJ.sld hX hs (inB_in c58) dL_law_393 ?_
                            refine JJ.callVi hX (ct_LT_look _ _ _ rfl) cal_yX5_look cav_yX5_look lm_RL_56 rfl rfl rfl (Rcv.obj hX (ci := 5) rfl rfl) (Nat.le_of_ble_eq_true rfl) ⟨by decide, by decide⟩ dL_law_394 ?_
                            refine JJ.aload_n hX 2 dL_law_397 rfl ?_
                            refine JJ.aload_n hX 0 dL_law_398 rfl ?_
                            refine JJ.iload_n hX 3 dL_law_399 rfl ?_
                            refine JJ.iconst (v := 1) hX dL_law_400 (by decide) ?_
                            refine JJ.iadd hX dL_law_401 ?_
                            obtain ⟨c59, h⟩ := gte h
                            refine JJ.sld hX hs (inB_in c59) dL_law_402 ?_
                            obtain ⟨q60, h60, h⟩ := bnd h
                            refine JJ.callVi hX (ct_M_look _ _ _ h60) cal_yX6_look cav_yX6_look lm_RL_59 rfl rfl rfl (Rcv.obj hX (ci := 6) rfl rfl) (Nat.le_of_ble_eq_true rfl) ⟨by decide, by decide⟩ dL_law_403 ?_
                            refine JJ.icmp_eq (tgt := 774) hX dL_law_406 (by decide) (fun c61 => ?_) (fun c61 => ?_)
                            · replace h := ipos c61 h
                              refine JJ.iinc (v := 5) (ls' := [(0, .ref b), (1, .ref (xad X 0)), (2, .ref (xad X 31)), (3, .int (x3 + (5 : Int32)))]) hX 3 dL_law_774 rfl (by decide) (by decide) rfl rfl ?_
                              refine JJ.goto (tgt := 18) hX dL_law_777 (by decide) ?_
                              exact ih _ _ _ h K
                            · replace h := ineg c61 h
                              refine JJ.iconst (v := 0) hX dL_law_409 (by decide) ?_
                              cases h
                          · replace h := ineg c57 h
                            by_cases c62 : ((zs x3.toNatClampNeg) &&& (31 : Int32)) = (11 : Int32)
                            · replace h := ipos c62 h
                              refine JJ.tableIn (v := 11) (tgt := 411) hX c62 dL_law_32 (by decide) (by decide) rfl (by decide) ?_
                              refine JJ.aload_n hX 1 dL_law_411 rfl ?_
                              refine JJ.aload_n hX 0 dL_law_412 rfl ?_
                              refine JJ.iload_n hX 3 dL_law_413 rfl ?_
                              refine JJ.iconst (v := 1) hX dL_law_414 (by decide) ?_
                              refine JJ.iadd hX dL_law_415 ?_
                              obtain ⟨c63, h⟩ := gte h
                              refine JJ.sld hX hs (inB_in c63) dL_law_416 ?_
                              refine JJ.callVi hX (ct_LT_fill _ _ _ rfl) cal_yX5_fill cav_yX5_fill lm_RL_60 rfl rfl rfl (Rcv.obj hX (ci := 5) rfl rfl) (Nat.le_of_ble_eq_true rfl) ⟨by decide, by decide⟩ dL_law_417 ?_
                              refine JJ.aload_n hX 2 dL_law_420 rfl ?_
                              refine JJ.aload_n hX 0 dL_law_421 rfl ?_
                              refine JJ.iload_n hX 3 dL_law_422 rfl ?_
                              refine JJ.iconst (v := 1) hX dL_law_423 (by decide) ?_
                              refine JJ.iadd hX dL_law_424 ?_
                              obtain ⟨c64, h⟩ := gte h
                              refine JJ.sld hX hs (inB_in c64) dL_law_425 ?_
                              obtain ⟨q65, h65, h⟩ := bnd h
                              refine JJ.callVi hX (ct_M_fill _ _ _ h65) cal_yX6_fill cav_yX6_fill lm_RL_63 rfl rfl rfl (Rcv.obj hX (ci := 6) rfl rfl) (Nat.le_of_ble_eq_true rfl) ⟨by decide, by decide⟩ dL_law_426 ?_
                              refine JJ.icmp_eq (tgt := 774) hX dL_law_429 (by decide) (fun c66 => ?_) (fun c66 => ?_)
                              · replace h := ipos c66 h
                                refine JJ.iinc (v := 5) (ls' := [(0, .ref b), (1, .ref (xad X 0)), (2, .ref (xad X 31)), (3, .int (x3 + (5 : Int32)))]) hX 3 dL_law_774 rfl (by decide) (by decide) rfl rfl ?_
                                refine JJ.goto (tgt := 18) hX dL_law_777 (by decide) ?_
                                exact ih _ _ _ h K
                              · replace h := ineg c66 h
                                refine JJ.iconst (v := 0) hX dL_law_432 (by decide) ?_
                                cases h
                            · replace h := ineg c62 h
                              by_cases c67 : ((zs x3.toNatClampNeg) &&& (31 : Int32)) = (12 : Int32)
                              · replace h := ipos c67 h
                                refine JJ.tableIn (v := 12) (tgt := 434) hX c67 dL_law_32 (by decide) (by decide) rfl (by decide) ?_
                                refine JJ.aload_n hX 1 dL_law_434 rfl ?_
                                refine JJ.aload_n hX 0 dL_law_435 rfl ?_
                                refine JJ.iload_n hX 3 dL_law_436 rfl ?_
                                refine JJ.iconst (v := 1) hX dL_law_437 (by decide) ?_
                                refine JJ.iadd hX dL_law_438 ?_
                                obtain ⟨c68, h⟩ := gte h
                                refine JJ.sld hX hs (inB_in c68) dL_law_439 ?_
                                refine JJ.aload_n hX 0 dL_law_440 rfl ?_
                                refine JJ.iload_n hX 3 dL_law_441 rfl ?_
                                refine JJ.iconst (v := 2) hX dL_law_442 (by decide) ?_
                                refine JJ.iadd hX dL_law_443 ?_
                                obtain ⟨c69, h⟩ := gte h
                                refine JJ.sld hX hs (inB_in c69) dL_law_444 ?_
                                refine JJ.aload_n hX 0 dL_law_445 rfl ?_
                                refine JJ.iload_n hX 3 dL_law_446 rfl ?_
                                refine JJ.iconst (v := 3) hX dL_law_447 (by decide) ?_
                                refine JJ.iadd hX dL_law_448 ?_
                                obtain ⟨c70, h⟩ := gte h
                                refine JJ.sld hX hs (inB_in c70) dL_law_449 ?_
                                refine JJ.callVi hX (ct_LT_way _ _ _ _ _ rfl) cal_yX5_way cav_yX5_way lm_RL_64 rfl rfl rfl (Rcv.obj hX (ci := 5) rfl rfl) (Nat.le_of_ble_eq_true rfl) ⟨by decide, by decide⟩ dL_law_450 ?_
                                refine JJ.aload_n hX 2 dL_law_453 rfl ?_
                                refine JJ.aload_n hX 0 dL_law_454 rfl ?_
                                refine JJ.iload_n hX 3 dL_law_455 rfl ?_
                                refine JJ.iconst (v := 1) hX dL_law_456 (by decide) ?_
                                refine JJ.iadd hX dL_law_457 ?_
                                obtain ⟨c71, h⟩ := gte h
                                refine JJ.sld hX hs (inB_in c71) dL_law_458 ?_
                                refine JJ.aload_n hX 0 dL_law_459 rfl ?_
                                refine JJ.iload_n hX 3 dL_law_460 rfl ?_
                                refine JJ.iconst (v := 2) hX dL_law_461 (by decide) ?_
                                refine JJ.iadd hX dL_law_462 ?_
                                obtain ⟨c72, h⟩ := gte h
                                refine JJ.sld hX hs (inB_in c72) dL_law_463 ?_
                                refine JJ.aload_n hX 0 dL_law_464 rfl ?_
                                refine JJ.iload_n hX 3 dL_law_465 rfl ?_
                                refine JJ.iconst (v := 3) hX dL_law_466 (by decide) ?_
                                refine JJ.iadd hX dL_law_467 ?_
                                obtain ⟨c73, h⟩ := gte h
                                refine JJ.sld hX hs (inB_in c73) dL_law_468 ?_
                                obtain ⟨q74, h74, h⟩ := bnd h
                                refine JJ.callVi hX (ct_M_way _ _ _ _ _ h74) cal_yX6_way cav_yX6_way lm_RL_68 rfl rfl rfl (Rcv.obj hX (ci := 6) rfl rfl) (Nat.le_of_ble_eq_true rfl) ⟨by decide, by decide⟩ dL_law_469 ?_
                                refine JJ.icmp_eq (tgt := 774) hX dL_law_472 (by decide) (fun c75 => ?_) (fun c75 => ?_)
                                · replace h := ipos c75 h
                                  refine JJ.iinc (v := 5) (ls' := [(0, .ref b), (1, .ref (xad X 0)), (2, .ref (xad X 31)), (3, .int (x3 + (5 : Int32)))]) hX 3 dL_law_774 rfl (by decide) (by decide) rfl rfl ?_
                                  refine JJ.goto (tgt := 18) hX dL_law_777 (by decide) ?_
                                  exact ih _ _ _ h K
                                · replace h := ineg c75 h
                                  refine JJ.iconst (v := 0) hX dL_law_475 (by decide) ?_
                                  cases h
                              · replace h := ineg c67 h
                                by_cases c76 : ((zs x3.toNatClampNeg) &&& (31 : Int32)) = (13 : Int32)
                                · replace h := ipos c76 h
                                  refine JJ.tableIn (v := 13) (tgt := 477) hX c76 dL_law_32 (by decide) (by decide) rfl (by decide) ?_
                                  refine JJ.aload_n hX 1 dL_law_477 rfl ?_
                                  refine JJ.aload_n hX 0 dL_law_478 rfl ?_
                                  refine JJ.iload_n hX 3 dL_law_479 rfl ?_
                                  refine JJ.iconst (v := 1) hX dL_law_480 (by decide) ?_
                                  refine JJ.iadd hX dL_law_481 ?_
                                  obtain ⟨c77, h⟩ := gte h
                                  refine JJ.sld hX hs (inB_in c77) dL_law_482 ?_
                                  refine JJ.aload_n hX 0 dL_law_483 rfl ?_
                                  refine JJ.iload_n hX 3 dL_law_484 rfl ?_
                                  refine JJ.iconst (v := 2) hX dL_law_485 (by decide) ?_
                                  refine JJ.iadd hX dL_law_486 ?_
                                  obtain ⟨c78, h⟩ := gte h
                                  refine JJ.sld hX hs (inB_in c78) dL_law_487 ?_
                                  refine JJ.callVi hX (ct_LT_round _ _ _ _ rfl) cal_yX5_round cav_yX5_round lm_RL_69 rfl rfl rfl (Rcv.obj hX (ci := 5) rfl rfl) (Nat.le_of_ble_eq_true rfl) ⟨by decide, by decide⟩ dL_law_488 ?_
                                  refine JJ.aload_n hX 2 dL_law_491 rfl ?_
                                  refine JJ.aload_n hX 0 dL_law_492 rfl ?_
                                  refine JJ.iload_n hX 3 dL_law_493 rfl ?_
                                  refine JJ.iconst (v := 1) hX dL_law_494 (by decide) ?_
                                  refine JJ.iadd hX dL_law_495 ?_
                                  obtain ⟨c79, h⟩ := gte h
                                  refine JJ.sld hX hs (inB_in c79) dL_law_496 ?_
                                  refine JJ.aload_n hX 0 dL_law_497 rfl ?_
                                  refine JJ.iload_n hX 3 dL_law_498 rfl ?_
                                  refine JJ.iconst (v := 2) hX dL_law_499 (by decide) ?_
                                  refine JJ.iadd hX dL_law_500 ?_
                                  obtain ⟨c80, h⟩ := gte h
                                  refine JJ.sld hX hs (inB_in c80) dL_law_501 ?_
                                  obtain ⟨q81, h81, h⟩ := bnd h
                                  refine JJ.callVi hX (ct_M_round _ _ _ _ h81) cal_yX6_round cav_yX6_round lm_RL_72 rfl rfl rfl (Rcv.obj hX (ci := 6) rfl rfl) (Nat.le_of_ble_eq_true rfl) ⟨by decide, by decide⟩ dL_law_502 ?_
                                  refine JJ.icmp_eq (tgt := 774) hX dL_law_505 (by decide) (fun c82 => ?_) (fun c82 => ?_)
                                  · replace h := ipos c82 h
                                    refine JJ.iinc (v := 5) (ls' := [(0, .ref b), (1, .ref (xad X 0)), (2, .ref (xad X 31)), (3, .int (x3 + (5 : Int32)))]) hX 3 dL_law_774 rfl (by decide) (by decide) rfl rfl ?_
                                    refine JJ.goto (tgt := 18) hX dL_law_777 (by decide) ?_
                                    exact ih _ _ _ h K
                                  · replace h := ineg c82 h
                                    refine JJ.iconst (v := 0) hX dL_law_508 (by decide) ?_
                                    cases h
                                · replace h := ineg c76 h
                                  by_cases c83 : ((zs x3.toNatClampNeg) &&& (31 : Int32)) = (14 : Int32)
                                  · replace h := ipos c83 h
                                    refine JJ.tableIn (v := 14) (tgt := 510) hX c83 dL_law_32 (by decide) (by decide) rfl (by decide) ?_
                                    refine JJ.aload_n hX 1 dL_law_510 rfl ?_
                                    refine JJ.aload_n hX 0 dL_law_511 rfl ?_
                                    refine JJ.iload_n hX 3 dL_law_512 rfl ?_
                                    refine JJ.iconst (v := 1) hX dL_law_513 (by decide) ?_
                                    refine JJ.iadd hX dL_law_514 ?_
                                    obtain ⟨c84, h⟩ := gte h
                                    refine JJ.sld hX hs (inB_in c84) dL_law_515 ?_
                                    refine JJ.aload_n hX 0 dL_law_516 rfl ?_
                                    refine JJ.iload_n hX 3 dL_law_517 rfl ?_
                                    refine JJ.iconst (v := 2) hX dL_law_518 (by decide) ?_
                                    refine JJ.iadd hX dL_law_519 ?_
                                    obtain ⟨c85, h⟩ := gte h
                                    refine JJ.sld hX hs (inB_in c85) dL_law_520 ?_
                                    refine JJ.callVi hX (ct_LT_meet _ _ _ _ rfl) cal_yX5_meet cav_yX5_meet lm_RL_73 rfl rfl rfl (Rcv.obj hX (ci := 5) rfl rfl) (Nat.le_of_ble_eq_true rfl) ⟨by decide, by decide⟩ dL_law_521 ?_
                                    refine JJ.aload_n hX 2 dL_law_524 rfl ?_
                                    refine JJ.aload_n hX 0 dL_law_525 rfl ?_
                                    refine JJ.iload_n hX 3 dL_law_526 rfl ?_
                                    refine JJ.iconst (v := 1) hX dL_law_527 (by decide) ?_
                                    refine JJ.iadd hX dL_law_528 ?_
                                    obtain ⟨c86, h⟩ := gte h
                                    refine JJ.sld hX hs (inB_in c86) dL_law_529 ?_
                                    refine JJ.aload_n hX 0 dL_law_530 rfl ?_
                                    refine JJ.iload_n hX 3 dL_law_531 rfl ?_
                                    refine JJ.iconst (v := 2) hX dL_law_532 (by decide) ?_
                                    refine JJ.iadd hX dL_law_533 ?_
                                    obtain ⟨c87, h⟩ := gte h
                                    refine JJ.sld hX hs (inB_in c87) dL_law_534 ?_
                                    obtain ⟨q88, h88, h⟩ := bnd h
                                    refine JJ.callVi hX (ct_M_meet _ _ _ _ h88) cal_yX6_meet cav_yX6_meet lm_RL_76 rfl rfl rfl (Rcv.obj hX (ci := 6) rfl rfl) (Nat.le_of_ble_eq_true rfl) ⟨by decide, by decide⟩ dL_law_535 ?_
                                    refine JJ.icmp_eq (tgt := 774) hX dL_law_538 (by decide) (fun c89 => ?_) (fun c89 => ?_)
                                    · replace h := ipos c89 h
                                      refine JJ.iinc (v := 5) (ls' := [(0, .ref b), (1, .ref (xad X 0)), (2, .ref (xad X 31)), (3, .int (x3 + (5 : Int32)))]) hX 3 dL_law_774 rfl (by decide) (by decide) rfl rfl ?_
                                      refine JJ.goto (tgt := 18) hX dL_law_777 (by decide) ?_
                                      exact ih _ _ _ h K
                                    · replace h := ineg c89 h
                                      refine JJ.iconst (v := 0) hX dL_law_541 (by decide) ?_
                                      cases h
                                  · replace h := ineg c83 h
                                    by_cases c90 : ((zs x3.toNatClampNeg) &&& (31 : Int32)) = (15 : Int32)
                                    · replace h := ipos c90 h
                                      refine JJ.tableIn (v := 15) (tgt := 543) hX c90 dL_law_32 (by decide) (by decide) rfl (by decide) ?_
                                      refine JJ.aload_n hX 1 dL_law_543 rfl ?_
                                      refine JJ.aload_n hX 0 dL_law_544 rfl ?_
                                      refine JJ.iload_n hX 3 dL_law_545 rfl ?_
                                      refine JJ.iconst (v := 1) hX dL_law_546 (by decide) ?_
                                      refine JJ.iadd hX dL_law_547 ?_
                                      obtain ⟨c91, h⟩ := gte h
                                      refine JJ.sld hX hs (inB_in c91) dL_law_548 ?_
                                      refine JJ.aload_n hX 0 dL_law_549 rfl ?_
                                      refine JJ.iload_n hX 3 dL_law_550 rfl ?_
                                      refine JJ.iconst (v := 2) hX dL_law_551 (by decide) ?_
                                      refine JJ.iadd hX dL_law_552 ?_
                                      obtain ⟨c92, h⟩ := gte h
                                      refine JJ.sld hX hs (inB_in c92) dL_law_553 ?_
                                      refine JJ.aload_n hX 0 dL_law_554 rfl ?_
                                      refine JJ.iload_n hX 3 dL_law_555 rfl ?_
                                      refine JJ.iconst (v := 3) hX dL_law_556 (by decide) ?_
                                      refine JJ.iadd hX dL_law_557 ?_
                                      obtain ⟨c93, h⟩ := gte h
                                      refine JJ.sld hX hs (inB_in c93) dL_law_558 ?_
                                      refine JJ.callVi hX (ct_LT_apart _ _ _ _ _ rfl) cal_yX5_apart cav_yX5_apart lm_RL_77 rfl rfl rfl (Rcv.obj hX (ci := 5) rfl rfl) (Nat.le_of_ble_eq_true rfl) ⟨by decide, by decide⟩ dL_law_559 ?_
                                      refine JJ.aload_n hX 2 dL_law_562 rfl ?_
                                      refine JJ.aload_n hX 0 dL_law_563 rfl ?_
                                      refine JJ.iload_n hX 3 dL_law_564 rfl ?_
                                      refine JJ.iconst (v := 1) hX dL_law_565 (by decide) ?_
                                      refine JJ.iadd hX dL_law_566 ?_
                                      obtain ⟨c94, h⟩ := gte h
                                      refine JJ.sld hX hs (inB_in c94) dL_law_567 ?_
                                      refine JJ.aload_n hX 0 dL_law_568 rfl ?_
                                      refine JJ.iload_n hX 3 dL_law_569 rfl ?_
                                      refine JJ.iconst (v := 2) hX dL_law_570 (by decide) ?_
                                      refine JJ.iadd hX dL_law_571 ?_
                                      obtain ⟨c95, h⟩ := gte h
                                      refine JJ.sld hX hs (inB_in c95) dL_law_572 ?_
                                      refine JJ.aload_n hX 0 dL_law_573 rfl ?_
                                      refine JJ.iload_n hX 3 dL_law_574 rfl ?_
                                      refine JJ.iconst (v := 3) hX dL_law_575 (by decide) ?_
                                      refine JJ.iadd hX dL_law_576 ?_
                                      obtain ⟨c96, h⟩ := gte h
                                      refine JJ.sld hX hs (inB_in c96) dL_law_577 ?_
                                      obtain ⟨q97, h97, h⟩ := bnd h
                                      refine JJ.callVi hX (ct_M_apart _ _ _ _ _ h97) cal_yX6_apart cav_yX6_apart lm_RL_80 rfl rfl rfl (Rcv.obj hX (ci := 6) rfl rfl) (Nat.le_of_ble_eq_true rfl) ⟨by decide, by decide⟩ dL_law_578 ?_
                                      refine JJ.icmp_eq (tgt := 774) hX dL_law_581 (by decide) (fun c98 => ?_) (fun c98 => ?_)
                                      · replace h := ipos c98 h
                                        refine JJ.iinc (v := 5) (ls' := [(0, .ref b), (1, .ref (xad X 0)), (2, .ref (xad X 31)), (3, .int (x3 + (5 : Int32)))]) hX 3 dL_law_774 rfl (by decide) (by decide) rfl rfl ?_
                                        refine JJ.goto (tgt := 18) hX dL_law_777 (by decide) ?_
                                        exact ih _ _ _ h K
                                      · replace h := ineg c98 h
                                        refine JJ.iconst (v := 0) hX dL_law_584 (by decide) ?_
                                        cases h
                                    · replace h := ineg c90 h
                                      by_cases c99 : ((zs x3.toNatClampNeg) &&& (31 : Int32)) = (16 : Int32)
                                      · replace h := ipos c99 h
                                        refine JJ.tableIn (v := 16) (tgt := 586) hX c99 dL_law_32 (by decide) (by decide) rfl (by decide) ?_
                                        refine JJ.aload_n hX 1 dL_law_586 rfl ?_
                                        refine JJ.aload_n hX 0 dL_law_587 rfl ?_
                                        refine JJ.iload_n hX 3 dL_law_588 rfl ?_
                                        refine JJ.iconst (v := 1) hX dL_law_589 (by decide) ?_
                                        refine JJ.iadd hX dL_law_590 ?_
                                        obtain ⟨c100, h⟩ := gte h
                                        refine JJ.sld hX hs (inB_in c100) dL_law_591 ?_
                                        refine JJ.aload_n hX 0 dL_law_592 rfl ?_
                                        refine JJ.iload_n hX 3 dL_law_593 rfl ?_
                                        refine JJ.iconst (v := 2) hX dL_law_594 (by decide) ?_
                                        refine JJ.iadd hX dL_law_595 ?_
                                        obtain ⟨c101, h⟩ := gte h
                                        refine JJ.sld hX hs (inB_in c101) dL_law_596 ?_
                                        refine JJ.callVi hX (ct_LT_hear _ _ _ _ rfl) cal_yX5_hear cav_yX5_hear lm_RL_81 rfl rfl rfl (Rcv.obj hX (ci := 5) rfl rfl) (Nat.le_of_ble_eq_true rfl) ⟨by decide, by decide⟩ dL_law_597 ?_
                                        refine JJ.aload_n hX 2 dL_law_600 rfl ?_
                                        refine JJ.aload_n hX 0 dL_law_601 rfl ?_
                                        refine JJ.iload_n hX 3 dL_law_602 rfl ?_
                                        refine JJ.iconst (v := 1) hX dL_law_603 (by decide) ?_
                                        refine JJ.iadd hX dL_law_604 ?_
                                        obtain ⟨c102, h⟩ := gte h
                                        refine JJ.sld hX hs (inB_in c102) dL_law_605 ?_
                                        refine JJ.aload_n hX 0 dL_law_606 rfl ?_
                                        refine JJ.iload_n hX 3 dL_law_607 rfl ?_
                                        refine JJ.iconst (v := 2) hX dL_law_608 (by decide) ?_
                                        refine JJ.iadd hX dL_law_609 ?_
                                        obtain ⟨c103, h⟩ := gte h
                                        refine JJ.sld hX hs (inB_in c103) dL_law_610 ?_
                                        obtain ⟨q104, h104, h⟩ := bnd h
                                        refine JJ.callVi hX (ct_M_hear _ _ _ _ h104) cal_yX6_hear cav_yX6_hear lm_RL_84 rfl rfl rfl (Rcv.obj hX (ci := 6) rfl rfl) (Nat.le_of_ble_eq_true rfl) ⟨by decide, by decide⟩ dL_law_611 ?_
                                        refine JJ.icmp_eq (tgt := 774) hX dL_law_614 (by decide) (fun c105 => ?_) (fun c105 => ?_)
                                        · replace h := ipos c105 h
                                          refine JJ.iinc (v := 5) (ls' := [(0, .ref b), (1, .ref (xad X 0)), (2, .ref (xad X 31)), (3, .int (x3 + (5 : Int32)))]) hX 3 dL_law_774 rfl (by decide) (by decide) rfl rfl ?_
                                          refine JJ.goto (tgt := 18) hX dL_law_777 (by decide) ?_
                                          exact ih _ _ _ h K
                                        · replace h := ineg c105 h
                                          refine JJ.iconst (v := 0) hX dL_law_617 (by decide) ?_
                                          cases h
                                      · replace h := ineg c99 h
                                        by_cases c106 : ((zs x3.toNatClampNeg) &&& (31 : Int32)) = (17 : Int32)
                                        · replace h := ipos c106 h
                                          refine JJ.tableIn (v := 17) (tgt := 619) hX c106 dL_law_32 (by decide) (by decide) rfl (by decide) ?_
                                          refine JJ.aload_n hX 1 dL_law_619 rfl ?_
                                          refine JJ.callVi hX (ct_LT_forget  _ _ rfl) cal_yX5_forget cav_yX5_forget lm_RL_85 rfl rfl rfl (Rcv.obj hX (ci := 5) rfl rfl) (Nat.le_of_ble_eq_true rfl) ⟨by decide, by decide⟩ dL_law_620 ?_
                                          refine JJ.aload_n hX 2 dL_law_623 rfl ?_
                                          refine JJ.callVi hX (ct_M_forget  _ _ rfl) cal_yX6_forget cav_yX6_forget lm_RL_88 rfl rfl rfl (Rcv.obj hX (ci := 6) rfl rfl) (Nat.le_of_ble_eq_true rfl) ⟨by decide, by decide⟩ dL_law_624 ?_
                                          refine JJ.icmp_eq (tgt := 774) hX dL_law_627 (by decide) (fun c107 => ?_) (fun c107 => ?_)
                                          · replace h := ipos c107 h
                                            refine JJ.iinc (v := 5) (ls' := [(0, .ref b), (1, .ref (xad X 0)), (2, .ref (xad X 31)), (3, .int (x3 + (5 : Int32)))]) hX 3 dL_law_774 rfl (by decide) (by decide) rfl rfl ?_
                                            refine JJ.goto (tgt := 18) hX dL_law_777 (by decide) ?_
                                            exact ih _ _ _ h K
                                          · replace h := ineg c107 h
                                            refine JJ.iconst (v := 0) hX dL_law_630 (by decide) ?_
                                            cases h
                                        · replace h := ineg c106 h
                                          by_cases c108 : ((zs x3.toNatClampNeg) &&& (31 : Int32)) = (18 : Int32)
                                          · replace h := ipos c108 h
                                            refine JJ.tableIn (v := 18) (tgt := 632) hX c108 dL_law_32 (by decide) (by decide) rfl (by decide) ?_
                                            refine JJ.aload_n hX 1 dL_law_632 rfl ?_
                                            obtain ⟨q109, h109, h⟩ := bnd h
                                            refine JJ.callVi hX (ct_LT_where  _ _ h109) cal_yX5_where cav_yX5_where lm_RL_89 rfl rfl rfl (Rcv.obj hX (ci := 5) rfl rfl) (Nat.le_of_ble_eq_true rfl) ⟨by decide, by decide⟩ dL_law_633 ?_
                                            refine JJ.aload_n hX 2 dL_law_636 rfl ?_
                                            obtain ⟨q110, h110, h⟩ := bnd h
                                            refine JJ.callVi hX (ct_M_where  _ _ h110) cal_yX6_where cav_yX6_where lm_RL_92 rfl rfl rfl (Rcv.obj hX (ci := 6) rfl rfl) (Nat.le_of_ble_eq_true rfl) ⟨by decide, by decide⟩ dL_law_637 ?_
                                            refine JJ.icmp_eq (tgt := 774) hX dL_law_640 (by decide) (fun c111 => ?_) (fun c111 => ?_)
                                            · replace h := ipos c111 h
                                              refine JJ.iinc (v := 5) (ls' := [(0, .ref b), (1, .ref (xad X 0)), (2, .ref (xad X 31)), (3, .int (x3 + (5 : Int32)))]) hX 3 dL_law_774 rfl (by decide) (by decide) rfl rfl ?_
                                              refine JJ.goto (tgt := 18) hX dL_law_777 (by decide) ?_
                                              exact ih _ _ _ h K
                                            · replace h := ineg c111 h
                                              refine JJ.iconst (v := 0) hX dL_law_643 (by decide) ?_
                                              cases h
                                          · replace h := ineg c108 h
                                            by_cases c112 : ((zs x3.toNatClampNeg) &&& (31 : Int32)) = (19 : Int32)
                                            · replace h := ipos c112 h
                                              refine JJ.tableIn (v := 19) (tgt := 645) hX c112 dL_law_32 (by decide) (by decide) rfl (by decide) ?_
                                              refine JJ.aload_n hX 1 dL_law_645 rfl ?_
                                              obtain ⟨q113, h113, h⟩ := bnd h
                                              refine JJ.callVi hX (ct_LT_next  _ _ h113) cal_yX5_next cav_yX5_next lm_RL_93 rfl rfl rfl (Rcv.obj hX (ci := 5) rfl rfl) (Nat.le_of_ble_eq_true rfl) ⟨by decide, by decide⟩ dL_law_646 ?_
                                              refine JJ.aload_n hX 2 dL_law_649 rfl ?_
                                              obtain ⟨q114, h114, h⟩ := bnd h
                                              refine JJ.callVi hX (ct_M_next  _ _ h114) cal_yX6_next cav_yX6_next lm_RL_96 rfl rfl rfl (Rcv.obj hX (ci := 6) rfl rfl) (Nat.le_of_ble_eq_true rfl) ⟨by decide, by decide⟩ dL_law_650 ?_
                                              refine JJ.icmp_eq (tgt := 774) hX dL_law_653 (by decide) (fun c115 => ?_) (fun c115 => ?_)
                                              · replace h := ipos c115 h
                                                refine JJ.iinc (v := 5) (ls' := [(0, .ref b), (1, .ref (xad X 0)), (2, .ref (xad X 31)), (3, .int (x3 + (5 : Int32)))]) hX 3 dL_law_774 rfl (by decide) (by decide) rfl rfl ?_
                                                refine JJ.goto (tgt := 18) hX dL_law_777 (by decide) ?_
                                                exact ih _ _ _ h K
                                              · replace h := ineg c115 h
                                                refine JJ.iconst (v := 0) hX dL_law_656 (by decide) ?_
                                                cases h
                                            · replace h := ineg c112 h
                                              by_cases c116 : ((zs x3.toNatClampNeg) &&& (31 : Int32)) = (20 : Int32)
                                              · replace h := ipos c116 h
                                                refine JJ.tableIn (v := 20) (tgt := 658) hX c116 dL_law_32 (by decide) (by decide) rfl (by decide) ?_
                                                refine JJ.aload_n hX 1 dL_law_658 rfl ?_
                                                refine JJ.aload_n hX 0 dL_law_659 rfl ?_
                                                refine JJ.iload_n hX 3 dL_law_660 rfl ?_
                                                refine JJ.iconst (v := 1) hX dL_law_661 (by decide) ?_
                                                refine JJ.iadd hX dL_law_662 ?_
                                                obtain ⟨c117, h⟩ := gte h
                                                refine JJ.sld hX hs (inB_in c117) dL_law_663 ?_
                                                refine JJ.aload_n hX 0 dL_law_664 rfl ?_
                                                refine JJ.iload_n hX 3 dL_law_665 rfl ?_
                                                refine JJ.iconst (v := 2) hX dL_law_666 (by decide) ?_
                                                refine JJ.iadd hX dL_law_667 ?_
                                                obtain ⟨c118, h⟩ := gte h
                                                refine JJ.sld hX hs (inB_in c118) dL_law_668 ?_
                                                refine JJ.aload_n hX 0 dL_law_669 rfl ?_
                                                refine JJ.iload_n hX 3 dL_law_670 rfl ?_
                                                refine JJ.iconst (v := 3) hX dL_law_671 (by decide) ?_
                                                refine JJ.iadd hX dL_law_672 ?_
                                                obtain ⟨c119, h⟩ := gte h
                                                refine JJ.sld hX hs (inB_in c119) dL_law_673 ?_
                                                refine JJ.aload_n hX 0 dL_law_674 rfl ?_
                                                refine JJ.iload_n hX 3 dL_law_675 rfl ?_
                                                refine JJ.iconst (v := 4) hX dL_law_676 (by decide) ?_
                                                refine JJ.iadd hX dL_law_677 ?_
                                                obtain ⟨c120, h⟩ := gte h
                                                refine JJ.sld hX hs (inB_in c120) dL_law_678 ?_
                                                obtain ⟨q121, h121, h⟩ := bnd h
                                                refine JJ.callVi hX (ct_LT_walks _ _ _ _ _ _ h121) cal_yX5_walks cav_yX5_walks lm_RL_97 rfl rfl rfl (Rcv.obj hX (ci := 5) rfl rfl) (Nat.le_of_ble_eq_true rfl) ⟨by decide, by decide⟩ dL_law_679 ?_
                                                refine JJ.aload_n hX 2 dL_law_682 rfl ?_
                                                refine JJ.aload_n hX 0 dL_law_683 rfl ?_
                                                refine JJ.iload_n hX 3 dL_law_684 rfl ?_
                                                refine JJ.iconst (v := 1) hX dL_law_685 (by decide) ?_
                                                refine JJ.iadd hX dL_law_686 ?_
                                                obtain ⟨c122, h⟩ := gte h
                                                refine JJ.sld hX hs (inB_in c122) dL_law_687 ?_
                                                refine JJ.aload_n hX 0 dL_law_688 rfl ?_
                                                refine JJ.iload_n hX 3 dL_law_689 rfl ?_
                                                refine JJ.iconst (v := 2) hX dL_law_690 (by decide) ?_
                                                refine JJ.iadd hX dL_law_691 ?_
                                                obtain ⟨c123, h⟩ := gte h
                                                refine JJ.sld hX hs (inB_in c123) dL_law_692 ?_
                                                refine JJ.aload_n hX 0 dL_law_693 rfl ?_
                                                refine JJ.iload_n hX 3 dL_law_694 rfl ?_
                                                refine JJ.iconst (v := 3) hX dL_law_695 (by decide) ?_
                                                refine JJ.iadd hX dL_law_696 ?_
                                                obtain ⟨c124, h⟩ := gte h
                                                refine JJ.sld hX hs (inB_in c124) dL_law_697 ?_
                                                refine JJ.aload_n hX 0 dL_law_698 rfl ?_
                                                refine JJ.iload_n hX 3 dL_law_699 rfl ?_
                                                refine JJ.iconst (v := 4) hX dL_law_700 (by decide) ?_
                                                refine JJ.iadd hX dL_law_701 ?_
                                                obtain ⟨c125, h⟩ := gte h
                                                refine JJ.sld hX hs (inB_in c125) dL_law_702 ?_
                                                obtain ⟨q126, h126, h⟩ := bnd h
                                                refine JJ.callVi hX (ct_M_walks _ _ _ _ _ _ h126) cal_yX6_walks cav_yX6_walks lm_RL_101 rfl rfl rfl (Rcv.obj hX (ci := 6) rfl rfl) (Nat.le_of_ble_eq_true rfl) ⟨by decide, by decide⟩ dL_law_703 ?_
                                                refine JJ.icmp_eq (tgt := 774) hX dL_law_706 (by decide) (fun c127 => ?_) (fun c127 => ?_)
                                                · replace h := ipos c127 h
                                                  refine JJ.iinc (v := 5) (ls' := [(0, .ref b), (1, .ref (xad X 0)), (2, .ref (xad X 31)), (3, .int (x3 + (5 : Int32)))]) hX 3 dL_law_774 rfl (by decide) (by decide) rfl rfl ?_
                                                  refine JJ.goto (tgt := 18) hX dL_law_777 (by decide) ?_
                                                  exact ih _ _ _ h K
                                                · replace h := ineg c127 h
                                                  refine JJ.iconst (v := 0) hX dL_law_709 (by decide) ?_
                                                  cases h
                                              · replace h := ineg c116 h
                                                by_cases c128 : ((zs x3.toNatClampNeg) &&& (31 : Int32)) = (21 : Int32)
                                                · replace h := ipos c128 h
                                                  refine JJ.tableIn (v := 21) (tgt := 711) hX c128 dL_law_32 (by decide) (by decide) rfl (by decide) ?_
                                                  refine JJ.aload_n hX 1 dL_law_711 rfl ?_
                                                  obtain ⟨q129, h129, h⟩ := bnd h
                                                  refine JJ.callVi hX (ct_LT_image  _ _ h129) cal_yX5_image cav_yX5_image lm_RL_102 rfl rfl rfl (Rcv.obj hX (ci := 5) rfl rfl) (Nat.le_of_ble_eq_true rfl) ⟨by decide, by decide⟩ dL_law_712 ?_
                                                  refine JJ.aload_n hX 2 dL_law_715 rfl ?_
                                                  obtain ⟨q130, h130, h⟩ := bnd h
                                                  refine JJ.callVi hX (ct_M_image  _ _ h130) cal_yX6_image cav_yX6_image lm_RL_105 rfl rfl rfl (Rcv.obj hX (ci := 6) rfl rfl) (Nat.le_of_ble_eq_true rfl) ⟨by decide, by decide⟩ dL_law_716 ?_
                                                  refine JJ.icmp_eq (tgt := 774) hX dL_law_719 (by decide) (fun c131 => ?_) (fun c131 => ?_)
                                                  · replace h := ipos c131 h
                                                    refine JJ.iinc (v := 5) (ls' := [(0, .ref b), (1, .ref (xad X 0)), (2, .ref (xad X 31)), (3, .int (x3 + (5 : Int32)))]) hX 3 dL_law_774 rfl (by decide) (by decide) rfl rfl ?_
                                                    refine JJ.goto (tgt := 18) hX dL_law_777 (by decide) ?_
                                                    exact ih _ _ _ h K
                                                  · replace h := ineg c131 h
                                                    refine JJ.iconst (v := 0) hX dL_law_722 (by decide) ?_
                                                    cases h
                                                · replace h := ineg c128 h
                                                  by_cases c132 : ((zs x3.toNatClampNeg) &&& (31 : Int32)) = (22 : Int32)
                                                  · replace h := ipos c132 h
                                                    refine JJ.tableIn (v := 22) (tgt := 724) hX c132 dL_law_32 (by decide) (by decide) rfl (by decide) ?_
                                                    refine JJ.aload_n hX 1 dL_law_724 rfl ?_
                                                    obtain ⟨q133, h133, h⟩ := bnd h
                                                    refine JJ.callVi hX (ct_LT_restore  _ _ h133) cal_yX5_restore cav_yX5_restore lm_RL_106 rfl rfl rfl (Rcv.obj hX (ci := 5) rfl rfl) (Nat.le_of_ble_eq_true rfl) ⟨by decide, by decide⟩ dL_law_725 ?_
                                                    refine JJ.aload_n hX 2 dL_law_728 rfl ?_
                                                    obtain ⟨q134, h134, h⟩ := bnd h
                                                    refine JJ.callVi hX (ct_M_restore  _ _ h134) cal_yX6_restore cav_yX6_restore lm_RL_109 rfl rfl rfl (Rcv.obj hX (ci := 6) rfl rfl) (Nat.le_of_ble_eq_true rfl) ⟨by decide, by decide⟩ dL_law_729 ?_
                                                    refine JJ.icmp_eq (tgt := 774) hX dL_law_732 (by decide) (fun c135 => ?_) (fun c135 => ?_)
                                                    · replace h := ipos c135 h
                                                      refine JJ.iinc (v := 5) (ls' := [(0, .ref b), (1, .ref (xad X 0)), (2, .ref (xad X 31)), (3, .int (x3 + (5 : Int32)))]) hX 3 dL_law_774 rfl (by decide) (by decide) rfl rfl ?_
                                                      refine JJ.goto (tgt := 18) hX dL_law_777 (by decide) ?_
                                                      exact ih _ _ _ h K
                                                    · replace h := ineg c135 h
                                                      refine JJ.iconst (v := 0) hX dL_law_735 (by decide) ?_
                                                      cases h
                                                  · replace h := ineg c132 h
                                                    by_cases c136 : ((zs x3.toNatClampNeg) &&& (31 : Int32)) = (23 : Int32)
                                                    · replace h := ipos c136 h
                                                      refine JJ.tableIn (v := 23) (tgt := 737) hX c136 dL_law_32 (by decide) (by decide) rfl (by decide) ?_
                                                      refine JJ.aload_n hX 1 dL_law_737 rfl ?_
                                                      refine JJ.aload_n hX 0 dL_law_738 rfl ?_
                                                      refine JJ.iload_n hX 3 dL_law_739 rfl ?_
                                                      refine JJ.iconst (v := 1) hX dL_law_740 (by decide) ?_
                                                      refine JJ.iadd hX dL_law_741 ?_
                                                      obtain ⟨c137, h⟩ := gte h
                                                      refine JJ.sld hX hs (inB_in c137) dL_law_742 ?_
                                                      obtain ⟨q138, h138, h⟩ := bnd h
                                                      refine JJ.callVi hX (ct_LT_count _ _ _ h138) cal_yX5_count cav_yX5_count lm_RL_110 rfl rfl rfl (Rcv.obj hX (ci := 5) rfl rfl) (Nat.le_of_ble_eq_true rfl) ⟨by decide, by decide⟩ dL_law_743 ?_
                                                      refine JJ.aload_n hX 2 dL_law_746 rfl ?_
                                                      refine JJ.aload_n hX 0 dL_law_747 rfl ?_
                                                      refine JJ.iload_n hX 3 dL_law_748 rfl ?_
                                                      refine JJ.iconst (v := 1) hX dL_law_749 (by decide) ?_
                                                      refine JJ.iadd hX dL_law_750 ?_
                                                      obtain ⟨c139, h⟩ := gte h
                                                      refine JJ.sld hX hs (inB_in c139) dL_law_751 ?_
                                                      obtain ⟨q140, h140, h⟩ := bnd h
                                                      refine JJ.callVi hX (ct_M_count _ _ _ h140) cal_yX6_count cav_yX6_count lm_RL_113 rfl rfl rfl (Rcv.obj hX (ci := 6) rfl rfl) (Nat.le_of_ble_eq_true rfl) ⟨by decide, by decide⟩ dL_law_752 ?_
                                                      refine JJ.icmp_eq (tgt := 774) hX dL_law_755 (by decide) (fun c141 => ?_) (fun c141 => ?_)
                                                      · replace h := ipos c141 h
                                                        refine JJ.iinc (v := 5) (ls' := [(0, .ref b), (1, .ref (xad X 0)), (2, .ref (xad X 31)), (3, .int (x3 + (5 : Int32)))]) hX 3 dL_law_774 rfl (by decide) (by decide) rfl rfl ?_
                                                        refine JJ.goto (tgt := 18) hX dL_law_777 (by decide) ?_
                                                        exact ih _ _ _ h K
                                                      · replace h := ineg c141 h
                                                        refine JJ.iconst (v := 0) hX dL_law_758 (by decide) ?_
                                                        cases h
                                                    · replace h := ineg c136 h
                                                      by_cases c142 : ((zs x3.toNatClampNeg) &&& (31 : Int32)) = (24 : Int32)
                                                      · replace h := ipos c142 h
                                                        refine JJ.tableIn (v := 24) (tgt := 760) hX c142 dL_law_32 (by decide) (by decide) rfl (by decide) ?_
                                                        refine JJ.aload_n hX 1 dL_law_760 rfl ?_
                                                        obtain ⟨q143, h143, h⟩ := bnd h
                                                        refine JJ.callVl hX (ct_LT_digest  _ _ h143) cal_yX5_digest cav_yX5_digest lm_RL_114 rfl rfl rfl (Rcv.obj hX (ci := 5) rfl rfl) (Nat.le_of_ble_eq_true rfl) ⟨by decide, by decide⟩ dL_law_761 ?_
                                                        refine JJ.aload_n hX 2 dL_law_764 rfl ?_
                                                        obtain ⟨q144, h144, h⟩ := bnd h
                                                        refine JJ.callVl hX (ct_M_digest  _ _ h144) cal_yX6_digest cav_yX6_digest lm_RL_118 rfl rfl rfl (Rcv.obj hX (ci := 6) rfl rfl) (Nat.le_of_ble_eq_true rfl) ⟨by decide, by decide⟩ dL_law_765 ?_
                                                        refine JJ.lcmp hX dL_law_768 ?_
                                                        refine JJ.if_eq (tgt := 774) hX dL_law_769 (by decide) (fun c145 => ?_) (fun c145 => ?_)
                                                        · replace h := ipos c145 h
                                                          refine JJ.iinc (v := 5) (ls' := [(0, .ref b), (1, .ref (xad X 0)), (2, .ref (xad X 31)), (3, .int (x3 + (5 : Int32)))]) hX 3 dL_law_774 rfl (by decide) (by decide) rfl rfl ?_
                                                          refine JJ.goto (tgt := 18) hX dL_law_777 (by decide) ?_
                                                          exact ih _ _ _ h K
                                                        · replace h := ineg c145 h
                                                          refine JJ.iconst (v := 0) hX dL_law_772 (by decide) ?_
                                                          cases h
                                                      · replace h := ineg c142 h
                                                        refine JJ.tableOut (tgt := 774) hX dL_law_32 (sw_out (n := 24) (fun k hk => by
                                                        rcases k with _|_|_|_|_|_|_|_|_|_|_|_|_|_|_|_|_|_|_|_|_|_|_|_|_|k
                                                        · exact c3
                                                        · exact c8
                                                        · exact c10
                                                        · exact c14
                                                        · exact c18
                                                        · exact c26
                                                        · exact c33
                                                        · exact c38
                                                        · exact c45
                                                        · exact c52
                                                        · exact c57
                                                        · exact c62
                                                        · exact c67
                                                        · exact c76
                                                        · exact c83
                                                        · exact c90
                                                        · exact c99
                                                        · exact c106
                                                        · exact c108
                                                        · exact c112
                                                        · exact c116
                                                        · exact c128
                                                        · exact c132
                                                        · exact c136
                                                        · exact c142
                                                        · exact absurd hk (by omega)) (by decide)) (by decide) ?_
                                                        refine JJ.iinc (v := 5) (ls' := [(0, .ref b), (1, .ref (xad X 0)), (2, .ref (xad X 31)), (3, .int (x3 + (5 : Int32)))]) hX 3 dL_law_774 rfl (by decide) (by decide) rfl rfl ?_
                                                        refine JJ.goto (tgt := 18) hX dL_law_777 (by decide) ?_
                                                        exact ih _ _ _ h K
