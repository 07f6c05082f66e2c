set_option maxRecDepth 100000 in
/-- cell(row, i) -/
theorem ct_cell (q n : Nat) (hn : n < 2 ^ 31) (he : ∀ cA ad σ, (wld cA ad σ)[q]? = some (ad q, .inl (cA, n, .inl (gA σ q)))) (i : Int32) (σ : ST) (res : Int32) (h : cellF n q i σ = res) : Ct 0 yX5_cell cX5_cell 2 (some .int) (fun ad => [.int i, .ref (ad q)]) σ (some (.int res)) σ := by
  refine Ct.of (ls := fun ad => [(0, .ref (ad q)), (1, .int i)]) (by decide +kernel) (fun ad => Nat.le_of_ble_eq_true rfl) (fun ad => rfl) (fun X hX hM => ?_)
  replace hX : Ok X RX5 cX5_cell 2 0 := hX
  unfold cellF at h
  refine JJ.iload_n hX 1 dX5_cell_0 rfl ?_
  refine JJ.if_lt (tgt := 16) hX dX5_cell_1 (by decide) (fun c1 => ?_) (fun c1 => ?_)
  · replace h := ipos c1 h
    refine JJ.iconst (v := 0) hX dX5_cell_16 (by decide) ?_
    subst h
    exact JJ.iret hX hM dX5_cell_17
  · replace h := ineg c1 h
    refine JJ.iload_n hX 1 dX5_cell_4 rfl ?_
    refine JJ.aload_n hX 0 dX5_cell_5 rfl ?_
    refine JJ.alen (v := nI n) hX q (he _ _ _) rfl dX5_cell_6 ?_
    refine JJ.icmp_ge (tgt := 16) hX dX5_cell_7 (by decide) (fun c2 => ?_) (fun c2 => ?_)
    · replace h := ipos c2 h
      refine JJ.iconst (v := 0) hX dX5_cell_16 (by decide) ?_
      subst h
      exact JJ.iret hX hM dX5_cell_17
    · replace h := ineg c2 h
      refine JJ.aload_n hX 0 dX5_cell_10 rfl ?_
      refine JJ.iload_n hX 1 dX5_cell_11 rfl ?_
      refine JJ.iald hX q (he _ _ _) (inB_of c1 c2 hn) dX5_cell_12 ?_
      refine JJ.goto (tgt := 17) hX dX5_cell_13 (by decide) ?_
      subst h
      exact JJ.iret hX hM dX5_cell_17
set_option maxRecDepth 100000 in
/-- put(row, i, v) -/
theorem ct_put (q n : Nat) (hn : n < 2 ^ 31) (he : ∀ cA ad σ, (wld cA ad σ)[q]? = some (ad q, .inl (cA, n, .inl (gA σ q)))) (hset : ∀ cA ad σ k x, (wld cA ad σ).set q (ad q, .inl (cA, n, .inl (upd (gA σ q) k x))) = wld cA ad (sA σ q k x)) (i v : Int32) (σ : ST) (res : ST) (h : putF n q i v σ = res) : Ct 0 yX5_put cX5_put 3 none (fun ad => [.int v, .int i, .ref (ad q)]) σ none res := by
  refine Ct.of (ls := fun ad => [(0, .ref (ad q)), (1, .int i), (2, .int v)]) (by decide +kernel) (fun ad => Nat.le_of_ble_eq_true rfl) (fun ad => rfl) (fun X hX hM => ?_)
  replace hX : Ok X RX5 cX5_put 3 0 := hX
  unfold putF at h
  refine JJ.iload_n hX 1 dX5_put_0 rfl ?_
  refine JJ.if_lt (tgt := 14) hX dX5_put_1 (by decide) (fun c1 => ?_) (fun c1 => ?_)
  · replace h := ipos c1 h
    subst h
    exact JJ.vret hX hM dX5_put_14
  · replace h := ineg c1 h
    refine JJ.iload_n hX 1 dX5_put_4 rfl ?_
    refine JJ.aload_n hX 0 dX5_put_5 rfl ?_
    refine JJ.alen (v := nI n) hX q (he _ _ _) rfl dX5_put_6 ?_
    refine JJ.icmp_ge (tgt := 14) hX dX5_put_7 (by decide) (fun c2 => ?_) (fun c2 => ?_)
    · replace h := ipos c2 h
      subst h
      exact JJ.vret hX hM dX5_put_14
    · replace h := ineg c2 h
      refine JJ.aload_n hX 0 dX5_put_10 rfl ?_
      refine JJ.iload_n hX 1 dX5_put_11 rfl ?_
      refine JJ.iload_n hX 2 dX5_put_12 rfl ?_
      refine JJ.iast (σ' := sA σ q i.toNatClampNeg v) hX q (he _ _ _) (hset _ _ _ _ _) (inB_of c1 c2 hn) dX5_put_13 ?_
      subst h
      exact JJ.vret hX hM dX5_put_14
