theorem law_pure (L : Nat) (hL : L ≤ 320) (zs : Nat → Int32) : ∃ e, f_Law_law_L18 L zs 400 0 st0 = some e := sorry
