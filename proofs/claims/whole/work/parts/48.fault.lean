/-! FAULT -/
theorem idx_any : ∀ (n : Nat) (a b i : Int32) (σ τ : ST), f_Latin1_indexOfChar_L7 n a b i σ = f_Latin1_indexOfChar_L7 n a b i τ := by
  intro n
  induction n with
  | zero => intro a b i σ τ; rfl
  | succ n ih =>
    intro a b i σ τ
    rw [f_Latin1_indexOfChar_L7, f_Latin1_indexOfChar_L7, ih a b (i + 1) σ τ]
theorem kind_any (p : Int32) (σ τ : ST) : f_Page_kindOfSign p σ = f_Page_kindOfSign p τ := by
  unfold f_Page_kindOfSign f_String_indexOf1 f_String_indexOf2 f_Latin1_indexOf f_Latin1_indexOfChar
  simp only [idx_any _ _ _ _ σ τ]
theorem kind_dec : ∀ c, c < 127 → f_Page_kindOfSign (nI c) st0 = some (f_M_kindBy (nI c)) := by decide +kernel
theorem kind_eq (σ : ST) {c : Nat} (h : c < 127) : f_Page_kindOfSign (nI c) σ = some (f_M_kindBy (nI c)) := by rw [kind_any _ σ st0]; exact kind_dec c h
theorem kb_cases : ∀ c, c < 127 → f_M_kindBy (nI c) = -1 ∨ (f_M_kindBy (nI c) = nI (f_M_kindBy (nI c)).toNatClampNeg ∧ (f_M_kindBy (nI c)).toNatClampNeg ≤ 4 ∧ c ≠ 59 ∧ f_M_kindBy (nI c) ≠ -1) := by decide +kernel
theorem dm_dec : ∀ c, c < 127 → (f_M_in ((nI c) - 48).toInt64 (0 : Int64) (5 : Int64) &&& 1) = if 48 ≤ c ∧ c ≤ 53 then (1 : Int32) else 0 := by decide +kernel
theorem dc_dec : ∀ c, c < 127 → (if (nI c) - 48 < 0 then (0 : Int32) else if (6 : Int32) ≤ (nI c) - 48 then 0 else 1) = if 48 ≤ c ∧ c ≤ 53 then (1 : Int32) else 0 := by decide +kernel
theorem om_dec : ∀ c, c < 127 → (f_M_in ((nI c) - 48).toInt64 (1 : Int64) (9 : Int64) &&& 1) = if 49 ≤ c ∧ c ≤ 57 then (1 : Int32) else 0 := by decide +kernel
theorem oc_dec : ∀ c, c < 127 → (if (nI c) - 48 < 1 then (0 : Int32) else if (9 : Int32) < (nI c) - 48 then 0 else 1) = if 49 ≤ c ∧ c ≤ 57 then (1 : Int32) else 0 := by decide +kernel
section GO
variable {τ : ST} {m : Nat} {p : Int32}
theorem go_0 (h5 : gI τ 3105 = nI 0) (h3 : gI τ 3103 = nI m) (hm : m < 6) : f_M_go p τ = some (if f_M_kindBy p = -1 then (0 : Int32) else 1, sA (sI τ 3105 (nI 1)) 33 (3 * m) (f_M_kindBy p)) := by
  have h3' : ∀ v, gI (sI τ 3105 v) 3103 = nI m := fun _ => h3
  unfold f_M_go
  rw [if_pos (show gI τ 3105 = 0 from h5), h5, h3', l_3, mul_nI, if_pos (inB_t (by omega) (by decide)), nI_clamp (by omega), nI_1]
  by_cases q : f_M_kindBy p = -1
  · rw [if_pos q, if_pos q]
  · rw [if_neg q, if_neg q]
theorem go_1 (h5 : gI τ 3105 = nI 1) (h3 : gI τ 3103 = nI m) (hm : m < 6) : f_M_go p τ = some (f_M_in (p - 48).toInt64 (0 : Int64) (5 : Int64) &&& 1, sA (sI τ 3105 (nI 2)) 33 (3 * m + 1) (p - 48)) := by
  have h3' : ∀ v, gI (sI τ 3105 v) 3103 = nI m := fun _ => h3
  unfold f_M_go
  have i31 : (3 : Int32) * nI m + 1 = nI (3 * m + 1) := by rw [l_3, mul_nI, l_1, add_nI]
  rw [if_neg (show ¬ gI τ 3105 = 0 by rw [h5]; decide), if_pos (show gI τ 3105 = 1 from h5), h5, h3', i31, if_pos (inB_t (by omega) (by decide)), nI_clamp (by omega), nI_1]
theorem go_2 (h5 : gI τ 3105 = nI 2) (h3 : gI τ 3103 = nI m) (hm : m < 6) : f_M_go p τ = some (f_M_in (p - 48).toInt64 (0 : Int64) (5 : Int64) &&& 1, sI (sA (sI τ 3105 (nI 3)) 33 (3 * m + 2) (p - 48)) 3103 (nI (m + 1))) := by
  have h3' : ∀ v, gI (sI τ 3105 v) 3103 = nI m := fun _ => h3
  have h3a : ∀ v k w, gI (sA (sI τ 3105 v) 33 k w) 3103 = nI m := fun _ _ _ => h3
  unfold f_M_go
  have i32 : (3 : Int32) * nI m + 2 = nI (3 * m + 2) := by rw [l_3, mul_nI, l_2, add_nI]
  rw [if_neg (show ¬ gI τ 3105 = 0 by rw [h5]; decide), if_neg (show ¬ gI τ 3105 = 1 by rw [h5]; decide), if_pos (show gI τ 3105 = 2 from h5), h5, h3a, h3', i32, if_pos (inB_t (by omega) (by decide)), nI_clamp (by omega), nI_1, nI_1]
theorem go_3 (h5 : gI τ 3105 = nI 3) (h3 : gI τ 3103 = nI m) : ∃ τ', f_M_go p τ = some (if p = 44 then (if (6 : Int32) ≤ nI m then (0 : Int32) else 1) else if p = 59 then (if nI m ≤ 1 then 0 else 1) else 0, τ') ∧ Fq τ τ' ∧ gA τ' = gA τ ∧ gI τ' 3103 = nI m ∧ (p = 44 → gI τ' 3105 = nI 0) ∧ (p = 59 → gI τ' 3105 = nI 4) := by
  have h3d : ∀ v w, gI (sI (sI τ 3105 v) 3105 w) 3103 = nI m := fun _ _ => h3
  unfold f_M_go
  rw [if_neg (show ¬ gI τ 3105 = 0 by rw [h5]; decide), if_neg (show ¬ gI τ 3105 = 1 by rw [h5]; decide), if_neg (show ¬ gI τ 3105 = 2 by rw [h5]; decide), if_pos (show gI τ 3105 = 3 from h5), h3d _ 0, h3d _ 4]
  have f : ∀ v w, Fq τ (sI (sI τ 3105 v) 3105 w) := fun v w => Fr.sI (Fr.sI Fr.rf (by decide)) (by decide)
  by_cases q : p = 44
  · rw [if_pos q, if_pos q, if_pos q]
    have n9 : ¬ p = 59 := by rw [q]; decide
    by_cases z : (6 : Int32) ≤ nI m
    · rw [if_pos z, if_pos z]; exact ⟨_, rfl, f _ _, rfl, h3, fun _ => rfl, fun z => absurd z n9⟩
    · rw [if_neg z, if_neg z]; exact ⟨_, rfl, f _ _, rfl, h3, fun _ => rfl, fun z => absurd z n9⟩
  · rw [if_neg q, if_neg q, if_neg q]
    by_cases q2 : p = 59
    · rw [if_pos q2, if_pos q2]
      by_cases z : nI m ≤ 1
      · rw [if_pos z, if_pos z]; exact ⟨_, rfl, f _ _, rfl, h3, fun z => absurd z q, fun _ => rfl⟩
      · rw [if_neg z, if_neg z]; exact ⟨_, rfl, f _ _, rfl, h3, fun z => absurd z q, fun _ => rfl⟩
    · rw [if_neg q2, if_neg q2]; exact ⟨_, rfl, f _ _, rfl, h3, fun z => absurd z q, fun z => absurd z q2⟩
theorem go_4 (h5 : gI τ 3105 = nI 4) : f_M_go p τ = some (f_M_in (p - 48).toInt64 (1 : Int64) (9 : Int64) &&& 1, sI (sI τ 3105 (nI 5)) 3104 (p - 48)) := by
  unfold f_M_go
  rw [if_neg (show ¬ gI τ 3105 = 0 by rw [h5]; decide), if_neg (show ¬ gI τ 3105 = 1 by rw [h5]; decide), if_neg (show ¬ gI τ 3105 = 2 by rw [h5]; decide), if_neg (show ¬ gI τ 3105 = 3 by rw [h5]; decide), if_pos (show gI τ 3105 = 4 from h5), h5, nI_1]
theorem go_5 (h5 : gI τ 3105 = nI 5) : f_M_go p τ = some (0, sI τ 3105 (gI τ 3105 + 1)) := by
  unfold f_M_go
  rw [if_neg (show ¬ gI τ 3105 = 0 by rw [h5]; decide), if_neg (show ¬ gI τ 3105 = 1 by rw [h5]; decide), if_neg (show ¬ gI τ 3105 = 2 by rw [h5]; decide), if_neg (show ¬ gI τ 3105 = 3 by rw [h5]; decide), if_neg (show ¬ gI τ 3105 = 4 by rw [h5]; decide)]
end GO
/-- what was read of the first m letters -/
def Dd (τ : ST) (cd : Nat → Nat) (m : Nat) : Prop := ∀ q, (4 * q < m → gA τ 33 (3 * q) = f_M_kindBy (nI (cd (4 * q))) ∧ f_M_kindBy (nI (cd (4 * q))) ≠ -1) ∧ (4 * q + 1 < m → gA τ 33 (3 * q + 1) = nI (cd (4 * q + 1)) - 48 ∧ 48 ≤ cd (4 * q + 1) ∧ cd (4 * q + 1) ≤ 53) ∧ (4 * q + 2 < m → gA τ 33 (3 * q + 2) = nI (cd (4 * q + 2)) - 48 ∧ 48 ≤ cd (4 * q + 2) ∧ cd (4 * q + 2) ≤ 53)
def Fin (σ τ : ST) (pn : Nat) (cd : Nat → Nat) : Prop := (∃ s, s < 5 ∧ gI τ 3105 = nI s ∧ f_Page_isClosed σ = 0) ∨ ∃ M, 2 ≤ M ∧ M ≤ 6 ∧ pn = 4 * M + 1 ∧ gI τ 3105 = nI 5 ∧ gI τ 3103 = nI M ∧ f_Page_isClosed σ = 1 ∧ Dd τ cd (4 * M) ∧ 49 ≤ cd (4 * M) ∧ cd (4 * M) ≤ 57 ∧ gI τ 3104 = nI (cd (4 * M)) - 48
def Out (σ : ST) (pn : Nat) (cd : Nat → Nat) (n i : Nat) (fl : Int32) (τ : ST) : Prop := (∃ r τ', r < pn ∧ f_Page_firstMisfit_L4 n fl (nI i) σ = some (.inr (nI r)) ∧ f_M_faultOf_L12 n (nI i) τ = some (nI r, τ') ∧ Fq τ τ') ∨ ∃ τ', f_Page_firstMisfit_L4 n fl (nI i) σ = some (.inl ()) ∧ f_M_faultOf_L12 n (nI i) τ = some (nI pn, τ') ∧ Fq τ τ' ∧ Fin σ τ' pn cd
theorem Out.step {σ τ τ1 : ST} {pn n i : Nat} {cd : Nat → Nat} {fl fl' : Int32} (h : Out σ pn cd n (i + 1) fl' τ1) (f : Fq τ τ1) (e1 : f_Page_firstMisfit_L4 (n + 1) fl (nI i) σ = f_Page_firstMisfit_L4 n fl' (nI (i + 1)) σ) (e2 : f_M_faultOf_L12 (n + 1) (nI i) τ = f_M_faultOf_L12 n (nI (i + 1)) τ1) : Out σ pn cd (n + 1) i fl τ := by
  rcases h with ⟨r, τ', h1, h2, h3, h4⟩ | ⟨τ', h2, h3, h4, h5⟩
  · exact Or.inl ⟨r, τ', h1, by rw [e1, h2], by rw [e2, h3], Fr.tr f h4⟩
  · exact Or.inr ⟨τ', by rw [e1, h2], by rw [e2, h3], Fr.tr f h4, h5⟩
section FAULT
variable {σ τ : ST} {pn : Nat} {cd : Nat → Nat}
theorem Rp.code (h : Rp σ τ pn cd) {i : Nat} (hi : i < pn) : f_Page_codeAt (nI i) σ = nI (cd i) := by
  have := h.1
  unfold f_Page_codeAt
  rw [cell_in (by omega) (by decide), (h.2.2.2 i hi).2.2.1]
theorem Rp.dig (h : Rp σ τ pn cd) {i : Nat} (hi : i < pn) : f_Page_digitAt (nI i) σ = nI (cd i) - 48 := by
  have := h.1
  unfold f_Page_digitAt
  rw [cell_in (by omega) (by decide), (h.2.2.2 i hi).2.2.1]
theorem Rp.l12 (h : Rp σ τ pn cd) {i n : Nat} (hi : i < pn) : f_M_faultOf_L12 (n + 1) (nI i) τ = (f_M_go (nI (cd i)) τ).bind (fun q3 => (if q3.1 = 0 then some (nI i, q3.2) else (f_M_faultOf_L12 n (nI (i + 1)) q3.2))) := by
  have := h.1
  rw [f_M_faultOf_L12, h.2.2.1, if_neg (nI_ge hi (by omega)), if_pos (inB_t (by omega) (by decide)), nI_clamp (by omega), (h.2.2.2 i hi).2.2.2, nI_1]
theorem Rp.end12 (h : Rp σ τ pn cd) {n : Nat} : f_M_faultOf_L12 (n + 1) (nI pn) τ = some (nI pn, τ) := by
  have := h.1
  rw [f_M_faultOf_L12, h.2.2.1, if_pos (nI_le (Nat.le_refl _) (by omega))]
theorem Rp.end4 (h : Rp σ τ pn cd) {n : Nat} {fl : Int32} : f_Page_firstMisfit_L4 (n + 1) fl (nI pn) σ = some (.inl ()) := by
  have := h.1
  rw [f_Page_firstMisfit_L4, h.2.1, if_pos (nI_le (Nat.le_refl _) (by omega))]
theorem n_59 {c : Nat} (hc : c < 127) (h : c ≠ 59) : ¬ nI c = 59 := fun z => h (nI_inj (b := 59) (by omega) (by decide) z)
theorem n_44 {c : Nat} (hc : c < 127) (h : c ≠ 44) : ¬ nI c = 44 := fun z => h (nI_inj (b := 44) (by omega) (by decide) z)
/-- the class, one letter of the crossings -/
theorem Rp.l4 (h : Rp σ τ pn cd) {i n : Nat} {v : Int32} (hi : i < pn) (hf : f_Page_fitsInCrossings (nI i) σ = some v) : f_Page_firstMisfit_L4 (n + 1) 0 (nI i) σ = if v = 0 then some (.inr (nI i)) else if cd i = 59 then f_Page_firstMisfit_L4 n 1 (nI (i + 1)) σ else f_Page_firstMisfit_L4 n 0 (nI (i + 1)) σ := by
  have := h.1
  have hc := (h.2.2.2 i hi).2.1
  rw [f_Page_firstMisfit_L4, h.2.1, if_neg (nI_ge hi (by omega)), if_pos rfl, hf, Option.bind_some, if_pos rfl, h.code hi, nI_1]
  by_cases q : cd i = 59
  · rw [if_pos q, q, if_pos (show nI 59 = 59 from rfl)]
  · rw [if_neg q, if_neg (n_59 (by omega) q)]
theorem Rp.oil (h : Rp σ τ pn cd) {i : Nat} (hi : i < pn) (h1 : 1 ≤ i) : f_Page_fitsAsOil (nI i) σ = if cd (i - 1) = 59 then (if 49 ≤ cd i ∧ cd i ≤ 57 then (1 : Int32) else 0) else 0 := by
  have := h.1
  have hc := (h.2.2.2 (i - 1) (by omega)).2.1
  have hc2 := (h.2.2.2 i hi).2.1
  unfold f_Page_fitsAsOil
  rw [l_1, sub_nI h1, h.code (by omega), h.dig hi, ← l_1, oc_dec _ (by omega)]
  by_cases q : cd (i - 1) = 59
  · rw [if_pos q, q, if_pos (show nI 59 = 59 from rfl)]
  · rw [if_neg q, if_neg (n_59 (by omega) q)]
theorem Rp.l4o (h : Rp σ τ pn cd) {i n : Nat} (hi : i < pn) (h1 : 1 ≤ i) : f_Page_firstMisfit_L4 (n + 1) 1 (nI i) σ = if (if cd (i - 1) = 59 then (if 49 ≤ cd i ∧ cd i ≤ 57 then (1 : Int32) else 0) else 0) = 0 then some (.inr (nI i)) else f_Page_firstMisfit_L4 n 1 (nI (i + 1)) σ := by
  have := h.1
  rw [f_Page_firstMisfit_L4, h.2.1, if_neg (nI_ge hi (by omega)), if_neg n10, h.oil hi h1, if_neg n10, nI_1]
theorem closed_at (h : Rp σ τ pn cd) (h2 : 2 ≤ pn) : f_Page_isClosed σ = if cd (pn - 2) = 59 then (1 : Int32) else 0 := by
  have := h.1
  have hc := (h.2.2.2 (pn - 2) (by omega)).2.1
  unfold f_Page_isClosed
  rw [h.2.1, l_2, sub_nI h2, h.code (by omega)]
  by_cases q : cd (pn - 2) = 59
  · rw [if_pos q, q, if_pos (show nI 59 = 59 from rfl)]
  · rw [if_neg q, if_neg (n_59 (by omega) q)]
theorem closed_lo (h : Rp σ τ pn cd) (h2 : pn < 2) : f_Page_isClosed σ = 0 := by
  have e : nI pn - 2 < 0 := by
    rcases (show pn = 0 ∨ pn = 1 by omega) with e | e
    · subst e; decide
    · subst e; decide
  unfold f_Page_isClosed f_Page_codeAt cellF
  rw [h.2.1, if_pos e, if_neg (by decide)]
/-- after the oil -/
theorem ph5 (h : Rp σ τ pn cd) {M n i : Nat} (hn : pn - i < n) (hi : i ≤ pn) (e : i = 4 * M + 1) (h2 : 2 ≤ M) (h6 : M ≤ 6) (s5 : gI τ 3105 = nI 5) (s3 : gI τ 3103 = nI M) (s4 : gI τ 3104 = nI (cd (4 * M)) - 48) (d : Dd τ cd (4 * M)) (o1 : 49 ≤ cd (4 * M)) (o2 : cd (4 * M) ≤ 57) (k : cd (4 * M - 1) = 59) : Out σ pn cd n i 1 τ := by
  obtain ⟨n, rfl⟩ : ∃ m, n = m + 1 := ⟨n - 1, by omega⟩
  by_cases q : i < pn
  · refine Or.inl ⟨i, sI τ 3105 (gI τ 3105 + 1), q, ?_, ?_, Fr.sI Fr.rf (by decide)⟩
    · rw [h.l4o q (by omega), if_neg (show ¬ cd (i - 1) = 59 by rw [e, Nat.add_sub_cancel]; omega), if_pos rfl]
    · rw [h.l12 q, go_5 s5, Option.bind_some, if_pos rfl]
  · have ep : i = pn := by omega
    subst ep
    refine Or.inr ⟨τ, h.end4, h.end12, Fr.rf, Or.inr ⟨M, h2, h6, e, s5, s3, ?_, d, o1, o2, s4⟩⟩
    rw [closed_at h (by omega), show i - 2 = 4 * M - 1 by omega, if_pos k]
/-- at the oil -/
theorem ph4 (h : Rp σ τ pn cd) {M n i : Nat} (hn : pn - i < n) (hi : i ≤ pn) (e : i = 4 * M) (h2 : 2 ≤ M) (h6 : M ≤ 6) (s5 : gI τ 3105 = nI 4) (s3 : gI τ 3103 = nI M) (d : Dd τ cd (4 * M)) (k : cd (4 * M - 1) = 59) (k2 : cd (4 * M - 2) ≠ 59) : Out σ pn cd n i 1 τ := by
  obtain ⟨n, rfl⟩ : ∃ m, n = m + 1 := ⟨n - 1, by omega⟩
  by_cases q : i < pn
  · have hc := (h.2.2.2 i q).2.1
    have f : Fq τ (sI (sI τ 3105 (nI 5)) 3104 (nI (cd i) - 48)) := Fr.sI (Fr.sI Fr.rf (by decide)) (by decide)
    have e4 := h.l4o (n := n) q (by omega)
    rw [if_pos (show cd (i - 1) = 59 by rw [e]; exact k)] at e4
    have e12 := h.l12 (n := n) q
    rw [go_4 s5, om_dec _ (by omega), Option.bind_some] at e12
    by_cases z : 49 ≤ cd i ∧ cd i ≤ 57
    · rw [if_pos z, if_neg n10] at e4
      simp only [if_pos z] at e12
      rw [if_neg n10] at e12
      have hp : Rp σ (sI (sI τ 3105 (nI 5)) 3104 (nI (cd i) - 48)) pn cd := h.fr (Fr.rf (I := [3103, 3104, 3105, 3118]) (A := [33, 37, 38, 39])) f (by decide)
      refine Out.step (ph5 hp (n := n) (M := M) (i := i + 1) (by omega) (by omega) (by omega) h2 h6 rfl s3 ?_ (fun q => d q) (by rw [← e]; exact z.1) (by rw [← e]; exact z.2) k) f e4 e12
      rw [← e]; rfl
    · rw [if_neg z, if_pos rfl] at e4
      simp only [if_neg z] at e12
      rw [if_pos trivial] at e12
      exact Or.inl ⟨i, _, q, e4, e12, f⟩
  · have ep : i = pn := by omega
    subst ep
    refine Or.inr ⟨τ, h.end4, h.end12, Fr.rf, Or.inl ⟨4, by decide, s5, ?_⟩⟩
    rw [closed_at h (by omega), show i - 2 = 4 * M - 2 by omega, if_neg k2]
end FAULT
