/-! THOSE WHO ARE LOST -/
def ssF (kd : Nat → Nat) (v : Nat) (x : Int32) : Nat → Nat
  | 0 => 0
  | c + 1 => if v.testBit c = true ∧ nI (sn kd c) = x then ssF kd v x c ||| 2 ^ c else ssF kd v x c
def paF (go : Nat → Nat → Nat) (v w : Nat) : Nat → Nat
  | 0 => 0
  | c + 1 => if v.testBit c = true then paF go v w c ||| 2 ^ (go c w) else paF go v w c
theorem ssF_lt {kd : Nat → Nat} {v N : Nat} {x : Int32} : ∀ c, c ≤ N → ssF kd v x c < 2 ^ N := by
  intro c
  induction c with
  | zero => intro _; exact Nat.pow_pos (by decide)
  | succ c ih =>
    intro h
    have h1 := ih (by omega)
    have e : ssF kd v x (c + 1) = if v.testBit c = true ∧ nI (sn kd c) = x then ssF kd v x c ||| 2 ^ c else ssF kd v x c := rfl
    rw [e]
    by_cases q : v.testBit c = true ∧ nI (sn kd c) = x
    · rw [if_pos q]; exact or_lt h1 (by omega)
    · rw [if_neg q]; exact h1
theorem paF_lt {go : Nat → Nat → Nat} {v w N : Nat} (hgo : ∀ c, c < N → go c w < N) : ∀ c, c ≤ N → paF go v w c < 2 ^ N := by
  intro c
  induction c with
  | zero => intro _; exact Nat.pow_pos (by decide)
  | succ c ih =>
    intro h
    have h1 := ih (by omega)
    have e : paF go v w (c + 1) = if v.testBit c = true then paF go v w c ||| 2 ^ (go c w) else paF go v w c := rfl
    rw [e]
    by_cases q : v.testBit c = true
    · rw [if_pos q]; exact or_lt h1 (hgo c (by omega))
    · rw [if_neg q]; exact h1
theorem or0 (a : Nat) : nI a ||| 0 = nI a := by rw [l_0, fa_or, Nat.or_zero]
section LOST
variable {σ τ : ST} {N : Nat} {kd : Nat → Nat} {go : Nat → Nat → Nat}
theorem pos_loop (hC : Mc σ N kd go) {v : Nat} (hv : v < 2 ^ N) {x : Int32} : ∀ (n c : Nat), N - c < n → c ≤ N → f_Mine_placesOfSound_L5 n (nI v) x (nI (ssF kd v x c)) (nI c) σ = some (nI (ssF kd v x N)) := by
  have hN := hC.1
  have h64 := pow_le64 hN
  intro n
  induction n with
  | zero => intro c h; omega
  | succ n ih =>
    intro c hn hcN
    rw [f_Mine_placesOfSound_L5, hC.2.1]
    by_cases hc : c < N
    · rw [if_neg (nI_ge hc (by omega)), isIn_dec v (by omega) c (by omega), m_sound hC hc, nI_1]
      have e : ssF kd v x (c + 1) = if v.testBit c = true ∧ nI (sn kd c) = x then ssF kd v x c ||| 2 ^ c else ssF kd v x c := rfl
      have hi := ih (c + 1) (by omega) (by omega)
      by_cases hb : v.testBit c = true
      · rw [if_pos hb, if_neg (show ¬ (1 : Int32) = 0 by decide)]
        by_cases hs : nI (sn kd c) = x
        · rw [if_pos hs, bit1 c (by omega), fa_or]
          rw [e, if_pos ⟨hb, hs⟩] at hi
          exact hi
        · rw [if_neg hs]
          rw [e, if_neg (fun z => hs z.2)] at hi
          exact hi
      · rw [if_neg hb, if_pos rfl]
        rw [e, if_neg (fun z => hb z.1)] at hi
        exact hi
    · have : c = N := by omega
      subst this
      rw [if_pos (nI_le (Nat.le_refl _) (by omega))]
theorem pos_ok (hC : Mc σ N kd go) {v : Nat} (hv : v < 2 ^ N) (x : Int32) : f_Mine_placesOfSound (nI v) x σ = some (nI (ssF kd v x N)) := by
  have h := pos_loop hC hv (x := x) 400 0 (by have := hC.1; omega) (by omega)
  have h' : f_Mine_placesOfSound_L5 400 (nI v) x 0 0 σ = some (nI (ssF kd v x N)) := h
  unfold f_Mine_placesOfSound
  rw [h']; rfl
theorem si_loop (hM : Mm τ N kd go) {v : Nat} (hv : v < 2 ^ N) {x : Int32} : ∀ (n c : Nat), N - c < n → c ≤ N → f_M_soundingIn_L5 n (nI v) x (nI (ssF kd v x c)) (nI c) τ = some (nI (ssF kd v x N)) := by
  have hN := hM.1
  have h64 := pow_le64 hN
  intro n
  induction n with
  | zero => intro c h; omega
  | succ n ih =>
    intro c hn hcN
    rw [f_M_soundingIn_L5, hM.2.1]
    by_cases hc : c < N
    · rw [if_neg (nI_ge hc (by omega)), mm_sound hM hc, nI_1, or0]
      have e : ssF kd v x (c + 1) = if v.testBit c = true ∧ nI (sn kd c) = x then ssF kd v x c ||| 2 ^ c else ssF kd v x c := rfl
      have hi := ih (c + 1) (by omega) (by omega)
      have hsh := shr_dec v (by omega) c (by omega)
      by_cases hb : v.testBit c = true
      · rw [if_pos (hsh.mpr hb)]
        show (if nI (sn kd c) = x then _ else _) = _
        by_cases hs : nI (sn kd c) = x
        · rw [if_pos hs, bit1 c (by omega), fa_or]
          rw [e, if_pos ⟨hb, hs⟩] at hi
          exact hi
        · rw [if_neg hs]
          rw [e, if_neg (fun z => hs z.2)] at hi
          exact hi
      · rw [if_neg (fun z => hb (hsh.mp z))]
        rw [e, if_neg (fun z => hb z.1)] at hi
        exact hi
    · have : c = N := by omega
      subst this
      rw [if_pos (nI_le (Nat.le_refl _) (by omega))]
theorem si_ok (hM : Mm τ N kd go) {v : Nat} (hv : v < 2 ^ N) (x : Int32) : f_M_soundingIn (nI v) x τ = some (nI (ssF kd v x N)) := by
  have h := si_loop hM hv (x := x) 400 0 (by have := hM.1; omega) (by omega)
  have h' : f_M_soundingIn_L5 400 (nI v) x 0 0 τ = some (nI (ssF kd v x N)) := h
  unfold f_M_soundingIn
  rw [h']; rfl
theorem pa_loop (hC : Mc σ N kd go) {v w : Nat} (hv : v < 2 ^ N) (hw : w < 2) : ∀ (n c : Nat), N - c < n → c ≤ N → f_Mine_placesAfter_L5 n (nI v) (nI w) (nI (paF go v w c)) (nI c) σ = some (nI (paF go v w N)) := by
  have hN := hC.1
  have h64 := pow_le64 hN
  intro n
  induction n with
  | zero => intro c h; omega
  | succ n ih =>
    intro c hn hcN
    rw [f_Mine_placesAfter_L5, hC.2.1]
    by_cases hc : c < N
    · have hg := go_lt hC hc hw
      rw [if_neg (nI_ge hc (by omega)), isIn_dec v (by omega) c (by omega), m_leads hC hc hw, nI_1]
      have e : paF go v w (c + 1) = if v.testBit c = true then paF go v w c ||| 2 ^ (go c w) else paF go v w c := rfl
      have hi := ih (c + 1) (by omega) (by omega)
      by_cases hb : v.testBit c = true
      · rw [if_pos hb, if_neg (show ¬ (1 : Int32) = 0 by decide), bit1 _ (by omega), fa_or]
        rw [e, if_pos hb] at hi
        exact hi
      · rw [if_neg hb, if_pos rfl]
        rw [e, if_neg hb] at hi
        exact hi
    · have : c = N := by omega
      subst this
      rw [if_pos (nI_le (Nat.le_refl _) (by omega))]
theorem pa_ok (hC : Mc σ N kd go) {v w : Nat} (hv : v < 2 ^ N) (hw : w < 2) : f_Mine_placesAfter (nI v) (nI w) σ = some (nI (paF go v w N)) := by
  have h := pa_loop hC hv hw 400 0 (by have := hC.1; omega) (by omega)
  have h' : f_Mine_placesAfter_L5 400 (nI v) (nI w) 0 0 σ = some (nI (paF go v w N)) := h
  unfold f_Mine_placesAfter
  rw [h']; rfl
theorem sf_loop (hM : Mm τ N kd go) {v w : Nat} (hv : v < 2 ^ N) (hw : w < 2) : ∀ (n c : Nat), N - c < n → c ≤ N → f_M_steppedFrom_L5 n (nI v) (nI w) (nI (paF go v w c)) (nI c) τ = some (nI (paF go v w N)) := by
  have hN := hM.1
  have h64 := pow_le64 hN
  intro n
  induction n with
  | zero => intro c h; omega
  | succ n ih =>
    intro c hn hcN
    rw [f_M_steppedFrom_L5, hM.2.1]
    by_cases hc : c < N
    · obtain ⟨hg, hgo⟩ := hM.to hc hw
      rw [if_neg (nI_ge hc (by omega)), l_2, mul_nI, add_nI, if_pos (inB_t (by omega) (by decide)), nI_clamp (by omega), hgo, nI_1, or0]
      have e : paF go v w (c + 1) = if v.testBit c = true then paF go v w c ||| 2 ^ (go c w) else paF go v w c := rfl
      have hi := ih (c + 1) (by omega) (by omega)
      have hsh := shr_dec v (by omega) c (by omega)
      by_cases hb : v.testBit c = true
      · rw [if_pos (hsh.mpr hb), bit1 _ (by omega), fa_or]
        rw [e, if_pos hb] at hi
        exact hi
      · rw [if_neg (fun z => hb (hsh.mp z))]
        rw [e, if_neg hb] at hi
        exact hi
    · have : c = N := by omega
      subst this
      rw [if_pos (nI_le (Nat.le_refl _) (by omega))]
theorem sf_ok (hM : Mm τ N kd go) {v w : Nat} (hv : v < 2 ^ N) (hw : w < 2) : f_M_steppedFrom (nI v) (nI w) τ = some (nI (paF go v w N)) := by
  have h := sf_loop hM hv hw 400 0 (by have := hM.1; omega) (by omega)
  have h' : f_M_steppedFrom_L5 400 (nI v) (nI w) 0 0 τ = some (nI (paF go v w N)) := h
  unfold f_M_steppedFrom
  rw [h']; rfl
/-- what was heard -/
def Rh (σ τ : ST) (h : Nat) : Prop := h ≤ 8 ∧ gI σ 1705 = nI h ∧ gI τ 3116 = nI h ∧ ∀ i, i < h → gA τ 40 (2 * i) = gA σ 22 i ∧ gA τ 40 (2 * i + 1) = gA σ 23 i ∧ (0 < i → gA σ 22 i = 0 ∨ gA σ 22 i = 1)
theorem where_loop (hC : Mc σ N kd go) (hM : Mm τ N kd go) {h : Nat} (hH : Rh σ τ h) : ∀ (n i v : Nat), h - i < n → i ≤ h → v < 2 ^ N → ∃ w, w < 2 ^ N ∧ f_Mine_placesBy_17_L11 n (nI v) (nI i) σ = some (nI w) ∧ f_M_whereOf_L11 n (nI v) (nI i) τ = some (nI w) := by
  obtain ⟨h8, g1, g2, g3⟩ := hH
  have hgo : ∀ w, w < 2 → ∀ c, c < N → go c w < N := fun w hw c hc => go_lt hC hc hw
  intro n
  induction n with
  | zero => intro i v q; omega
  | succ n ih =>
    intro i v hn hih hv
    rw [f_Mine_placesBy_17_L11, f_M_whereOf_L11, g1, g2]
    by_cases hi : i < h
    · obtain ⟨q1, q2, q3⟩ := g3 i hi
      rw [if_neg (nI_ge hi (by omega)), if_neg (nI_ge hi (by omega)), cell_in (by omega) (by decide), cell_in (by omega) (by decide), l_2, l_1, mul_nI]
      simp only [add_nI]
      rw [nI_clamp (show 2 * i < 2 ^ 31 by omega), nI_clamp (show 2 * i + 1 < 2 ^ 31 by omega), q1, q2, if_pos (inB_t (by omega) (by decide)), if_pos (inB_t (by omega) (by decide))]
      rcases Nat.eq_zero_or_pos i with h0 | h0
      · subst h0
        rw [if_pos (show nI 0 ≤ 0 by decide), if_pos (show nI 0 = 0 from rfl), pos_ok hC hv, si_ok hM hv]
        exact ih (0 + 1) _ (by omega) (by omega) (ssF_lt N (Nat.le_refl _))
      · rw [if_neg (nI_nle h0 (by omega)), if_neg (nI_ne0 h0 (by omega))]
        have step : ∀ x, x < 2 → ∃ w, w < 2 ^ N ∧ ((f_Mine_placesAfter (nI v) (nI x) σ).bind fun q4 => (f_Mine_placesOfSound q4 (gA σ 23 i) σ).bind fun q5 => f_Mine_placesBy_17_L11 n q5 (nI (i + 1)) σ) = some (nI w) ∧ ((f_M_steppedFrom (nI v) (nI x) τ).bind fun q4 => (f_M_soundingIn q4 (gA σ 23 i) τ).bind fun q6 => f_M_whereOf_L11 n q6 (nI (i + 1)) τ) = some (nI w) := by
          intro x hx
          have hp := paF_lt (v := v) (hgo x hx) N (Nat.le_refl _)
          rw [pa_ok hC hv hx, sf_ok hM hv hx]
          show ∃ w, w < 2 ^ N ∧ ((f_Mine_placesOfSound (nI (paF go v x N)) (gA σ 23 i) σ).bind fun q5 => f_Mine_placesBy_17_L11 n q5 (nI (i + 1)) σ) = some (nI w) ∧ ((f_M_soundingIn (nI (paF go v x N)) (gA σ 23 i) τ).bind fun q6 => f_M_whereOf_L11 n q6 (nI (i + 1)) τ) = some (nI w)
          rw [pos_ok hC hp, si_ok hM hp]
          exact ih (i + 1) _ (by omega) (by omega) (ssF_lt N (Nat.le_refl _))
        have hin : inB (nI (2 * i + 1)) 16 = true := inB_t (by omega) (by decide)
        simp only [if_pos hin]
        rcases q3 h0 with e | e
        · rw [e]; exact step 0 (by decide)
        · rw [e]; exact step 1 (by decide)
    · have : i = h := by omega
      subst this
      rw [if_pos (nI_le (Nat.le_refl _) (by omega)), if_pos (nI_le (Nat.le_refl _) (by omega))]
      exact ⟨v, hv, rfl, rfl⟩
theorem where_ok (hC : Mc σ N kd go) (hM : Mm τ N kd go) {h : Nat} (hH : Rh σ τ h) : ∃ w, w < 2 ^ N ∧ f_Mine_placesBy_17 σ = some (nI w) ∧ f_M_whereOf τ = some (nI w) := by
  have hN := hC.1
  have hp : 0 < 2 ^ N := Nat.pow_pos (by decide)
  obtain ⟨w, h1, h2, h3⟩ := where_loop hC hM hH 400 0 (2 ^ N - 1) (by have := hH.1; omega) (by omega) (by omega)
  refine ⟨w, h1, ?_, ?_⟩
  · unfold f_Mine_placesBy_17
    rw [hC.2.1, allb N (by omega)]
    have h2' : f_Mine_placesBy_17_L11 400 (nI (2 ^ N - 1)) 0 σ = some (nI w) := h2
    rw [h2']; rfl
  · unfold f_M_whereOf
    rw [hM.2.1, allb N (by omega)]
    have h3' : f_M_whereOf_L11 400 (nI (2 ^ N - 1)) 0 τ = some (nI w) := h3
    rw [h3']; rfl
end LOST
def pc (v : Nat) : Nat := 6 - un v 6
theorem bc_dec : ∀ v, v < 64 → f_Integer_bitCount (nI v) = nI (pc v) := by decide +kernel
theorem shb_dec : ∀ v, v < 64 → ∀ k, k < 6 → (nI v >>> (nI k &&& 31)) &&& 1 = nI (if v.testBit k = true then 1 else 0) := by decide +kernel
theorem ones_loop {v : Nat} (hv : v < 64) {τ : ST} : ∀ (n k : Nat), 6 - k < n → k ≤ 6 → f_M_ones_L4 n (nI v) (nI (k - un v k)) (nI k) τ = some (nI (pc v)) := by
  intro n
  induction n with
  | zero => intro k h; omega
  | succ n ih =>
    intro k hn hk
    rw [f_M_ones_L4, l_6]
    by_cases h : k < 6
    · rw [if_neg (nI_ge h (by decide)), shb_dec v hv k h, add_nI, nI_1]
      have hi := ih (k + 1) (by omega) (by omega)
      have e : un v (k + 1) = un v k + (if v.testBit k = true then 0 else 1) := rfl
      have hu := un_le v k
      rw [e] at hi
      by_cases q : v.testBit k = true
      · rw [if_pos q] at hi ⊢
        rwa [show k + 1 - (un v k + 0) = k - un v k + 1 by omega] at hi
      · rw [if_neg q] at hi ⊢
        rwa [show k + 1 - (un v k + 1) = k - un v k + 0 by omega] at hi
    · have : k = 6 := by omega
      subst this
      rw [if_pos (nI_le (Nat.le_refl _) (by decide))]
      rfl
theorem ones_ok {v : Nat} (hv : v < 64) (τ : ST) : f_M_ones (nI v) τ = some (nI (pc v)) := by
  have h := ones_loop hv (τ := τ) 400 0 (by decide) (by decide)
  have h' : f_M_ones_L4 400 (nI v) 0 0 τ = some (nI (pc v)) := h
  unfold f_M_ones
  rw [h']; rfl
theorem pc_le (v : Nat) : pc v ≤ 6 := by unfold pc; omega
section LOST2
variable {σ τ : ST} {N : Nat} {kd : Nat → Nat} {go : Nat → Nat → Nat}
theorem most_step (hC : Mc σ N kd go) {p s m n : Nat} (hp : p < 2 ^ N) (hs : s < 3) (hm : m ≤ 6) : f_Mine_mostLeft_L13 (n + 1) (nI p) (nI m) (nI s) σ = f_Mine_mostLeft_L13 n (nI p) (nI (if m < pc (ssF kd p (nI s) N) then pc (ssF kd p (nI s) N) else m)) (nI (s + 1)) σ := by
  have h64 := pow_le64 hC.1
  have hl : ssF kd p (nI s) N < 2 ^ N := ssF_lt N (Nat.le_refl _)
  have hpc := pc_le (ssF kd p (nI s) N)
  rw [f_Mine_mostLeft_L13, l_3, if_neg (nI_ge hs (by decide)), pos_ok hC hp, ← nI_1]
  have hb := bc_dec (ssF kd p (nI s) N) (by omega)
  rw [Option.bind_some, hb]
  generalize pc (ssF kd p (nI s) N) = z at hpc
  by_cases q : m < z
  · rw [if_pos (nI_lt q (by omega)), if_pos q]
  · rw [if_neg (nI_nlt (by omega) (by omega)), if_neg q]
theorem worst_step (hC : Mc σ N kd go) (hM : Mm τ N kd go) {v w s m n : Nat} (hv : v < 2 ^ N) (hw : w < 2) (hs : s < 3) (hm : m ≤ 6) : f_M_worstBy_L5 (n + 1) (nI v) (nI w) (nI m) (nI s) τ = f_M_worstBy_L5 n (nI v) (nI w) (nI (if m < pc (ssF kd (paF go v w N) (nI s) N) then pc (ssF kd (paF go v w N) (nI s) N) else m)) (nI (s + 1)) τ := by
  have h64 := pow_le64 hC.1
  have hp : paF go v w N < 2 ^ N := paF_lt (v := v) (fun c hc => go_lt hC hc hw) N (Nat.le_refl _)
  have hl : ssF kd (paF go v w N) (nI s) N < 2 ^ N := ssF_lt N (Nat.le_refl _)
  have hpc := pc_le (ssF kd (paF go v w N) (nI s) N)
  rw [f_M_worstBy_L5, l_3, if_neg (nI_ge hs (by decide)), sf_ok hM hv hw, ← nI_1]
  rw [Option.bind_some, si_ok hM hp, Option.bind_some, ones_ok (by omega), Option.bind_some]
  generalize pc (ssF kd (paF go v w N) (nI s) N) = z at hpc
  by_cases q : m < z
  · rw [if_neg (nI_ge q (by omega)), if_pos q]
  · rw [if_pos (nI_le (by omega) (by omega)), if_neg q]
theorem worst_loop (hC : Mc σ N kd go) (hM : Mm τ N kd go) {v w : Nat} (hv : v < 2 ^ N) (hw : w < 2) : ∀ (n s m : Nat), 3 - s < n → s ≤ 3 → m ≤ 6 → ∃ m', m' ≤ 6 ∧ f_Mine_mostLeft_L13 n (nI (paF go v w N)) (nI m) (nI s) σ = some (nI m') ∧ f_M_worstBy_L5 n (nI v) (nI w) (nI m) (nI s) τ = some (nI m') := by
  have hp : paF go v w N < 2 ^ N := paF_lt (v := v) (fun c hc => go_lt hC hc hw) N (Nat.le_refl _)
  intro n
  induction n with
  | zero => intro s m h; omega
  | succ n ih =>
    intro s m hn hs hm
    by_cases h : s < 3
    · rw [most_step hC hp h hm, worst_step hC hM hv hw h hm]
      have hpc := pc_le (ssF kd (paF go v w N) (nI s) N)
      exact ih (s + 1) _ (by omega) (by omega) (by
        generalize pc (ssF kd (paF go v w N) (nI s) N) = z at hpc
        by_cases q : m < z
        · rw [if_pos q]; exact hpc
        · rw [if_neg q]; exact hm)
    · have : s = 3 := by omega
      subst this
      rw [f_Mine_mostLeft_L13, f_M_worstBy_L5, l_3]
      rw [if_pos (nI_le (Nat.le_refl _) (by decide)), if_pos (nI_le (Nat.le_refl _) (by decide))]
      exact ⟨m, hm, rfl, rfl⟩
theorem worst_ok (hC : Mc σ N kd go) (hM : Mm τ N kd go) {v w : Nat} (hv : v < 2 ^ N) (hw : w < 2) : ∃ m, m ≤ 6 ∧ f_Mine_mostLeft (nI v) (nI w) σ = some (nI m) ∧ f_M_worstBy (nI v) (nI w) τ = some (nI m) := by
  obtain ⟨m, h1, h2, h3⟩ := worst_loop hC hM hv hw 400 0 0 (by decide) (by decide) (by decide)
  refine ⟨m, h1, ?_, ?_⟩
  · unfold f_Mine_mostLeft
    rw [pa_ok hC hv hw]
    show (f_Mine_mostLeft_L13 400 (nI (paF go v w N)) 0 0 σ).bind _ = _
    have h2' : f_Mine_mostLeft_L13 400 (nI (paF go v w N)) 0 0 σ = some (nI m) := h2
    rw [h2']; rfl
  · unfold f_M_worstBy
    have h3' : f_M_worstBy_L5 400 (nI v) (nI w) 0 0 τ = some (nI m) := h3
    rw [h3']; rfl
/-- WHERE and NEXT -/
theorem where_eq (hC : Mc σ N kd go) (hM : Mm τ N kd go) {h : Nat} (hH : Rh σ τ h) (h0 : 0 < N) : ∃ v, f_LT_where σ = some v ∧ f_M_whereOf τ = some v := by
  obtain ⟨w, h1, h2, h3⟩ := where_ok hC hM hH
  refine ⟨nI w, ?_, h3⟩
  unfold f_LT_where f_Mine_isThere
  rw [hC.2.1, if_neg (nI_nle h0 (by have := hC.1; omega)), if_neg (show ¬ (1 : Int32) = 0 by decide), h2]; rfl
theorem next_eq (hC : Mc σ N kd go) (hM : Mm τ N kd go) {h : Nat} (hH : Rh σ τ h) (h0 : 0 < N) : ∃ v, f_LT_next σ = some v ∧ f_M_nextOf τ = some v := by
  obtain ⟨w, h1, h2, h3⟩ := where_ok hC hM hH
  have hN := hC.1
  have h64 := pow_le64 hN
  obtain ⟨m1, a1, a2, a3⟩ := worst_ok hC hM h1 (show 1 < 2 by decide)
  obtain ⟨m0, b1, b2, b3⟩ := worst_ok hC hM h1 (show 0 < 2 by decide)
  have a2' : f_Mine_mostLeft (nI w) 1 σ = some (nI m1) := a2
  have a3' : f_M_worstBy (nI w) 1 τ = some (nI m1) := a3
  have b2' : f_Mine_mostLeft (nI w) 0 σ = some (nI m0) := b2
  have b3' : f_M_worstBy (nI w) 0 τ = some (nI m0) := b3
  unfold f_LT_next f_Mine_isThere f_M_nextOf
  rw [hC.2.1, if_neg (nI_nle h0 (by omega)), if_neg (show ¬ (1 : Int32) = 0 by decide), h2, h3]
  show ∃ v, (if nI w = 0 then some (-1 : Int32) else (f_Mine_mostLeft (nI w) 1 σ).bind (fun q4 => (f_Mine_mostLeft (nI w) 0 σ).bind (fun q5 => if q5 ≤ q4 then some (0 : Int32) else some (1 : Int32)))) = some v ∧ (if nI w = 0 then some (-1 : Int32) else (f_M_worstBy (nI w) 1 τ).bind (fun q3 => (f_M_worstBy (nI w) 0 τ).bind (fun q4 => if q4 ≤ q3 then some (0 : Int32) else some (1 : Int32)))) = some v
  rw [a2', a3', b2', b3']
  by_cases q : nI w = 0
  · rw [if_pos q]; exact ⟨_, rfl, rfl⟩
  · rw [if_neg q]
    show ∃ v, (if nI m0 ≤ nI m1 then some (0 : Int32) else some (1 : Int32)) = some v ∧ (if nI m0 ≤ nI m1 then some (0 : Int32) else some (1 : Int32)) = some v
    by_cases q2 : nI m0 ≤ nI m1
    · rw [if_pos q2]; exact ⟨_, rfl, rfl⟩
    · rw [if_neg q2]; exact ⟨_, rfl, rfl⟩
end LOST2
