/-! THE DIGEST -/
def Fq (σ τ : ST) : Prop := Fr σ τ [3103, 3104, 3105, 3118] [33, 37, 38, 39]
theorem Fq.say {σ τ τ1 : ST} {x : Int64} (v : Int32) (f : Fq σ τ) (hx : gL τ = x) (s : Sm τ τ1) : Fq σ (f_M_say v.toInt64 τ1) ∧ gL (f_M_say v.toInt64 τ1) = f_LT_with x v := by
  have g : Fr σ τ1 [3103, 3104, 3105, 3118] [33, 37, 38, 39] := Fr.tr f s.fr
  refine ⟨⟨fun i hi => g.1 i hi, fun a ha => g.2 a ha⟩, ?_⟩
  show (31 : Int64) * gL τ1 + v.toInt64 = 31 * x + v.toInt64
  rw [s.2.2, hx]
section DIG
variable {σ : ST} {j pn N P k : Nat} {cd kd : Nat → Nat} {go : Nat → Nat → Nat}
theorem two_p (h : Rall σ j pn cd N kd go P k) {τ : ST} (f : Fq σ τ) : Rp σ τ pn cd := h.1.fr (Fr.rf (I := [3103, 3104, 3105, 3118]) (A := [33, 37, 38, 39])) f (by decide)
theorem two_m (h : Rall σ j pn cd N kd go P k) {τ : ST} (f : Fq σ τ) : Rm σ τ N kd go := h.2.1.fr (Fr.rf (I := [3103, 3104, 3105, 3118]) (A := [33, 37, 38, 39])) f (by decide)
theorem two_c (h : Rall σ j pn cd N kd go P k) {τ : ST} (f : Fq σ τ) : Rc σ τ N P := h.2.2.1.fr (Fr.rf (I := [3103, 3104, 3105, 3118]) (A := [33, 37, 38, 39])) f (by decide)
theorem two_h (h : Rall σ j pn cd N kd go P k) {τ : ST} (f : Fq σ τ) : Rh σ τ k := h.2.2.2.1.fr (Fr.rf (I := [3103, 3104, 3105, 3118]) (A := [33, 37, 38, 39])) f (by decide)
theorem two_k (h : Rall σ j pn cd N kd go P k) {τ : ST} (f : Fq σ τ) : Rk σ τ N j := h.2.2.2.2.fr (Fr.rf (I := [3103, 3104, 3105, 3118]) (A := [33, 37, 38, 39])) f (by decide)
theorem d_cross (H : Rall σ j pn cd N kd go P k) {c : Nat} (hc : c < N) : ∀ (n i : Nat) (τ : ST) (x : Int64), 6 - i < n → i ≤ 6 → Fq σ τ → gL τ = x → ∃ y τ', f_LT_withCrossing_L6 n (nI c) x (nI i) σ = some y ∧ f_M_sayCrossing_L2 n (nI c) (nI i) τ = some τ' ∧ Fq σ τ' ∧ gL τ' = y := by
  intro n
  induction n with
  | zero => intro i τ x h; omega
  | succ n ih =>
    intro i τ x hn hi f hx
    rw [f_LT_withCrossing_L6, f_M_sayCrossing_L2, l_5, l_6]
    by_cases q : i < 6
    · obtain ⟨v, v1, v2⟩ := tellC (two_m H f).2.1 (two_m H f).2.2.1 (two_c H f) hc (nI i)
      obtain ⟨f', hx'⟩ := Fq.say v f hx Sm.rf
      rw [if_neg (nI_nlt (by omega) (by omega)), if_neg (nI_ge q (by decide)), v1, v2, Option.bind_some, Option.bind_some, nI_1]
      exact ih (i + 1) _ _ (by omega) (by omega) f' hx'
    · rw [if_pos (nI_lt (by omega) (by omega)), if_pos (nI_le (by omega) (by omega))]
      exact ⟨x, τ, rfl, rfl, f, hx⟩
theorem has_1 (H : Rall σ j pn cd N kd go P k) {c : Nat} (hc : c < N) : f_Mine_has (nI c) σ = 1 := by
  have hN := H.2.1.2.1.1
  unfold f_Mine_has
  rw [H.2.1.2.1.2.1, ite_in hc (by omega)]
theorem way_v (H : Rall σ j pn cd N kd go P k) {a b : Nat} (ha : a < N) (hb : b < N) : f_LT_way (nI a) (nI b) 0 σ = wayV σ a b 0 ∧ f_LT_way (nI a) (nI b) 1 σ = wayV σ a b 1 ∧ f_LT_way (nI a) (nI b) 2 σ = wayV σ a b 2 := by
  have e0 : ¬ (1 : Int32) = 0 := by decide
  have e1 : ¬ (2 : Int32) = 0 := by decide
  have e2 : ¬ (2 : Int32) = 1 := by decide
  refine ⟨?_, ?_, ?_⟩
  · unfold f_LT_way wayV
    rw [has_1 H ha, has_1 H hb, if_neg n10, if_neg n10, if_pos rfl, if_pos rfl]
  · unfold f_LT_way wayV
    rw [has_1 H ha, has_1 H hb, if_neg n10, if_neg n10, if_neg e0, if_pos rfl, if_neg (show ¬ 1 = 0 by decide), if_pos rfl]
  · unfold f_LT_way wayV
    rw [has_1 H ha, has_1 H hb, if_neg n10, if_neg n10, if_neg e1, if_neg e2, if_pos rfl, if_neg (show ¬ 2 = 0 by decide), if_neg (show ¬ 2 = 1 by decide)]
theorem apart_v (H : Rall σ j pn cd N kd go P k) {a b : Nat} (ha : a < N) (hb : b < N) : f_LT_apart (nI a) (nI b) 0 σ = apartV σ a b 0 ∧ f_LT_apart (nI a) (nI b) 1 σ = apartV σ a b 1 := by
  unfold f_LT_apart
  rw [has_1 H ha, has_1 H hb, if_neg n10, if_neg n10, if_neg n10, if_neg n10]
  exact ⟨rfl, rfl⟩
theorem round_v (H : Rall σ j pn cd N kd go P k) {a : Nat} (ha : a < N) : f_LT_round (nI a) 0 σ = roundV σ a 0 ∧ f_LT_round (nI a) 1 σ = roundV σ a 1 := by
  unfold f_LT_round
  rw [has_1 H ha, if_neg n10, if_neg n10]
  exact ⟨rfl, rfl⟩
theorem d_ways (H : Rall σ j pn cd N kd go P k) {c : Nat} (hc : c < N) : ∀ (n i : Nat) (τ : ST) (x : Int64), N - i < n → i ≤ N → Fq σ τ → gL τ = x → ∃ y τ', f_LT_withCrossing_L57 n (nI c) x (nI i) σ = some y ∧ f_M_sayCrossing_L49 n (nI c) (nI i) τ = some τ' ∧ Fq σ τ' ∧ gL τ' = y := by
  have hN := H.2.1.2.1.1
  intro n
  induction n with
  | zero => intro i τ x h; omega
  | succ n ih =>
    intro i τ x hn hi f hx
    rw [f_LT_withCrossing_L57, f_M_sayCrossing_L49, H.2.1.2.1.2.1, (two_m H f).2.2.1.2.1]
    by_cases q : i < N
    · obtain ⟨w0, w1, w2⟩ := way_v H hc q
      obtain ⟨p0, p1⟩ := apart_v H hc q
      rw [if_neg (nI_ge q (by omega)), if_neg (nI_ge q (by omega)), w0, w1, w2, p0, p1]
      have hC := H.2.1.2.1
      have hR := (H.2.1.rt hc).2
      obtain ⟨τ1, t1, s1⟩ := wayOf_ok hC (two_m H f).2.2.1 hR hc q (show 0 < 3 by decide)
      obtain ⟨f1, x1⟩ := Fq.say (wayV σ c i 0) f hx s1
      have t1' : f_M_wayOf (nI c) (nI i) 0 τ = some (wayV σ c i 0, τ1) := t1
      rw [t1', Option.bind_some]
      obtain ⟨τ2, t2, s2⟩ := wayOf_ok hC (two_m H f1).2.2.1 hR hc q (show 1 < 3 by decide)
      obtain ⟨f2, x2⟩ := Fq.say (wayV σ c i 1) f1 x1 s2
      have t2' : f_M_wayOf (nI c) (nI i) 1 (f_M_say (wayV σ c i 0).toInt64 τ1) = some (wayV σ c i 1, τ2) := t2
      show ∃ y τ', _ ∧ Option.bind (f_M_wayOf (nI c) (nI i) 1 (f_M_say (wayV σ c i 0).toInt64 τ1)) _ = _ ∧ _ ∧ _
      rw [t2', Option.bind_some]
      obtain ⟨τ3, t3, s3⟩ := wayOf_ok hC (two_m H f2).2.2.1 hR hc q (show 2 < 3 by decide)
      obtain ⟨f3, x3⟩ := Fq.say (wayV σ c i 2) f2 x2 s3
      have t3' : f_M_wayOf (nI c) (nI i) 2 (f_M_say (wayV σ c i 1).toInt64 τ2) = some (wayV σ c i 2, τ3) := t3
      show ∃ y τ', _ ∧ Option.bind (f_M_wayOf (nI c) (nI i) 2 (f_M_say (wayV σ c i 1).toInt64 τ2)) _ = _ ∧ _ ∧ _
      rw [t3', Option.bind_some]
      obtain ⟨τ4, t4, s4⟩ := apartOf_ok hC (two_m H f3).2.2.1 hR hc q (show 0 < 2 by decide)
      obtain ⟨f4, x4⟩ := Fq.say (apartV σ c i 0) f3 x3 s4
      have t4' : f_M_apartOf (nI c) (nI i) 0 (f_M_say (wayV σ c i 2).toInt64 τ3) = some (apartV σ c i 0, τ4) := t4
      show ∃ y τ', _ ∧ Option.bind (f_M_apartOf (nI c) (nI i) 0 (f_M_say (wayV σ c i 2).toInt64 τ3)) _ = _ ∧ _ ∧ _
      rw [t4', Option.bind_some]
      obtain ⟨τ5, t5, s5⟩ := apartOf_ok hC (two_m H f4).2.2.1 hR hc q (show 1 < 2 by decide)
      obtain ⟨f5, x5⟩ := Fq.say (apartV σ c i 1) f4 x4 s5
      have t5' : f_M_apartOf (nI c) (nI i) 1 (f_M_say (apartV σ c i 0).toInt64 τ4) = some (apartV σ c i 1, τ5) := t5
      show ∃ y τ', _ ∧ Option.bind (f_M_apartOf (nI c) (nI i) 1 (f_M_say (apartV σ c i 0).toInt64 τ4)) _ = _ ∧ _ ∧ _
      rw [t5', Option.bind_some, nI_1]
      exact ih (i + 1) _ _ (by omega) (by omega) f5 x5
    · rw [if_pos (nI_le (by omega) (by omega)), if_pos (nI_le (by omega) (by omega))]
      exact ⟨x, τ, rfl, rfl, f, hx⟩
theorem d_one (H : Rall σ j pn cd N kd go P k) {c : Nat} (hc : c < N) {τ : ST} {x : Int64} (f : Fq σ τ) (hx : gL τ = x) : ∃ y τ', f_LT_withCrossing x (nI c) σ = some y ∧ f_M_sayCrossing (nI c) τ = some τ' ∧ Fq σ τ' ∧ gL τ' = y := by
  have hN := H.2.1.2.1.1
  have hC := H.2.1.2.1
  obtain ⟨y0, τ0, a1, a2, f0, x0⟩ := d_cross H hc 400 0 τ x (by decide) (by decide) f hx
  have a1' : f_LT_withCrossing_L6 400 (nI c) x 0 σ = some y0 := a1
  have a2' : f_M_sayCrossing_L2 400 (nI c) 0 τ = some τ0 := a2
  have hR := H.2.1.rt hc
  obtain ⟨r0, r1⟩ := round_v H hc
  obtain ⟨τ1, t1, s1⟩ := roundOf_ok hR.1 hC (two_m H f0).2.2.1 hR.2 hc (show 0 < 2 by decide)
  obtain ⟨f1, x1⟩ := Fq.say (roundV σ c 0) f0 x0 s1
  have t1' : f_M_roundOf (nI c) 0 τ0 = some (roundV σ c 0, τ1) := t1
  obtain ⟨τ2, t2, s2⟩ := roundOf_ok hR.1 hC (two_m H f1).2.2.1 hR.2 hc (show 1 < 2 by decide)
  obtain ⟨f2, x2⟩ := Fq.say (roundV σ c 1) f1 x1 s2
  have t2' : f_M_roundOf (nI c) 1 (f_M_say (roundV σ c 0).toInt64 τ1) = some (roundV σ c 1, τ2) := t2
  obtain ⟨y3, τ3, b1, b2, f3, x3⟩ := d_ways H hc 400 0 _ _ (by omega) (by omega) f2 x2
  have b1' : f_LT_withCrossing_L57 400 (nI c) (f_LT_with (f_LT_with y0 (roundV σ c 0)) (roundV σ c 1)) 0 σ = some y3 := b1
  have b2' : f_M_sayCrossing_L49 400 (nI c) 0 (f_M_say (roundV σ c 1).toInt64 τ2) = some τ3 := b2
  refine ⟨y3, τ3, ?_, ?_, f3, x3⟩
  · unfold f_LT_withCrossing
    rw [a1', Option.bind_some, r0, r1, b1']; rfl
  · unfold f_M_sayCrossing
    rw [a2', Option.bind_some, t1', Option.bind_some]
    show Option.bind (f_M_roundOf (nI c) 1 (f_M_say (roundV σ c 0).toInt64 τ1)) _ = _
    rw [t2', Option.bind_some]
    show Option.bind (f_M_sayCrossing_L49 400 (nI c) 0 (f_M_say (roundV σ c 1).toInt64 τ2)) _ = _
    rw [b2']; rfl
theorem d_all (H : Rall σ j pn cd N kd go P k) : ∀ (n i : Nat) (τ : ST) (x : Int64), N - i < n → i ≤ N → Fq σ τ → gL τ = x → ∃ y τ', f_LT_digest_L6 n x (nI i) σ = some y ∧ f_M_digest_L9 n (nI i) τ = some τ' ∧ Fq σ τ' ∧ gL τ' = y := by
  have hN := H.2.1.2.1.1
  intro n
  induction n with
  | zero => intro i τ x h; omega
  | succ n ih =>
    intro i τ x hn hi f hx
    rw [f_LT_digest_L6, f_M_digest_L9, H.2.1.2.1.2.1, (two_m H f).2.2.1.2.1]
    by_cases q : i < N
    · obtain ⟨y, τ', a1, a2, f', x'⟩ := d_one H q f hx
      rw [if_neg (nI_ge q (by omega)), if_neg (nI_ge q (by omega)), a1, a2, Option.bind_some, Option.bind_some, nI_1]
      exact ih (i + 1) _ _ (by omega) (by omega) f' x'
    · rw [if_pos (nI_le (by omega) (by omega)), if_pos (nI_le (by omega) (by omega))]
      exact ⟨x, τ, rfl, rfl, f, hx⟩
theorem d_about (H : Rall σ j pn cd N kd go P k) {c : Nat} (hc : c < P) : ∀ (n i : Nat) (τ : ST) (x : Int64), 5 - i < n → i ≤ 5 → Fq σ τ → gL τ = x → ∃ y τ', f_LT_withParty_L6 n (nI c) x (nI i) σ = some y ∧ f_M_digest_L40 n (nI c) (nI i) τ = some τ' ∧ Fq σ τ' ∧ gL τ' = y := by
  intro n
  induction n with
  | zero => intro i τ x h; omega
  | succ n ih =>
    intro i τ x hn hi f hx
    rw [f_LT_withParty_L6, f_M_digest_L40, l_5, l_4]
    by_cases q : i < 5
    · obtain ⟨f', hx'⟩ := Fq.say (f_LT_about (nI c) (nI i) σ) f hx Sm.rf
      rw [if_neg (nI_nlt (by omega) (by omega)), if_neg (nI_ge q (by decide)), tell_ok (two_c H f) hc, Option.bind_some, nI_1]
      exact ih (i + 1) _ _ (by omega) (by omega) f' hx'
    · rw [if_pos (nI_lt (by omega) (by omega)), if_pos (nI_le (by omega) (by omega))]
      exact ⟨x, τ, rfl, rfl, f, hx⟩
theorem d_meet (H : Rall σ j pn cd N kd go P k) {c : Nat} (hc : c < P) : ∀ (n i : Nat) (τ : ST) (x : Int64), P - i < n → i ≤ P → Fq σ τ → gL τ = x → ∃ y τ', f_LT_withParty_L35 n (nI c) x (nI i) σ = some y ∧ f_M_digest_L64 n (nI c) (nI i) τ = some τ' ∧ Fq σ τ' ∧ gL τ' = y := by
  have h3 := H.2.2.1.1
  intro n
  induction n with
  | zero => intro i τ x h; omega
  | succ n ih =>
    intro i τ x hn hi f hx
    have hc2 := two_c H f
    rw [f_LT_withParty_L35, f_M_digest_L64, hc2.2.1, hc2.2.2.1]
    by_cases q : i < P
    · obtain ⟨⟨qa, hqa, r0⟩, r1, -⟩ := hc2.2.2.2 c hc
      obtain ⟨⟨qb, hqb, s0⟩, s1, -⟩ := hc2.2.2.2 i q
      obtain ⟨τ1, t1, t2⟩ := meetOf_ok (two_m H f).2.2.1 (H.2.1.rt hqa).2 hqa hqb
      obtain ⟨f', hx'⟩ := Fq.say (meetV σ qa qb) f hx t2
      have em : f_LT_meet (nI c) (nI i) σ = meetV σ qa qb := by
        unfold f_LT_meet f_Camp_has_17
        rw [hc2.2.1, ite_in hc (by omega), ite_in q (by omega), if_neg n10, if_neg n10, cell_in (by omega) (by decide), cell_in (by omega) (by decide), r0, s0]; rfl
      rw [if_neg (nI_ge q (by omega)), if_neg (nI_ge q (by omega)), em, i40, i40, if_pos (inB_t (by omega) (by decide)), if_pos (inB_t (by omega) (by decide)), nI_clamp (by omega), nI_clamp (by omega), r1, s1, r0, s0, t1, Option.bind_some, nI_1]
      exact ih (i + 1) _ _ (by omega) (by omega) f' hx'
    · rw [if_pos (nI_le (by omega) (by omega)), if_pos (nI_le (by omega) (by omega))]
      exact ⟨x, τ, rfl, rfl, f, hx⟩
theorem d_parties (H : Rall σ j pn cd N kd go P k) : ∀ (n i : Nat) (τ : ST) (x : Int64), P - i < n → i ≤ P → Fq σ τ → gL τ = x → ∃ y τ', f_LT_digest_L32 n x (nI i) σ = some y ∧ f_M_digest_L30 n (nI i) τ = some τ' ∧ Fq σ τ' ∧ gL τ' = y := by
  have h3 := H.2.2.1.1
  intro n
  induction n with
  | zero => intro i τ x h; omega
  | succ n ih =>
    intro i τ x hn hi f hx
    have hc2 := two_c H f
    rw [f_LT_digest_L32, f_M_digest_L30, hc2.2.1, hc2.2.2.1]
    by_cases q : i < P
    · obtain ⟨y0, τ0, a1, a2, f0, x0⟩ := d_about H q 400 0 τ x (by decide) (by decide) f hx
      have a1' : f_LT_withParty_L6 400 (nI i) x 0 σ = some y0 := a1
      have a2' : f_M_digest_L40 400 (nI i) 0 τ = some τ0 := a2
      obtain ⟨y1, τ1, b1, b2, f1, x1⟩ := d_meet H q 400 0 τ0 y0 (by omega) (by omega) f0 x0
      have b1' : f_LT_withParty_L35 400 (nI i) y0 0 σ = some y1 := b1
      have b2' : f_M_digest_L64 400 (nI i) 0 τ0 = some τ1 := b2
      have ew : f_LT_withParty x (nI i) σ = some y1 := by
        unfold f_LT_withParty
        rw [a1', Option.bind_some, b1']; rfl
      rw [if_neg (nI_ge q (by omega)), if_neg (nI_ge q (by omega)), ew, a2', Option.bind_some, Option.bind_some, b2', Option.bind_some, nI_1]
      exact ih (i + 1) _ _ (by omega) (by omega) f1 x1
    · rw [if_pos (nI_le (by omega) (by omega)), if_pos (nI_le (by omega) (by omega))]
      exact ⟨x, τ, rfl, rfl, f, hx⟩
theorem d_page (H : Rall σ j pn cd N kd go P k) : ∀ (n i : Nat) (τ : ST) (x : Int64), pn - i < n → i ≤ pn → Fq σ τ → gL τ = x → ∃ y τ', f_LT_digest_L84 n x (nI i) σ = some y ∧ f_M_digest_L136 n (nI i) τ = some τ' ∧ Fq σ τ' ∧ gL τ' = y := by
  have h3 := H.1.1
  intro n
  induction n with
  | zero => intro i τ x h; omega
  | succ n ih =>
    intro i τ x hn hi f hx
    have hp := two_p H f
    rw [f_LT_digest_L84, f_M_digest_L136, hp.2.1, hp.2.2.1]
    by_cases q : i < pn
    · obtain ⟨-, -, r1, r2⟩ := hp.2.2.2 i q
      obtain ⟨f', hx'⟩ := Fq.say (nI (cd i)) f hx Sm.rf
      unfold f_Page_codeAt
      rw [if_neg (nI_ge q (by omega)), if_neg (nI_ge q (by omega)), if_pos (inB_t (by omega) (by decide)), nI_clamp (by omega), cell_in (by omega) (by decide), r1, r2, nI_1]
      exact ih (i + 1) _ _ (by omega) (by omega) f' hx'
    · rw [if_pos (nI_le (by omega) (by omega)), if_pos (nI_le (by omega) (by omega))]
      exact ⟨x, τ, rfl, rfl, f, hx⟩
theorem d_count (H : Rall σ j pn cd N kd go P k) : ∀ (n i : Nat) (τ : ST) (x : Int64), 9 - i < n → i ≤ 9 → Fq σ τ → gL τ = x → ∃ y τ', f_LT_digest_L116 n x (nI i) σ = some y ∧ f_M_digest_L163 n (nI i) τ = some τ' ∧ Fq σ τ' ∧ gL τ' = y := by
  intro n
  induction n with
  | zero => intro i τ x h; omega
  | succ n ih =>
    intro i τ x hn hi f hx
    rw [f_LT_digest_L116, f_M_digest_L163, l_9]
    by_cases q : i < 9
    · obtain ⟨v, v1, v2⟩ := eq_count (two_p H f) (two_m H f) (two_c H f) (two_h H f) (two_k H f) (nI i)
      obtain ⟨f', hx'⟩ := Fq.say v f hx Sm.rf
      rw [if_neg (nI_ge q (by omega)), if_neg (nI_ge q (by omega)), v1, v2, Option.bind_some, Option.bind_some, nI_1]
      exact ih (i + 1) _ _ (by omega) (by omega) f' hx'
    · rw [if_pos (nI_le (by omega) (by omega)), if_pos (nI_le (by omega) (by omega))]
      exact ⟨x, τ, rfl, rfl, f, hx⟩
theorem eq_digest (H : Rall σ j pn cd N kd go P k) : ∃ y τ', f_LT_digest σ = some y ∧ f_M_digest σ = some (y, τ') ∧ Fq σ τ' := by
  have hN := H.2.1.2.1.1
  have h3 := H.2.2.1.1
  have h28 := H.1.1
  have f0 : Fq σ (sL σ 977) := ⟨fun i hi => rfl, fun a ha => rfl⟩
  obtain ⟨y1, τ1, a1, a2, f1, x1⟩ := d_all H 400 0 (sL σ 977) 977 (by omega) (by omega) f0 rfl
  have a1' : f_LT_digest_L6 400 977 0 σ = some y1 := a1
  have a2' : f_M_digest_L9 400 0 (sL σ 977) = some τ1 := a2
  obtain ⟨y2, τ2, b1, b2, f2, x2⟩ := d_parties H 400 0 τ1 y1 (by omega) (by omega) f1 x1
  have b1' : f_LT_digest_L32 400 y1 0 σ = some y2 := b1
  have b2' : f_M_digest_L30 400 0 τ1 = some τ2 := b2
  have last : ∀ (τ : ST) (x : Int64), Fq σ τ → gL τ = x → ∃ y υ, ((f_LT_digest_L84 400 x 0 σ).bind (fun e9 => ((f_LT_digest_L116 400 e9 (0 : Int32) σ).bind (fun e12 => some e12)))) = some y ∧ ((f_M_digest_L136 400 (0 : Int32) τ).bind (fun e17 => ((f_M_digest_L163 400 (0 : Int32) e17).bind (fun e20 => some ((gL e20), e20))))) = some (y, υ) ∧ Fq σ υ := by
    intro τ x f hx
    obtain ⟨y3, τ3, c1, c2, f3, x3⟩ := d_page H 400 0 τ x (by omega) (by omega) f hx
    have c1' : f_LT_digest_L84 400 x 0 σ = some y3 := c1
    have c2' : f_M_digest_L136 400 0 τ = some τ3 := c2
    obtain ⟨y4, τ4, d1, d2, f4, x4⟩ := d_count H 400 0 τ3 y3 (by omega) (by omega) f3 x3
    have d1' : f_LT_digest_L116 400 y3 0 σ = some y4 := d1
    have d2' : f_M_digest_L163 400 0 τ3 = some τ4 := d2
    refine ⟨y4, τ4, ?_, ?_, f4⟩
    · rw [c1', Option.bind_some, d1', Option.bind_some]
    · rw [c2', Option.bind_some, d2', Option.bind_some, x4]
  unfold f_LT_digest f_M_digest
  rw [a1', a2', Option.bind_some, Option.bind_some, b1', b2', Option.bind_some, Option.bind_some]
  rcases n0_cases (two_m H f2) with ⟨h1, h2, h0⟩ | ⟨h1, h2, h0⟩
  · rw [h1, h2, if_pos rfl, if_neg n10]
    exact last τ2 y2 f2 x2
  · rw [h1, h2, if_pos rfl, if_neg n10]
    obtain ⟨v, v1, v2⟩ := where_eq (two_m H f2).2.1 (two_m H f2).2.2.1 (two_h H f2) h0
    obtain ⟨f3, x3⟩ := Fq.say v f2 x2 Sm.rf
    obtain ⟨w, w1, w2⟩ := next_eq (two_m H f3).2.1 (two_m H f3).2.2.1 (two_h H f3) h0
    obtain ⟨f4, x4⟩ := Fq.say w f3 x3 Sm.rf
    rw [v1, v2, Option.bind_some, Option.bind_some, w1, w2, Option.bind_some, Option.bind_some]
    exact last _ _ f4 x4
end DIG
