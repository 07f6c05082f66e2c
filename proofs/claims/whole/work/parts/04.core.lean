/-! THE CORE: a context X of a running method, the judgement JJ, one row an instruction, contracts Ct -/
abbrev CX : Type := Program × Launch × Env × Room × State × MethodId × Array Value × List Frame × Method × Code × Nat × Nat × (State → Prop) × (Nat → ClassId) × (Nat → Nat → Nat) × ClassId × (Nat → Nat) × (Nat → Prop) × Nat
def xp (X : CX) : Program := X.1
def xl (X : CX) : Launch := X.2.1
def xe (X : CX) : Env := X.2.2.1
def xR (X : CX) : Room := X.2.2.2.1
def xs (X : CX) : State := X.2.2.2.2.1
def xm (X : CX) : MethodId := X.2.2.2.2.2.1
def xargs (X : CX) : Array Value := X.2.2.2.2.2.2.1
def xbelow (X : CX) : List Frame := X.2.2.2.2.2.2.2.1
def xmeth (X : CX) : Method := X.2.2.2.2.2.2.2.2.1
def xc (X : CX) : Code := X.2.2.2.2.2.2.2.2.2.1
def xcells (X : CX) : Nat := X.2.2.2.2.2.2.2.2.2.2.1
def xslots (X : CX) : Nat := X.2.2.2.2.2.2.2.2.2.2.2.1
def xQ (X : CX) : State → Prop := X.2.2.2.2.2.2.2.2.2.2.2.2.1
def xdC (X : CX) : Nat → ClassId := X.2.2.2.2.2.2.2.2.2.2.2.2.2.1
def xdI (X : CX) : Nat → Nat → Nat := X.2.2.2.2.2.2.2.2.2.2.2.2.2.2.1
def xcA (X : CX) : ClassId := X.2.2.2.2.2.2.2.2.2.2.2.2.2.2.2.1
def xad (X : CX) : Nat → Nat := X.2.2.2.2.2.2.2.2.2.2.2.2.2.2.2.2.1
def xA (X : CX) : Nat → Prop := X.2.2.2.2.2.2.2.2.2.2.2.2.2.2.2.2.2.1
def xnL (X : CX) : Nat := X.2.2.2.2.2.2.2.2.2.2.2.2.2.2.2.2.2.2
/-- the machine goes on from pc, with these locals, this stack, this state of the world -/
def JJ (X : CX) (pc : Nat) (ls : List (Nat × Value)) (st : List Value) (σ : ST) : Prop :=
  ∀ (H : Heap) (locs : List Loc) (lsA : Array Slot), va_P (xdC X, xdI X) vwCl (wld (xcA X) (xad X) σ) H → va_S (xA X) (xs X).heap H locs → lv_has lsA (xnL X) ls →
    W (xp X) (xl X) (xe X) (xR X) (xs X) (xm X) (xargs X) (xbelow X) (xmeth X) (xc X) H locs (xcells X) (xslots X) (xQ X) (F0 (xm X) pc lsA st)
/-- the one text constant of the class -/
def SC (ad : Nat → Nat) (A : Nat → Prop) (U : State) (H : Heap) : Prop := vk_S 1 [5] [[46, 100, 115, 98, 119]] (fun _ => ad 43) (fun _ => ad 44) A U H ∧ vk_R "LanternTongue$Page" 58 ".dsbw" (ad 43) U ∧ va_Z "java/lang/String" "COMPACT_STRINGS" "Z" (.int 1) A U H
/-- what a running method knows -/
def Ok (X : CX) (own : String) (cc : ByteArray) (nL D : Nat) : Prop :=
  (xp X).tables.exec = Jvm.exec ∧ (xc X).code = cc ∧ (xc X).maxLocals = nL ∧ xnL X = nL ∧ (xs X).vm.findClass own = some (xm X).cls ∧ (∀ w ∈ GW, w.before (xargs X) (xs X) = true) ∧ NW (xs X) ∧
  va_K (xdC X, xdI X) vwCl [(xcA X, .int)] (xs X) ∧ (∀ σ, va_D (xA X) (wld (xcA X) (xad X) σ)) ∧ (∀ q, (xs X).heap.size ≤ q → xA X q) ∧ (xmeth X).locks = false ∧ SC (xad X) (xA X) (xs X) (xs X).heap ∧
  (xR X).frames = D ∧ (xR X).locals = 38 * D ∧ xcells X ≤ (xR X).cells ∧ xslots X ≤ (xR X).slots
def rmd (d : Nat) : Room := { frames := d, cells := 0, slots := 0, locals := 38 * d }
def Wd (dC : Nat → ClassId) (dI : Nat → Nat → Nat) (cA : ClassId) (ad : Nat → Nat) (sz : Nat) (σ : ST) (U : State) : Prop :=
  U.heap.size = sz ∧ va_P (dC, dI) vwCl (wld cA ad σ) U.heap ∧ va_K (dC, dI) vwCl [(cA, .int)] U ∧ va_D (fun _ => True) (wld cA ad σ) ∧ NW U ∧ SC ad (va_A (wld cA ad σ) sz) U U.heap
def Qd (dC : Nat → ClassId) (dI : Nat → Nat → Nat) (cA : ClassId) (ad : Nat → Nat) (A : Nat → Prop) (r : Option Value) (σ' : ST) : Array Value → State → Outcome → State → Prop :=
  fun _ st oc t => (oc = .returned r ∧ va_P (dC, dI) vwCl (wld cA ad σ') t.heap) ∧ va_F A st t
/-- the contract: with these arguments (the last first) and this state the method returns r and leaves σ' -/
def Ct (d : Nat) (y : MethodName) (bytes : ByteArray) (maxL : Nat) (ret : Option FieldType) (ra : (Nat → Nat) → List Value) (σ : ST) (r : Option Value) (σ' : ST) : Prop :=
  ∀ (l : Launch) (dC : Nat → ClassId) (dI : Nat → Nat → Nat) (cA : ClassId) (ad : Nat → Nat) (sz : Nat),
    Met l y (.code y bytes maxL ret :: GW) (rmd d) (va_Pc (ra ad).reverse (Wd dC dI cA ad sz σ)) (Qd dC dI cA ad (va_A (wld cA ad σ) sz) r σ') 0 0 (va_A (wld cA ad σ) sz)
/-- what the method's end asks for -/
def OkM (X : CX) (ret : Option FieldType) (r : Option Value) (σ' : ST) : Prop :=
  (xmeth X).sig.returnType = ret ∧ xcells X = 0 ∧ xslots X = 0 ∧ xQ X = MQ (xbelow X) (Qd (xdC X) (xdI X) (xcA X) (xad X) (xA X) r σ') (xargs X) (xs X) 0 0 (xA X)
theorem wld_ad (cA : ClassId) (ad : Nat → Nat) (σ σ' : ST) : (wld cA ad σ).map Prod.fst = (wld cA ad σ').map Prod.fst := rfl
theorem va_D_addr {A : Nat → Prop} {w w' : va_W} (h : w.map Prod.fst = w'.map Prod.fst) (hD : va_D A w) : va_D A w' := by
  have key : ∀ (k : Nat) (q : Nat × va_E), w'[k]? = some q → ∃ q2, w[k]? = some q2 ∧ q2.1 = q.1 := by
    intro k q hq
    have h1 : (w'.map Prod.fst)[k]? = some q.1 := by rw [List.getElem?_map, hq]; rfl
    rw [← h, List.getElem?_map] at h1
    cases hw : w[k]? with
    | none => rw [hw] at h1; cases h1
    | some q2 => rw [hw] at h1; exact ⟨q2, rfl, Option.some.inj h1⟩
  refine ⟨fun i j p q hp hq e => ?_, fun k q hq => ?_⟩
  · obtain ⟨p2, a1, a2⟩ := key i p hp
    obtain ⟨q2, b1, b2⟩ := key j q hq
    exact hD.1 i j p2 q2 a1 b1 (by rw [a2, b2]; exact e)
  · obtain ⟨q2, b1, b2⟩ := key k q hq
    rw [← b2]; exact hD.2 k q2 b1
theorem va_A_addr {w w' : va_W} (h : w.map Prod.fst = w'.map Prod.fst) {sz q : Nat} (ha : va_A w sz q) : va_A w' sz q := by
  rcases ha with ⟨k, e, hk⟩ | ha
  · have h1 : (w.map Prod.fst)[k]? = some q := by rw [List.getElem?_map, hk]; rfl
    rw [h, List.getElem?_map] at h1
    cases hw : w'[k]? with
    | none => rw [hw] at h1; cases h1
    | some q2 =>
      rw [hw] at h1
      have e1 : q2.1 = q := Option.some.inj h1
      exact Or.inl ⟨k, q2.2, by rw [hw, ← e1]⟩
  · exact Or.inr ha
theorem SC.warm {ad : Nat → Nat} {A : Nat → Prop} {s U : State} {H : Heap} (hW : s.WarmedH U.vm) (h : SC ad A s H) : SC ad A U H := ⟨vk_S.moved hW.alike h.1, vk_R.warm hW h.2.1, va_Z.moved hW.alike h.2.2⟩
theorem SC.kept {ad : Nat → Nat} {A : Nat → Prop} {U : State} {H H1 : Heap} (h : SC ad A U H) (hq : ∀ a : Nat, a < H.size → ¬ A a → H1[a]? = H[a]?) : SC ad A U H1 := ⟨vk_S.kept h.1 hq, h.2.1, h.2.2.kept hq⟩
theorem SC.narrow {ad : Nat → Nat} {A B : Nat → Prop} {U : State} {H : Heap} (h : SC ad A U H) (hAB : ∀ q, B q → A q) : SC ad B U H := ⟨vk_S.narrow h.1 hAB, h.2.1, h.2.2.narrow hAB⟩
theorem Wd.blind {av : List Value} {dC : Nat → ClassId} {dI : Nat → Nat → Nat} {cA : ClassId} {ad : Nat → Nat} {sz : Nat} {σ : ST} : FrameBlind (va_Pc av (Wd dC dI cA ad sz σ)) := by
  intro a U g m h
  obtain ⟨h0, h1, h2, h3, h4, h5, h6, h7, h8⟩ := h
  exact ⟨h0, h1, h2, va_K.moved (u := U) (U := U.calling g m a) (Vm.Alike.refl U.vm) h3, h4, NW.same (u := U) rfl h5, vk_S.moved (u := U) (Vm.Alike.refl U.vm) h6, vk_R.same (u := U) rfl h7, va_Z.moved (u := U) (Vm.Alike.refl U.vm) h8⟩
/-- a contract out of a walk -/
theorem Ct.of {d : Nat} {y : MethodName} {bytes : ByteArray} {maxL : Nat} {ret : Option FieldType} {ra : (Nat → Nat) → List Value} {σ : ST} {r : Option Value} {σ' : ST} {ls : (Nat → Nat) → List (Nat × Value)}
    (hy : plainName y.cls = true) (hlen : ∀ ad, (lg_sl (ra ad).reverse).length ≤ maxL) (hls : ∀ ad, lv_args 0 (ra ad).reverse = ls ad)
    (body : ∀ X, Ok X y.cls bytes maxL d → OkM X ret r σ' → JJ X 0 (ls (xad X)) [] σ) : Ct d y bytes maxL ret ra σ r σ' := by
  intro l dC dI cA ad sz
  refine Met.ofW (cc := bytes) (maxL := maxL) (ret := ret) hy rfl ?_
  intro p e s m args below meth c s₁ B hml hv
  obtain ⟨rfl, hsz, hP, hK, hD0, hN, hC⟩ := hv
  subst hsz
  have hts0 := atoms_spec (ws := .code y bytes maxL ret :: GW) B.pre
  have hl := lv_entry (ra ad).reverse (n := maxL) (hlen ad)
  rw [hls] at hl
  rw [lg_entry_eq]
  have b := body (p, l, e, rmd d, s, m, (ra ad).reverse.toArray, below, meth, c, 0, 0, MQ below (Qd dC dI cA ad (va_A (wld cA ad σ) s.heap.size) r σ') (ra ad).reverse.toArray s 0 0 (va_A (wld cA ad σ) s.heap.size), dC, dI, cA, ad, va_A (wld cA ad σ) s.heap.size, maxL)
    ⟨B.exec, B.bytes, hml, rfl, findClass_of_methodNamed B.named, fun w hw => hts0 w (List.mem_cons_of_mem _ hw), hN, hK, fun σ2 => va_D_addr (wld_ad cA ad σ σ2) hD0.self, fun q hq => Or.inr hq, B.notSynchronized, hC, rfl, rfl, Nat.le_refl 0, Nat.le_refl 0⟩
    ⟨B.returns, rfl, rfl, rfl⟩
  exact b s.heap [] _ hP va_S.rf hl
section ROWS
variable {X : CX} {own : String} {cc : ByteArray} {nL D pc : Nat} {ls ls' : List (Nat × Value)} {st : List Value} {σ σ' : ST}
theorem JJ.sub (ks : List Nat) (hk : lv_pick ls ks = ls') (k : JJ X pc ls' st σ) : JJ X pc ls st σ := fun H locs lsA hP hS hl => k H locs lsA hP hS (lv_sub hl ks hk)
theorem JJ.iconst (hX : Ok X own cc nL D) {n : Int} {v : Int32} (hd : decode cc pc = .ok (.iconst n, 1)) (hv : Int32.ofInt n = v) (k : JJ X (pc + 1) ls (.int v :: st) σ) : JJ X pc ls st σ := fun H locs lsA hP hS hl => lv_iconst hX.1 hX.2.1 hd hv (k H locs lsA hP hS hl)
theorem JJ.bipush (hX : Ok X own cc nL D) {n : Int} {v : Int32} (hd : decode cc pc = .ok (.bipush n, 2)) (hv : (Int8.ofInt n).toInt32 = v) (k : JJ X (pc + 2) ls (.int v :: st) σ) : JJ X pc ls st σ := fun H locs lsA hP hS hl => lv_bipush hX.1 hX.2.1 hd hv (k H locs lsA hP hS hl)
theorem JJ.sipush (hX : Ok X own cc nL D) {n : Int} {v : Int32} (hd : decode cc pc = .ok (.sipush n, 3)) (hv : (Int16.ofInt n).toInt32 = v) (k : JJ X (pc + 3) ls (.int v :: st) σ) : JJ X pc ls st σ := fun H locs lsA hP hS hl => lv_sipush hX.1 hX.2.1 hd hv (k H locs lsA hP hS hl)
theorem JJ.lconst (hX : Ok X own cc nL D) {n : Fin 2} {v : Int64} (hd : decode cc pc = .ok (.lconst n, 1)) (hv : Int64.ofNat (n : Nat) = v) (k : JJ X (pc + 1) ls (.long v :: st) σ) : JJ X pc ls st σ := fun H locs lsA hP hS hl => lv_lconst hX.1 hX.2.1 hd hv (k H locs lsA hP hS hl)
theorem JJ.ldc (hX : Ok X own cc nL D) {index : Nat} {v : Int32} (hc : Cond.constant own index v ∈ GW) (hd : decode cc pc = .ok (.ldc index, 2)) (k : JJ X (pc + 2) ls (.int v :: st) σ) : JJ X pc ls st σ := fun H locs lsA hP hS hl => lv_ldc hX.1 hX.2.1 hX.2.2.2.2.1 (hX.2.2.2.2.2.1 _ hc) hd (k H locs lsA hP hS hl)
theorem JJ.ldcw (hX : Ok X own cc nL D) {index : Nat} {v : Int32} (hc : Cond.constant own index v ∈ GW) (hd : decode cc pc = .ok (.ldc_w index, 3)) (k : JJ X (pc + 3) ls (.int v :: st) σ) : JJ X pc ls st σ := fun H locs lsA hP hS hl => lv_ldcw hX.1 hX.2.1 hX.2.2.2.2.1 (hX.2.2.2.2.2.1 _ hc) hd (k H locs lsA hP hS hl)
theorem JJ.ldc2 (hX : Ok X own cc nL D) {index : Nat} {v : Int64} (hc : Cond.constantLong own index v ∈ GW) (hd : decode cc pc = .ok (.ldc2_w index, 3)) (k : JJ X (pc + 3) ls (.long v :: st) σ) : JJ X pc ls st σ := fun H locs lsA hP hS hl => lv_ldc2 hX.1 hX.2.1 hX.2.2.2.2.1 (hX.2.2.2.2.2.1 _ hc) hd (k H locs lsA hP hS hl)
theorem JJ.iload_n (hX : Ok X own cc nL D) {n : Fin 4} {x : Int32} (j : Nat) (hd : decode cc pc = .ok (.iload_n n, 1)) (hj : ls[j]? = some ((n : Nat), .int x)) (k : JJ X (pc + 1) ls (.int x :: st) σ) : JJ X pc ls st σ := fun H locs lsA hP hS hl => lv_iload_n hX.1 hX.2.1 hd rfl (lv_at hl j hj) (k H locs lsA hP hS hl)
theorem JJ.iload (hX : Ok X own cc nL D) {i : Nat} {x : Int32} (j : Nat) (hd : decode cc pc = .ok (.iload i, 2)) (hj : ls[j]? = some (i, .int x)) (k : JJ X (pc + 2) ls (.int x :: st) σ) : JJ X pc ls st σ := fun H locs lsA hP hS hl => lv_iload hX.1 hX.2.1 hd (lv_at hl j hj) (k H locs lsA hP hS hl)
theorem JJ.lload_n (hX : Ok X own cc nL D) {n : Fin 4} {x : Int64} (j : Nat) (hd : decode cc pc = .ok (.lload_n n, 1)) (hj : ls[j]? = some ((n : Nat), .long x)) (k : JJ X (pc + 1) ls (.long x :: st) σ) : JJ X pc ls st σ := fun H locs lsA hP hS hl => lv_lload_n hX.1 hX.2.1 hd rfl (lv_at hl j hj) (k H locs lsA hP hS hl)
theorem JJ.lload (hX : Ok X own cc nL D) {i : Nat} {x : Int64} (j : Nat) (hd : decode cc pc = .ok (.lload i, 2)) (hj : ls[j]? = some (i, .long x)) (k : JJ X (pc + 2) ls (.long x :: st) σ) : JJ X pc ls st σ := fun H locs lsA hP hS hl => lv_lload hX.1 hX.2.1 hd (lv_at hl j hj) (k H locs lsA hP hS hl)
theorem JJ.aload_n (hX : Ok X own cc nL D) {n : Fin 4} {x : Nat} (j : Nat) (hd : decode cc pc = .ok (.aload_n n, 1)) (hj : ls[j]? = some ((n : Nat), .ref x)) (k : JJ X (pc + 1) ls (.ref x :: st) σ) : JJ X pc ls st σ := fun H locs lsA hP hS hl => lv_aload_n hX.1 hX.2.1 hd rfl (lv_at hl j hj) (k H locs lsA hP hS hl)
theorem JJ.aload (hX : Ok X own cc nL D) {i : Nat} {x : Nat} (j : Nat) (hd : decode cc pc = .ok (.aload i, 2)) (hj : ls[j]? = some (i, .ref x)) (k : JJ X (pc + 2) ls (.ref x :: st) σ) : JJ X pc ls st σ := fun H locs lsA hP hS hl => lv_aload hX.1 hX.2.1 hd (lv_at hl j hj) (k H locs lsA hP hS hl)
/-- the locals, ordered by place, behind a store at i -/
def stL (i : Nat) (v : Value) (ls : List (Nat × Value)) : List (Nat × Value) := ls.filter (fun q => Nat.blt q.1 i) ++ (i, v) :: ls.filter (fun q => Nat.blt i q.1)
theorem stL_has {lsA : Array Slot} {nL i : Nat} {v : Value} {ls : List (Nat × Value)} (hc : ls.all (fun q => !(q.1 + 1 == i && q.2.category == 2)) = true) (h : lv_has lsA nL ((i, v) :: ls.filter (fun q => !(q.1 == i) && !(q.1 + 1 == i && q.2.category == 2)))) : lv_has lsA nL (stL i v ls) := by
  refine ⟨h.1, h.2.1, fun q hq => h.2.2 q ?_⟩
  unfold stL at hq
  rcases List.mem_append.mp hq with hq | hq
  · obtain ⟨h1, h2⟩ := List.mem_filter.mp hq
    have h3 := List.all_eq_true.mp hc q h1
    have h4 : q.1 < i := by simpa using h2
    refine List.mem_cons_of_mem _ (List.mem_filter.mpr ⟨h1, ?_⟩)
    rw [h3, Bool.and_true]
    have : q.1 ≠ i := by omega
    simpa using this
  · rcases List.mem_cons.mp hq with hq | hq
    · rw [hq]; exact List.mem_cons_self
    · obtain ⟨h1, h2⟩ := List.mem_filter.mp hq
      have h3 := List.all_eq_true.mp hc q h1
      have h4 : i < q.1 := by simpa using h2
      refine List.mem_cons_of_mem _ (List.mem_filter.mpr ⟨h1, ?_⟩)
      rw [h3, Bool.and_true]
      have : q.1 ≠ i := by omega
      simpa using this
theorem stL_has2 {lsA : Array Slot} {nL i : Nat} {v : Value} {ls : List (Nat × Value)} (hc : ls.all (fun q => !(q.1 == i + 1) && !(q.1 + 1 == i && q.2.category == 2)) = true) (h : lv_has lsA nL ((i, v) :: ls.filter (fun q => !(q.1 == i) && (!(q.1 == i + 1) && !(q.1 + 1 == i && q.2.category == 2))))) : lv_has lsA nL (stL i v ls) := by
  refine ⟨h.1, h.2.1, fun q hq => h.2.2 q ?_⟩
  unfold stL at hq
  rcases List.mem_append.mp hq with hq | hq
  · obtain ⟨h1, h2⟩ := List.mem_filter.mp hq
    have h3 := List.all_eq_true.mp hc q h1
    have h4 : q.1 < i := by simpa using h2
    refine List.mem_cons_of_mem _ (List.mem_filter.mpr ⟨h1, ?_⟩)
    rw [h3, Bool.and_true]
    have : q.1 ≠ i := by omega
    simpa using this
  · rcases List.mem_cons.mp hq with hq | hq
    · rw [hq]; exact List.mem_cons_self
    · obtain ⟨h1, h2⟩ := List.mem_filter.mp hq
      have h3 := List.all_eq_true.mp hc q h1
      have h4 : i < q.1 := by simpa using h2
      refine List.mem_cons_of_mem _ (List.mem_filter.mpr ⟨h1, ?_⟩)
      rw [h3, Bool.and_true]
      have : q.1 ≠ i := by omega
      simpa using this
theorem JJ.istore_n (hX : Ok X own cc nL D) {n : Fin 4} {x : Int32} (hd : decode cc pc = .ok (.istore_n n, 1)) (hn : (n : Nat) < nL) (hc : ls.all (fun q => !(q.1 + 1 == (n : Nat) && q.2.category == 2)) = true) (hs : stL (n : Nat) (.int x) ls = ls') (k : JJ X (pc + 1) ls' st σ) : JJ X pc ls (.int x :: st) σ := fun H locs lsA hP hS hl => lv_istore_n hX.1 hX.2.1 hd rfl hl (by rw [hX.2.2.2.1]; exact hn) rfl (fun ls2 h2 => k H locs ls2 hP hS (hs ▸ stL_has hc h2))
theorem JJ.istore (hX : Ok X own cc nL D) {i : Nat} {x : Int32} (hd : decode cc pc = .ok (.istore i, 2)) (hn : i < nL) (hc : ls.all (fun q => !(q.1 + 1 == i && q.2.category == 2)) = true) (hs : stL i (.int x) ls = ls') (k : JJ X (pc + 2) ls' st σ) : JJ X pc ls (.int x :: st) σ := fun H locs lsA hP hS hl => lv_istore hX.1 hX.2.1 hd hl (by rw [hX.2.2.2.1]; exact hn) rfl (fun ls2 h2 => k H locs ls2 hP hS (hs ▸ stL_has hc h2))
theorem JJ.lstore_n (hX : Ok X own cc nL D) {n : Fin 4} {x : Int64} (hd : decode cc pc = .ok (.lstore_n n, 1)) (hn : (n : Nat) + 1 < nL) (hc : ls.all (fun q => !(q.1 == (n : Nat) + 1) && !(q.1 + 1 == (n : Nat) && q.2.category == 2)) = true) (hs : stL (n : Nat) (.long x) ls = ls') (k : JJ X (pc + 1) ls' st σ) : JJ X pc ls (.long x :: st) σ := fun H locs lsA hP hS hl => lv_lstore_n hX.1 hX.2.1 hd rfl hl (by rw [hX.2.2.2.1]; exact hn) rfl (fun ls2 h2 => k H locs ls2 hP hS (hs ▸ stL_has2 hc h2))
theorem JJ.lstore (hX : Ok X own cc nL D) {i : Nat} {x : Int64} (hd : decode cc pc = .ok (.lstore i, 2)) (hn : i + 1 < nL) (hc : ls.all (fun q => !(q.1 == i + 1) && !(q.1 + 1 == i && q.2.category == 2)) = true) (hs : stL i (.long x) ls = ls') (k : JJ X (pc + 2) ls' st σ) : JJ X pc ls (.long x :: st) σ := fun H locs lsA hP hS hl => lv_lstore hX.1 hX.2.1 hd hl (by rw [hX.2.2.2.1]; exact hn) rfl (fun ls2 h2 => k H locs ls2 hP hS (hs ▸ stL_has2 hc h2))
theorem JJ.iinc (hX : Ok X own cc nL D) {i : Nat} {n : Int} {x v : Int32} (j : Nat) (hd : decode cc pc = .ok (.iinc i n, 3)) (hj : ls[j]? = some (i, .int x)) (hv : Int32.ofInt n = v) (hn : i < nL) (hc : ls.all (fun q => !(q.1 + 1 == i && q.2.category == 2)) = true) (hs : stL i (.int (x + v)) ls = ls') (k : JJ X (pc + 3) ls' st σ) : JJ X pc ls st σ := fun H locs lsA hP hS hl => lv_iinc hX.1 hX.2.1 hd hl hj (by rw [hv]) (by rw [hX.2.2.2.1]; exact hn) rfl (fun ls2 h2 => k H locs ls2 hP hS (hs ▸ stL_has hc h2))
theorem JJ.iadd (hX : Ok X own cc nL D) {x y : Int32} (hd : decode cc pc = .ok (.iadd, 1)) (k : JJ X (pc + 1) ls (.int (x + y) :: st) σ) : JJ X pc ls (.int y :: .int x :: st) σ := fun H locs lsA hP hS hl => lv_iadd hX.1 hX.2.1 hd (k H locs lsA hP hS hl)
theorem JJ.isub (hX : Ok X own cc nL D) {x y : Int32} (hd : decode cc pc = .ok (.isub, 1)) (k : JJ X (pc + 1) ls (.int (x - y) :: st) σ) : JJ X pc ls (.int y :: .int x :: st) σ := fun H locs lsA hP hS hl => lv_isub hX.1 hX.2.1 hd (k H locs lsA hP hS hl)
theorem JJ.imul (hX : Ok X own cc nL D) {x y : Int32} (hd : decode cc pc = .ok (.imul, 1)) (k : JJ X (pc + 1) ls (.int (x * y) :: st) σ) : JJ X pc ls (.int y :: .int x :: st) σ := fun H locs lsA hP hS hl => lv_imul hX.1 hX.2.1 hd (k H locs lsA hP hS hl)
theorem JJ.idiv (hX : Ok X own cc nL D) {x y : Int32} (hd : decode cc pc = .ok (.idiv, 1)) (hne : ¬ y = 0) (k : JJ X (pc + 1) ls (.int (x / y) :: st) σ) : JJ X pc ls (.int y :: .int x :: st) σ := fun H locs lsA hP hS hl => lv_idiv hX.1 hX.2.1 hd hne (k H locs lsA hP hS hl)
theorem JJ.irem (hX : Ok X own cc nL D) {x y : Int32} (hd : decode cc pc = .ok (.irem, 1)) (hne : ¬ y = 0) (k : JJ X (pc + 1) ls (.int (x - x / y * y) :: st) σ) : JJ X pc ls (.int y :: .int x :: st) σ := fun H locs lsA hP hS hl => lv_irem hX.1 hX.2.1 hd hne (k H locs lsA hP hS hl)
theorem JJ.ishl (hX : Ok X own cc nL D) {x y : Int32} (hd : decode cc pc = .ok (.ishl, 1)) (k : JJ X (pc + 1) ls (.int (x <<< (y &&& 31)) :: st) σ) : JJ X pc ls (.int y :: .int x :: st) σ := fun H locs lsA hP hS hl => lv_ishl hX.1 hX.2.1 hd (k H locs lsA hP hS hl)
theorem JJ.ishr (hX : Ok X own cc nL D) {x y : Int32} (hd : decode cc pc = .ok (.ishr, 1)) (k : JJ X (pc + 1) ls (.int (x >>> (y &&& 31)) :: st) σ) : JJ X pc ls (.int y :: .int x :: st) σ := fun H locs lsA hP hS hl => lv_ishr hX.1 hX.2.1 hd (k H locs lsA hP hS hl)
theorem JJ.iushr (hX : Ok X own cc nL D) {x y : Int32} (hd : decode cc pc = .ok (.iushr, 1)) (k : JJ X (pc + 1) ls (.int ((x.toUInt32 >>> (y.toUInt32 &&& Int32.toUInt32 31)).toInt32) :: st) σ) : JJ X pc ls (.int y :: .int x :: st) σ := fun H locs lsA hP hS hl => lv_iushr hX.1 hX.2.1 hd rfl (k H locs lsA hP hS hl)
theorem JJ.ior (hX : Ok X own cc nL D) {x y : Int32} (hd : decode cc pc = .ok (.ior, 1)) (k : JJ X (pc + 1) ls (.int (x ||| y) :: st) σ) : JJ X pc ls (.int y :: .int x :: st) σ := fun H locs lsA hP hS hl => lv_ior hX.1 hX.2.1 hd (k H locs lsA hP hS hl)
theorem JJ.iand (hX : Ok X own cc nL D) {x y : Int32} (hd : decode cc pc = .ok (.iand, 1)) (k : JJ X (pc + 1) ls (.int (x &&& y) :: st) σ) : JJ X pc ls (.int y :: .int x :: st) σ := fun H locs lsA hP hS hl => lv_iand hX.1 hX.2.1 hd (k H locs lsA hP hS hl)
theorem JJ.i2l (hX : Ok X own cc nL D) {x : Int32} (hd : decode cc pc = .ok (.i2l, 1)) (k : JJ X (pc + 1) ls (.long x.toInt64 :: st) σ) : JJ X pc ls (.int x :: st) σ := fun H locs lsA hP hS hl => lv_i2l hX.1 hX.2.1 hd rfl (k H locs lsA hP hS hl)
theorem JJ.l2i (hX : Ok X own cc nL D) {x : Int64} (hd : decode cc pc = .ok (.l2i, 1)) (k : JJ X (pc + 1) ls (.int x.toInt32 :: st) σ) : JJ X pc ls (.long x :: st) σ := fun H locs lsA hP hS hl => lv_l2i hX.1 hX.2.1 hd rfl (k H locs lsA hP hS hl)
theorem JJ.i2c (hX : Ok X own cc nL D) {x : Int32} (hd : decode cc pc = .ok (.i2c, 1)) (k : JJ X (pc + 1) ls (.int (x.toUInt32 % 65536).toInt32 :: st) σ) : JJ X pc ls (.int x :: st) σ := fun H locs lsA hP hS hl => lv_i2c hX.1 hX.2.1 hd rfl (k H locs lsA hP hS hl)
theorem JJ.ladd (hX : Ok X own cc nL D) {x y : Int64} (hd : decode cc pc = .ok (.ladd, 1)) (k : JJ X (pc + 1) ls (.long (x + y) :: st) σ) : JJ X pc ls (.long y :: .long x :: st) σ := fun H locs lsA hP hS hl => lv_ladd hX.1 hX.2.1 hd (k H locs lsA hP hS hl)
theorem JJ.lmul (hX : Ok X own cc nL D) {x y : Int64} (hd : decode cc pc = .ok (.lmul, 1)) (k : JJ X (pc + 1) ls (.long (x * y) :: st) σ) : JJ X pc ls (.long y :: .long x :: st) σ := fun H locs lsA hP hS hl => lv_lmul hX.1 hX.2.1 hd (k H locs lsA hP hS hl)
theorem JJ.lrem (hX : Ok X own cc nL D) {x y : Int64} (hd : decode cc pc = .ok (.lrem, 1)) (hne : ¬ y = 0) (k : JJ X (pc + 1) ls (.long (x - x / y * y) :: st) σ) : JJ X pc ls (.long y :: .long x :: st) σ := fun H locs lsA hP hS hl => lv_lrem hX.1 hX.2.1 hd hne (k H locs lsA hP hS hl)
theorem JJ.land (hX : Ok X own cc nL D) {x y : Int64} (hd : decode cc pc = .ok (.land, 1)) (k : JJ X (pc + 1) ls (.long (x &&& y) :: st) σ) : JJ X pc ls (.long y :: .long x :: st) σ := fun H locs lsA hP hS hl => lv_land hX.1 hX.2.1 hd (k H locs lsA hP hS hl)
theorem JJ.lcmp (hX : Ok X own cc nL D) {x y : Int64} (hd : decode cc pc = .ok (.lcmp, 1)) (k : JJ X (pc + 1) ls (.int (lg_cmp x y) :: st) σ) : JJ X pc ls (.long y :: .long x :: st) σ := fun H locs lsA hP hS hl => W.lcmp hX.1 hX.2.1 hd (k H locs lsA hP hS hl)
theorem JJ.dup (hX : Ok X own cc nL D) {v : Value} (hd : decode cc pc = .ok (.dup, 1)) (hv : v.category = 1) (k : JJ X (pc + 1) ls (v :: v :: st) σ) : JJ X pc ls (v :: st) σ := fun H locs lsA hP hS hl => lv_dup hX.1 hX.2.1 hd hv (k H locs lsA hP hS hl)
theorem JJ.dup2 (hX : Ok X own cc nL D) {v w : Value} (hd : decode cc pc = .ok (.dup2, 1)) (hv : v.category = 1) (hw : w.category = 1) (k : JJ X (pc + 1) ls (v :: w :: v :: w :: st) σ) : JJ X pc ls (v :: w :: st) σ := fun H locs lsA hP hS hl => lv_dup2_11 hX.1 hX.2.1 hd hv hw (k H locs lsA hP hS hl)
theorem JJ.pop (hX : Ok X own cc nL D) {v : Value} (hd : decode cc pc = .ok (.pop, 1)) (hv : v.category = 1) (k : JJ X (pc + 1) ls st σ) : JJ X pc ls (v :: st) σ := fun H locs lsA hP hS hl => lv_pop hX.1 hX.2.1 hd hv (k H locs lsA hP hS hl)
theorem JJ.goto (hX : Ok X own cc nL D) {off : Int} {tgt : Nat} (hd : decode cc pc = .ok (.goto off, 3)) (ht : (pc : Int) + off = (tgt : Int)) (k : JJ X tgt ls st σ) : JJ X pc ls st σ := fun H locs lsA hP hS hl => lv_goto hX.1 hX.2.1 hd ht (k H locs lsA hP hS hl)
theorem JJ.icmp_eq (hX : Ok X own cc nL D) {x y : Int32} {off : Int} {tgt : Nat} (hd : decode cc pc = .ok (.if_icmp .eq off, 3)) (ht : (pc : Int) + off = (tgt : Int)) (kt : x = y → JJ X tgt ls st σ) (kf : ¬ x = y → JJ X (pc + 3) ls st σ) : JJ X pc ls (.int y :: .int x :: st) σ := fun H locs lsA hP hS hl => lv_icmp_eq hX.1 hX.2.1 hd ht (fun h => kt h H locs lsA hP hS hl) (fun h => kf h H locs lsA hP hS hl)
theorem JJ.icmp_ne (hX : Ok X own cc nL D) {x y : Int32} {off : Int} {tgt : Nat} (hd : decode cc pc = .ok (.if_icmp .ne off, 3)) (ht : (pc : Int) + off = (tgt : Int)) (kt : ¬ x = y → JJ X tgt ls st σ) (kf : x = y → JJ X (pc + 3) ls st σ) : JJ X pc ls (.int y :: .int x :: st) σ := fun H locs lsA hP hS hl => lv_icmp_ne hX.1 hX.2.1 hd ht (fun h => kt h H locs lsA hP hS hl) (fun h => kf h H locs lsA hP hS hl)
theorem JJ.icmp_lt (hX : Ok X own cc nL D) {x y : Int32} {off : Int} {tgt : Nat} (hd : decode cc pc = .ok (.if_icmp .lt off, 3)) (ht : (pc : Int) + off = (tgt : Int)) (kt : x < y → JJ X tgt ls st σ) (kf : ¬ x < y → JJ X (pc + 3) ls st σ) : JJ X pc ls (.int y :: .int x :: st) σ := fun H locs lsA hP hS hl => lv_icmp_lt hX.1 hX.2.1 hd ht (fun h => kt h H locs lsA hP hS hl) (fun h => kf h H locs lsA hP hS hl)
theorem JJ.icmp_ge (hX : Ok X own cc nL D) {x y : Int32} {off : Int} {tgt : Nat} (hd : decode cc pc = .ok (.if_icmp .ge off, 3)) (ht : (pc : Int) + off = (tgt : Int)) (kt : y ≤ x → JJ X tgt ls st σ) (kf : ¬ y ≤ x → JJ X (pc + 3) ls st σ) : JJ X pc ls (.int y :: .int x :: st) σ := fun H locs lsA hP hS hl => lv_icmp_ge hX.1 hX.2.1 hd ht (fun h => kt h H locs lsA hP hS hl) (fun h => kf h H locs lsA hP hS hl)
theorem JJ.icmp_gt (hX : Ok X own cc nL D) {x y : Int32} {off : Int} {tgt : Nat} (hd : decode cc pc = .ok (.if_icmp .gt off, 3)) (ht : (pc : Int) + off = (tgt : Int)) (kt : y < x → JJ X tgt ls st σ) (kf : ¬ y < x → JJ X (pc + 3) ls st σ) : JJ X pc ls (.int y :: .int x :: st) σ := fun H locs lsA hP hS hl => lv_icmp_gt hX.1 hX.2.1 hd ht (fun h => kt h H locs lsA hP hS hl) (fun h => kf h H locs lsA hP hS hl)
theorem JJ.icmp_le (hX : Ok X own cc nL D) {x y : Int32} {off : Int} {tgt : Nat} (hd : decode cc pc = .ok (.if_icmp .le off, 3)) (ht : (pc : Int) + off = (tgt : Int)) (kt : x ≤ y → JJ X tgt ls st σ) (kf : ¬ x ≤ y → JJ X (pc + 3) ls st σ) : JJ X pc ls (.int y :: .int x :: st) σ := fun H locs lsA hP hS hl => lv_icmp_le hX.1 hX.2.1 hd ht (fun h => kt h H locs lsA hP hS hl) (fun h => kf h H locs lsA hP hS hl)
theorem JJ.if_eq (hX : Ok X own cc nL D) {x : Int32} {off : Int} {tgt : Nat} (hd : decode cc pc = .ok (.ifCond .eq off, 3)) (ht : (pc : Int) + off = (tgt : Int)) (kt : x = 0 → JJ X tgt ls st σ) (kf : ¬ x = 0 → JJ X (pc + 3) ls st σ) : JJ X pc ls (.int x :: st) σ := fun H locs lsA hP hS hl => lv_if_eq hX.1 hX.2.1 hd ht (fun h => kt h H locs lsA hP hS hl) (fun h => kf h H locs lsA hP hS hl)
theorem JJ.if_ne (hX : Ok X own cc nL D) {x : Int32} {off : Int} {tgt : Nat} (hd : decode cc pc = .ok (.ifCond .ne off, 3)) (ht : (pc : Int) + off = (tgt : Int)) (kt : ¬ x = 0 → JJ X tgt ls st σ) (kf : x = 0 → JJ X (pc + 3) ls st σ) : JJ X pc ls (.int x :: st) σ := fun H locs lsA hP hS hl => lv_if_ne hX.1 hX.2.1 hd ht (fun h => kt h H locs lsA hP hS hl) (fun h => kf h H locs lsA hP hS hl)
theorem JJ.if_lt (hX : Ok X own cc nL D) {x : Int32} {off : Int} {tgt : Nat} (hd : decode cc pc = .ok (.ifCond .lt off, 3)) (ht : (pc : Int) + off = (tgt : Int)) (kt : x < 0 → JJ X tgt ls st σ) (kf : ¬ x < 0 → JJ X (pc + 3) ls st σ) : JJ X pc ls (.int x :: st) σ := fun H locs lsA hP hS hl => lv_if_lt hX.1 hX.2.1 hd ht (fun h => kt h H locs lsA hP hS hl) (fun h => kf h H locs lsA hP hS hl)
theorem JJ.if_ge (hX : Ok X own cc nL D) {x : Int32} {off : Int} {tgt : Nat} (hd : decode cc pc = .ok (.ifCond .ge off, 3)) (ht : (pc : Int) + off = (tgt : Int)) (kt : 0 ≤ x → JJ X tgt ls st σ) (kf : ¬ 0 ≤ x → JJ X (pc + 3) ls st σ) : JJ X pc ls (.int x :: st) σ := fun H locs lsA hP hS hl => lv_if_ge hX.1 hX.2.1 hd ht (fun h => kt h H locs lsA hP hS hl) (fun h => kf h H locs lsA hP hS hl)
theorem JJ.if_gt (hX : Ok X own cc nL D) {x : Int32} {off : Int} {tgt : Nat} (hd : decode cc pc = .ok (.ifCond .gt off, 3)) (ht : (pc : Int) + off = (tgt : Int)) (kt : 0 < x → JJ X tgt ls st σ) (kf : ¬ 0 < x → JJ X (pc + 3) ls st σ) : JJ X pc ls (.int x :: st) σ := fun H locs lsA hP hS hl => lv_if_gt hX.1 hX.2.1 hd ht (fun h => kt h H locs lsA hP hS hl) (fun h => kf h H locs lsA hP hS hl)
theorem JJ.if_le (hX : Ok X own cc nL D) {x : Int32} {off : Int} {tgt : Nat} (hd : decode cc pc = .ok (.ifCond .le off, 3)) (ht : (pc : Int) + off = (tgt : Int)) (kt : x ≤ 0 → JJ X tgt ls st σ) (kf : ¬ x ≤ 0 → JJ X (pc + 3) ls st σ) : JJ X pc ls (.int x :: st) σ := fun H locs lsA hP hS hl => lv_if_le hX.1 hX.2.1 hd ht (fun h => kt h H locs lsA hP hS hl) (fun h => kf h H locs lsA hP hS hl)
theorem JJ.tableIn (hX : Ok X own cc nL D) {dflt lo hi : Int} {offs : Array Int} {len : Nat} {x v : Int32} {off : Int} {tgt : Nat} (hx : x = v) (hd : decode cc pc = .ok (.tableswitch dflt lo hi offs, len)) (h1 : ¬ v.toInt < lo) (h2 : ¬ hi < v.toInt) (ho : offs[(v.toInt - lo).toNat]? = some off) (ht : (pc : Int) + off = (tgt : Int)) (k : JJ X tgt ls st σ) : JJ X pc ls (.int x :: st) σ := fun H locs lsA hP hS hl => by
  subst hx
  exact lv_tableIn hX.1 hX.2.1 hd h1 h2 ho ht (k H locs lsA hP hS hl)
theorem JJ.tableOut (hX : Ok X own cc nL D) {dflt lo hi : Int} {offs : Array Int} {len : Nat} {x : Int32} {tgt : Nat} (hd : decode cc pc = .ok (.tableswitch dflt lo hi offs, len)) (h : x.toInt < lo ∨ hi < x.toInt) (ht : (pc : Int) + dflt = (tgt : Int)) (k : JJ X tgt ls st σ) : JJ X pc ls (.int x :: st) σ := fun H locs lsA hP hS hl => lv_tableOut hX.1 hX.2.1 hd h ht (k H locs lsA hP hS hl)
theorem JJ.lookup (hX : Ok X own cc nL D) {dflt : Int} {ps : Array (Int × Int)} {len : Nat} {x : Int32} {off : Int} {tgt : Nat} (hd : decode cc pc = .ok (.lookupswitch dflt ps, len)) (hp : (ps.toList.zip (ps.toList.drop 1)).all (fun (a, next) => a.1 < next.1) = true) (ho : Op.lookupswitch.offset ps.toList dflt x.toInt = off) (ht : (pc : Int) + off = (tgt : Int)) (k : JJ X tgt ls st σ) : JJ X pc ls (.int x :: st) σ := fun H locs lsA hP hS hl => lv_lookup hX.1 hX.2.1 hd hp ho ht (k H locs lsA hP hS hl)
theorem sw_out {n : Nat} {x : Int32} (h : ∀ k : Nat, k ≤ n → ¬ x = nI k) (hn : n < 2 ^ 31) : x.toInt < (0 : Int) ∨ (n : Int) < x.toInt := by
  by_cases h0 : x.toInt < 0
  · exact Or.inl h0
  · refine Or.inr ?_
    by_cases h1 : (n : Int) < x.toInt
    · exact h1
    · exfalso
      have e : ¬ x < 0 := by
        intro z
        have := Int32.lt_iff_toInt_lt.mp z
        exact h0 (by simpa using this)
      obtain ⟨j, hj, rfl⟩ := nI_of e
      rw [nI_toInt hj] at h1
      exact h j (by omega) rfl
-- fields
theorem JJ.get (hX : Ok X own cc nL D) (q ci k : Nat) {C : String} {T : u_T} {N idx : Nat} {fs : List Value} {v : Value} (hcl : vwCl[ci]? = some (C, T, N)) (hin : ∀ w ∈ u_ws C T N, w ∈ GW) (hk : k < N) (hl : Cond.fieldLink own idx (T k).1 (T k).2.1 (T k).2.2.1 ∈ GW) (he : (wld (xcA X) (xad X) σ)[q]? = some (xad X q, .inr (ci, fs))) (hv : fs[k]? = some v)
    (hd : decode cc pc = .ok (.getfield idx, 3)) (kk : JJ X (pc + 3) ls (v :: st) σ) : JJ X pc ls (.ref (xad X q) :: st) σ := fun H locs lsA hP hS h2 => by
  obtain ⟨hx, hb, hml, hnl, hown, hts, hN, hK, hD, hA, hlo, hC, -⟩ := hX
  exact va_get (D := (xdC X, xdI X)) hx hb hts hin hown hK hP q he hcl k hk (hts _ hl) (fun _ h => h) hv hd (kk H locs lsA hP hS h2)
theorem JJ.getN (hX : Ok X own cc nL D) (q ci k : Nat) {C host : String} {T : u_T} {N idx : Nat} {fs : List Value} {v : Value} (hcl : vwCl[ci]? = some (C, T, N)) (hin : ∀ w ∈ u_ws C T N, w ∈ GW) (hk : k < N) (hl : Cond.fieldLinkNest own idx (T k).1 (T k).2.1 (T k).2.2.1 host ∈ nestW) (he : (wld (xcA X) (xad X) σ)[q]? = some (xad X q, .inr (ci, fs))) (hv : fs[k]? = some v)
    (hd : decode cc pc = .ok (.getfield idx, 3)) (kk : JJ X (pc + 3) ls (v :: st) σ) : JJ X pc ls (.ref (xad X q) :: st) σ := fun H locs lsA hP hS h2 => by
  obtain ⟨hx, hb, hml, hnl, hown, hts, hN, hK, hD, hA, hlo, hC, -⟩ := hX
  exact va_getN (D := (xdC X, xdI X)) hx hb hts hin hown hK hP q he hcl k hk (va_Nw.use rfl (hN _ hl)) (fun _ h => h) hv hd (kk H locs lsA hP hS h2)
theorem JJ.put (hX : Ok X own cc nL D) (q ci k : Nat) {C : String} {T : u_T} {N idx : Nat} {fs : List Value} {v : Value} {ty : FieldType} {ty0 : Nat → FieldType} (hcl : vwCl[ci]? = some (C, T, N)) (hin : ∀ w ∈ u_ws C T N, w ∈ GW) (hty : ∀ k, k < N → parseFieldDescriptor (T k).2.2.1 = some (ty0 k)) (hnm : ∀ a, a < N → ∀ b, b < N → a ≠ b → (T a).2.1 ≠ (T b).2.1) (hk : k < N) (hl : Cond.fieldLink own idx (T k).1 (T k).2.1 (T k).2.2.1 ∈ GW) (he : (wld (xcA X) (xad X) σ)[q]? = some (xad X q, .inr (ci, fs))) (hfin : (T k).2.2.2 = false) (hd2 : parseFieldDescriptor (T k).2.2.1 = some ty) (hn : narrow ty v = v) (hfit : fits ty v = true) (hlen : k < fs.length)
    (hset : (wld (xcA X) (xad X) σ).set q (xad X q, .inr (ci, fs.set k v)) = wld (xcA X) (xad X) σ')
    (hd : decode cc pc = .ok (.putfield idx, 3)) (kk : JJ X (pc + 3) ls st σ') : JJ X pc ls (v :: .ref (xad X q) :: st) σ := fun H locs lsA hP hS h2 => by
  obtain ⟨hx, hb, hml, hnl, hown, hts, hN, hK, hD, hA, hlo, hC, -⟩ := hX
  exact va_put (D := (xdC X, xdI X)) hx hb hts hin ty0 hty hnm hown hK hP (hD σ) hS q he hcl k hk (hts _ hl) (fun _ h => h) hfin hd2 hn hfit hlen hd (fun H1 locs1 hP1 _ hS1 => kk H1 locs1 lsA (hset ▸ hP1) hS1 h2)
theorem JJ.putN (hX : Ok X own cc nL D) (q ci k : Nat) {C host : String} {T : u_T} {N idx : Nat} {fs : List Value} {v : Value} {ty : FieldType} {ty0 : Nat → FieldType} (hcl : vwCl[ci]? = some (C, T, N)) (hin : ∀ w ∈ u_ws C T N, w ∈ GW) (hty : ∀ k, k < N → parseFieldDescriptor (T k).2.2.1 = some (ty0 k)) (hnm : ∀ a, a < N → ∀ b, b < N → a ≠ b → (T a).2.1 ≠ (T b).2.1) (hk : k < N) (hl : Cond.fieldLinkNest own idx (T k).1 (T k).2.1 (T k).2.2.1 host ∈ nestW) (he : (wld (xcA X) (xad X) σ)[q]? = some (xad X q, .inr (ci, fs))) (hfin : (T k).2.2.2 = false) (hd2 : parseFieldDescriptor (T k).2.2.1 = some ty) (hn : narrow ty v = v) (hfit : fits ty v = true) (hlen : k < fs.length)
    (hset : (wld (xcA X) (xad X) σ).set q (xad X q, .inr (ci, fs.set k v)) = wld (xcA X) (xad X) σ')
    (hd : decode cc pc = .ok (.putfield idx, 3)) (kk : JJ X (pc + 3) ls st σ') : JJ X pc ls (v :: .ref (xad X q) :: st) σ := fun H locs lsA hP hS h2 => by
  obtain ⟨hx, hb, hml, hnl, hown, hts, hN, hK, hD, hA, hlo, hC, -⟩ := hX
  exact va_putN (D := (xdC X, xdI X)) hx hb hts hin ty0 hty hnm hown hK hP (hD σ) hS q he hcl k hk (va_Nw.use rfl (hN _ hl)) (fun _ h => h) hfin hd2 hn hfit hlen hd (fun H1 locs1 hP1 _ hS1 => kk H1 locs1 lsA (hset ▸ hP1) hS1 h2)
-- arrays
theorem JJ.iald (hX : Ok X own cc nL D) (q : Nat) {n : Nat} {f : Nat → Int32} {i : Int32} (he : (wld (xcA X) (xad X) σ)[q]? = some (xad X q, .inl (xcA X, n, .inl f))) (hin : vp_in i n) (hd : decode cc pc = .ok (.iaload, 1)) (kk : JJ X (pc + 1) ls (.int (f i.toNatClampNeg) :: st) σ) : JJ X pc ls (.int i :: .ref (xad X q) :: st) σ := fun H locs lsA hP hS h2 => by
  obtain ⟨hx, hb, hml, hnl, hown, hts, hN, hK, hD, hA, hlo, hC, -⟩ := hX
  exact va_iald (D := (xdC X, xdI X)) hx hb hK hP q 0 he rfl hin hd (kk H locs lsA hP hS h2)
theorem JJ.iast (hX : Ok X own cc nL D) (q : Nat) {n : Nat} {f : Nat → Int32} {i x : Int32} (he : (wld (xcA X) (xad X) σ)[q]? = some (xad X q, .inl (xcA X, n, .inl f))) (hset : (wld (xcA X) (xad X) σ).set q (xad X q, .inl (xcA X, n, .inl (upd f i.toNatClampNeg x))) = wld (xcA X) (xad X) σ') (hin : vp_in i n) (hd : decode cc pc = .ok (.iastore, 1)) (kk : JJ X (pc + 1) ls st σ') : JJ X pc ls (.int x :: .int i :: .ref (xad X q) :: st) σ := fun H locs lsA hP hS h2 => by
  obtain ⟨hx, hb, hml, hnl, hown, hts, hN, hK, hD, hA, hlo, hC, -⟩ := hX
  exact va_iast (D := (xdC X, xdI X)) hx hb hK hP (hD σ) hS q 0 he rfl hin hd (fun H1 locs1 hP1 _ hS1 => kk H1 locs1 lsA (hset ▸ hP1) hS1 h2)
theorem JJ.alen (hX : Ok X own cc nL D) (q : Nat) {n : Nat} {f : Nat → Int32} {v : Int32} (he : (wld (xcA X) (xad X) σ)[q]? = some (xad X q, .inl (xcA X, n, .inl f))) (hv : Int32.ofNat n = v) (hd : decode cc pc = .ok (.arraylength, 1)) (kk : JJ X (pc + 1) ls (.int v :: st) σ) : JJ X pc ls (.ref (xad X q) :: st) σ := fun H locs lsA hP hS h2 => by
  obtain ⟨hx, hb, hml, hnl, hown, hts, hN, hK, hD, hA, hlo, hC, -⟩ := hX
  exact va_alen (D := (xdC X, xdI X)) hx hb hK hP q 0 he rfl hv hd (kk H locs lsA hP hS h2)
-- ends
theorem JJ.iret (hX : Ok X own cc nL D) {v : Int32} (hM : OkM X (some .int) (some (.int v)) σ) (hd : decode cc pc = .ok (.ireturn, 1)) : JJ X pc ls [.int v] σ := fun H locs lsA hP hS h2 => by
  obtain ⟨hx, hb, hml, hnl, hown, hts, hN, hK, hD, hA, hlo, hC, -⟩ := hX
  obtain ⟨hr, h3, h4, h5⟩ := hM
  rw [h5, h3, h4]
  exact W.iret (Qc := Qd (xdC X) (xdI X) (xcA X) (xad X) (xA X) (some (.int v)) σ) hx hb hr (fun t ht _ => ⟨⟨rfl, by rw [ht]; exact hP⟩, hS.F ht⟩) hS.2.2 hd hlo
theorem JJ.zret (hX : Ok X own cc nL D) {v : Int32} {ty : FieldType} (hM : OkM X (some ty) (some (.int v)) σ) (hn : narrow ty (.int v) = .int v) (hd : decode cc pc = .ok (.ireturn, 1)) : JJ X pc ls [.int v] σ := fun H locs lsA hP hS h2 => by
  obtain ⟨hx, hb, hml, hnl, hown, hts, hN, hK, hD, hA, hlo, hC, -⟩ := hX
  obtain ⟨hr, h3, h4, h5⟩ := hM
  rw [h5, h3, h4]
  exact W.zret (Qc := Qd (xdC X) (xdI X) (xcA X) (xad X) (xA X) (some (.int v)) σ) hx hb hr hn (fun t ht _ => ⟨⟨rfl, by rw [ht]; exact hP⟩, hS.F ht⟩) hS.2.2 hd hlo
/-- a boolean's end: the lowest bit -/
theorem JJ.bret (hX : Ok X own cc nL D) {v : Int32} (hM : OkM X (some .boolean) (some (.int (v &&& 1))) σ) (hd : decode cc pc = .ok (.ireturn, 1)) : JJ X pc ls [.int v] σ := fun H locs lsA hP hS h2 => by
  obtain ⟨hx, hb, hml, hnl, hown, hts, hN, hK, hD, hA, hlo, hC, -⟩ := hX
  obtain ⟨hr, h3, h4, h5⟩ := hM
  rw [h5, h3, h4]
  intro T hT Y
  obtain ⟨fs, hret, hrun, hended, hW, hframe⟩ := Y.leave (v := some (.int (v &&& 1))) (hlocks := hlo) (fun h => by rw [hr] at h; cases h)
  have hmeth' : T.vm.method? (xm X) = some (xmeth X) := Y.method'
  refine ⟨T.setFrames fs, ?_, .returned (some (.int (v &&& 1))), hrun, hended, ⟨⟨rfl, by show va_P _ _ _ T.heap; rw [hT]; exact hP⟩, hS.F hT⟩, locs, ⟨⟨_, rfl⟩, hW, hframe⟩, hS.2.2⟩
  jvm_step Y.here [Y.here.top, hx, hb, hd, hmeth', hr, narrow]
  (try refine ⟨rfl, ?_⟩); (try refine ⟨rfl, ?_⟩)
  first | (intro acts; rw [hret _ acts rfl rfl rfl]) | rw [hret _ _ rfl rfl rfl]
  exact Steps.refl _
theorem JJ.lret (hX : Ok X own cc nL D) {v : Int64} (hM : OkM X (some .long) (some (.long v)) σ) (hd : decode cc pc = .ok (.lreturn, 1)) : JJ X pc ls [.long v] σ := fun H locs lsA hP hS h2 => by
  obtain ⟨hx, hb, hml, hnl, hown, hts, hN, hK, hD, hA, hlo, hC, -⟩ := hX
  obtain ⟨hr, h3, h4, h5⟩ := hM
  rw [h5, h3, h4]
  exact W.lret (Qc := Qd (xdC X) (xdI X) (xcA X) (xad X) (xA X) (some (.long v)) σ) hx hb hr (fun t ht _ => ⟨⟨rfl, by rw [ht]; exact hP⟩, hS.F ht⟩) hS.2.2 hd hlo
theorem JJ.vret (hX : Ok X own cc nL D) (hM : OkM X none none σ) (hd : decode cc pc = .ok (.return_, 1)) : JJ X pc ls [] σ := fun H locs lsA hP hS h2 => by
  obtain ⟨hx, hb, hml, hnl, hown, hts, hN, hK, hD, hA, hlo, hC, -⟩ := hX
  obtain ⟨hr, h3, h4, h5⟩ := hM
  rw [h5, h3, h4]
  exact W.vret (Qc := Qd (xdC X) (xdI X) (xcA X) (xad X) (xA X) none σ) hx hb hr (fun t ht _ => ⟨⟨rfl, by rw [ht]; exact hP⟩, hS.F ht⟩) hS.2.2 hd hlo
-- calls
theorem JJ.fin {H : Heap} {locs : List Loc} {lsA : Array Slot} {rest st0 : List Value} {r : Option Value} {av : Array Value} (hX : Ok X own cc nL D) (hS : va_S (xA X) (xs X).heap H locs) (hl : lv_has lsA (xnL X) ls)
    (hr : va_Run (xp X) (xl X) (xe X) (xR X) (xs X) (xm X) (xargs X) (xbelow X) (xmeth X) (xc X) H locs (xcells X) (xslots X) 0 0 (F0 (xm X) pc lsA st0) rest (Qd (xdC X) (xdI X) (xcA X) (xad X) (va_A (wld (xcA X) (xad X) σ) H.size) r σ' av) (va_A (wld (xcA X) (xad X) σ) H.size))
    (kk : JJ X (pc + 3) ls (r.toList ++ rest) σ') : W (xp X) (xl X) (xe X) (xR X) (xs X) (xm X) (xargs X) (xbelow X) (xmeth X) (xc X) H locs (xcells X) (xslots X) (xQ X) (F0 (xm X) pc lsA st0) := by
  have hF : ∀ q, va_A (wld (xcA X) (xad X) σ) H.size q → xA X q := by
    intro q hq
    rcases hq with ⟨k, e, hk⟩ | hq
    · exact (hX.2.2.2.2.2.2.2.2.1 σ).2 k (q, e) hk
    · exact hX.2.2.2.2.2.2.2.2.2.1 q (Nat.le_trans hS.1 hq)
  intro T hT Y
  obtain ⟨v, st₀, t, T', L, h0, Y', hL, e1, e2, ⟨⟨hv, hp⟩, hz, hk⟩, go⟩ := hr T hT Y
  cases hv
  rw [h0] at hz hk
  obtain ⟨t2, a1, b1⟩ := kk T'.heap (locs ++ L) lsA (by rw [e1]; exact hp)
    ⟨Nat.le_trans hS.1 (by rw [e1]; exact hz), fun q h1 h2 => by rw [e1, hk q (Nat.lt_of_lt_of_le h1 hS.1) (fun z => h2 (hF q z))]; exact hS.2.1 q h1 h2, fun q hq => by
      rcases List.mem_append.mp hq with h | h
      · exact hS.2.2 q h
      · exact hF _ (hL q h)⟩ hl T' rfl Y'
  exact ⟨t2, go t2 a1, b1⟩
theorem JJ.pre {H : Heap} {locs : List Loc} (hX : Ok X own cc nL D) (hP : va_P (xdC X, xdI X) vwCl (wld (xcA X) (xad X) σ) H) (hS : va_S (xA X) (xs X).heap H locs) (av : List Value) : PreS (xs X) H (va_Pc av (Wd (xdC X) (xdI X) (xcA X) (xad X) H.size σ)) av := by
  obtain ⟨hx, hb, hml, hnl, hown, hts, hN, hK, hD, hA, hlo, hC, -⟩ := hX
  refine ⟨Wd.blind, fun U hU hW => ⟨rfl, by rw [hU], by rw [hU]; exact hP, va_K.moved hW.alike hK, (hD σ).weaken (fun _ _ _ _ => trivial), NW.warm hW hN, ?_⟩⟩
  rw [hU]
  refine SC.warm hW (SC.narrow (SC.kept hC hS.2.1) (fun q hq => ?_))
  rcases hq with ⟨k, e, hk⟩ | hq
  · exact (hD σ).2 k (q, e) hk
  · exact hA q (Nat.le_trans hS.1 hq)
/-- what the tables say of a callee -/
def Cal (y : MethodName) (bytes : ByteArray) (maxL n : Nat) (ret : Option FieldType) : Prop := Cond.code y bytes maxL ret ∈ GW ∧ Cond.initialized y.cls ∈ GW ∧ (y.cls ≠ "java/lang/invoke/MethodHandle" ∧ y.cls ≠ "java/lang/invoke/VarHandle" ∧ (parseMethodDescriptor y.desc).map (fun d => d.parameters.length) = some n)
def CalV (y : MethodName) : Prop := Cond.instanceMethod y ∈ GW ∧ Cond.selects y.cls y y ∈ GW
/-- the receiver's class -/
def Rcv (X : CX) (σ : ST) (q : Nat) (C : String) : Prop := ∀ (H : Heap) (locs : List Loc), va_P (xdC X, xdI X) vwCl (wld (xcA X) (xad X) σ) H → va_S (xA X) (xs X).heap H locs → ∃ cell : Cell, H[xad X q]? = some cell ∧ cell.vm.isStatics = false ∧ (xs X).vm.findClass C = some cell.cls
theorem Rcv.obj (hX : Ok X own cc nL D) {q ci : Nat} {C : vw_C} {fs : List Value} (hci : vwCl[ci]? = some C) (he : (wld (xcA X) (xad X) σ)[q]? = some (xad X q, .inr (ci, fs))) : Rcv X σ q C.1 := fun H locs hP hS => va_recv hX.2.2.2.2.2.2.2.1 hP hci he
theorem Rcv.str (hX : Ok X own cc nL D) : Rcv X σ 43 "java/lang/String" := fun H locs hP hS => vk_recv (i := 0) hX.2.2.2.2.2.2.2.2.2.2.2.1.1 (by decide) hS
theorem JJ.callV (hX : Ok X own cc nL D) {d idx maxL n q : Nat} {y : MethodName} {bytes : ByteArray} {ret : Option FieldType} {ra : (Nat → Nat) → List Value} {r : Option Value} {As st0 : List Value} (hc : Ct d y bytes maxL ret ra σ r σ') (hcal : Cal y bytes maxL n ret) (hv : CalV y) (hlk : Cond.methodLink own idx y ∈ GW)
    (hra : (ra (xad X)).reverse = .ref (xad X q) :: As) (hst : st0 = As.reverse ++ .ref (xad X q) :: st) (hn : As.length = n) (hrc : Rcv X σ q y.cls)
    (hroom : (st.map fun v => v.category).sum ≤ 8) (hdd : d + 1 ≤ D ∧ maxL ≤ 19) (hd : decode cc pc = .ok (.invokevirtual idx, 3)) (kk : JJ X (pc + 3) ls (r.toList ++ st) σ') : JJ X pc ls st0 σ := fun H locs lsA hP hS hl => by
  have hX0 := hX
  obtain ⟨hx, hb, hml, hnl, hown, hts, hN, hK, hD, hA, hlo, hC, hfr, hlc, hce, hsl⟩ := hX
  subst hst
  have hpre := JJ.pre hX0 hP hS (ra (xad X)).reverse
  have hrec := hrc H locs hP hS
  refine JJ.fin (σ := σ) (r := r) (av := (Value.ref (xad X q) :: As).toArray) hX0 hS hl (va_runV (cc := cc) (nL := nL) (Ts := GW) (own := own) (C := y.cls) (index := idx) (bytes := bytes) (maxL := maxL) (ret := ret) (n := n) (b := xad X q) (As := As) (rest := st) ⟨hx, hb, hml, hown, hts⟩ (hc (xl X) (xdC X) (xdI X) (xcA X) (xad X) H.size)
    ⟨callB_of n hts (GW_in hcal.1) rfl rfl rfl (hts _ hcal.2.1) (hts _ hlk) hcal.2.2 ⟨by show d + 1 ≤ _; omega, by show 8 + (maxL + 11) + 38 * d ≤ _; omega⟩, hts _ hv.1, hts _ hv.2⟩
    ⟨hpre.1, hrec, fun U hU hW => by have h7 := hpre.2 U hU hW; rw [hra] at h7; rw [hra]; exact h7⟩ rfl hn (by rw [← hnl]; exact hl.1) rfl (lv_room hroom) hd ⟨hce, hsl⟩) kk
theorem JJ.callVN (hX : Ok X own cc nL D) {d idx maxL n q : Nat} {y : MethodName} {host : String} {bytes : ByteArray} {ret : Option FieldType} {ra : (Nat → Nat) → List Value} {r : Option Value} {As st0 : List Value} (hc : Ct d y bytes maxL ret ra σ r σ') (hcal : Cal y bytes maxL n ret) (hv : CalV y) (hlk : Cond.methodLinkNest own idx y host ∈ nestW)
    (hra : (ra (xad X)).reverse = .ref (xad X q) :: As) (hst : st0 = As.reverse ++ .ref (xad X q) :: st) (hn : As.length = n) (hrc : Rcv X σ q y.cls)
    (hroom : (st.map fun v => v.category).sum ≤ 8) (hdd : d + 1 ≤ D ∧ maxL ≤ 19) (hd : decode cc pc = .ok (.invokevirtual idx, 3)) (kk : JJ X (pc + 3) ls (r.toList ++ st) σ') : JJ X pc ls st0 σ := fun H locs lsA hP hS hl => by
  have hX0 := hX
  obtain ⟨hx, hb, hml, hnl, hown, hts, hN, hK, hD, hA, hlo, hC, hfr, hlc, hce, hsl⟩ := hX
  subst hst
  have hpre := JJ.pre hX0 hP hS (ra (xad X)).reverse
  have hrec := hrc H locs hP hS
  refine JJ.fin (σ := σ) (r := r) (av := (Value.ref (xad X q) :: As).toArray) hX0 hS hl (va_runVN (cc := cc) (nL := nL) (Ts := GW) (own := own) (host := host) (C := y.cls) (index := idx) (bytes := bytes) (maxL := maxL) (ret := ret) (n := n) (b := xad X q) (As := As) (rest := st) ⟨hx, hb, hml, hown, hts⟩ (hc (xl X) (xdC X) (xdI X) (xcA X) (xad X) H.size)
    ⟨va_cnB n hts (GW_in hcal.1) rfl rfl rfl (hN _ hlk) (hts _ hcal.2.1) hcal.2.2 ⟨by show d + 1 ≤ _; omega, by show 8 + (maxL + 11) + 38 * d ≤ _; omega⟩, hts _ hv.1, hts _ hv.2⟩
    ⟨hpre.1, hrec, fun U hU hW => by have h7 := hpre.2 U hU hW; rw [hra] at h7; rw [hra]; exact h7⟩ rfl hn (by rw [← hnl]; exact hl.1) rfl (lv_room hroom) hd ⟨hce, hsl⟩) kk
theorem JJ.callS (hX : Ok X own cc nL D) {d idx maxL n : Nat} {y : MethodName} {bytes : ByteArray} {ret : Option FieldType} {ra : (Nat → Nat) → List Value} {r : Option Value} {st0 : List Value} (hc : Ct d y bytes maxL ret ra σ r σ') (hcal : Cal y bytes maxL n ret) (hv : Cond.static y ∈ GW) (hlk : Cond.methodLink own idx y ∈ GW)
    (hst : st0 = ra (xad X) ++ st) (hn : (ra (xad X)).length = n)
    (hroom : (st.map fun v => v.category).sum ≤ 8) (hdd : d + 1 ≤ D ∧ maxL ≤ 19) (hd : decode cc pc = .ok (.invokestatic idx, 3)) (kk : JJ X (pc + 3) ls (r.toList ++ st) σ') : JJ X pc ls st0 σ := fun H locs lsA hP hS hl => by
  have hX0 := hX
  obtain ⟨hx, hb, hml, hnl, hown, hts, hN, hK, hD, hA, hlo, hC, hfr, hlc, hce, hsl⟩ := hX
  subst hst
  have hpre := JJ.pre hX0 hP hS (ra (xad X)).reverse
  refine JJ.fin (σ := σ) (r := r) (av := (ra (xad X)).reverse.toArray) hX0 hS hl (va_runS (cc := cc) (nL := nL) (Ts := GW) (own := own) (index := idx) (bytes := bytes) (maxL := maxL) (ret := ret) (n := n) (As := (ra (xad X)).reverse) (rest := st) ⟨hx, hb, hml, hown, hts⟩ (hc (xl X) (xdC X) (xdI X) (xcA X) (xad X) H.size)
    ⟨callB_of n hts (GW_in hcal.1) rfl rfl rfl (hts _ hcal.2.1) (hts _ hlk) hcal.2.2 ⟨by show d + 1 ≤ _; omega, by show 8 + (maxL + 11) + 38 * d ≤ _; omega⟩, hts _ hv⟩
    hpre rfl (by rw [List.length_reverse]; exact hn) (by rw [← hnl]; exact hl.1) (by rw [List.reverse_reverse]) (lv_room hroom) hd ⟨hce, hsl⟩) kk
theorem JJ.callSN (hX : Ok X own cc nL D) {d idx maxL n : Nat} {y : MethodName} {host : String} {bytes : ByteArray} {ret : Option FieldType} {ra : (Nat → Nat) → List Value} {r : Option Value} {st0 : List Value} (hc : Ct d y bytes maxL ret ra σ r σ') (hcal : Cal y bytes maxL n ret) (hv : Cond.static y ∈ GW) (hlk : Cond.methodLinkNest own idx y host ∈ nestW)
    (hst : st0 = ra (xad X) ++ st) (hn : (ra (xad X)).length = n)
    (hroom : (st.map fun v => v.category).sum ≤ 8) (hdd : d + 1 ≤ D ∧ maxL ≤ 19) (hd : decode cc pc = .ok (.invokestatic idx, 3)) (kk : JJ X (pc + 3) ls (r.toList ++ st) σ') : JJ X pc ls st0 σ := fun H locs lsA hP hS hl => by
  have hX0 := hX
  obtain ⟨hx, hb, hml, hnl, hown, hts, hN, hK, hD, hA, hlo, hC, hfr, hlc, hce, hsl⟩ := hX
  subst hst
  have hpre := JJ.pre hX0 hP hS (ra (xad X)).reverse
  refine JJ.fin (σ := σ) (r := r) (av := (ra (xad X)).reverse.toArray) hX0 hS hl (va_runSN (cc := cc) (nL := nL) (Ts := GW) (own := own) (host := host) (index := idx) (bytes := bytes) (maxL := maxL) (ret := ret) (n := n) (As := (ra (xad X)).reverse) (rest := st) ⟨hx, hb, hml, hown, hts⟩ (hc (xl X) (xdC X) (xdI X) (xcA X) (xad X) H.size)
    ⟨va_cnB n hts (GW_in hcal.1) rfl rfl rfl (hN _ hlk) (hts _ hcal.2.1) hcal.2.2 ⟨by show d + 1 ≤ _; omega, by show 8 + (maxL + 11) + 38 * d ≤ _; omega⟩, hts _ hv, trivial⟩
    hpre rfl (by rw [List.length_reverse]; exact hn) (by rw [← hnl]; exact hl.1) (by rw [List.reverse_reverse]) (lv_room hroom) hd ⟨hce, hsl⟩) kk
theorem JJ.mmax (hX : Ok X own cc nL D) {idx : Nat} {x y : Int32} (hlk : Cond.methodLink own idx Lib.Math.max.name ∈ GW) (hst : Cond.static Lib.Math.max.name ∈ GW) (hin : Cond.initialized "java/lang/Math" ∈ GW) (hco : Cond.code Lib.Math.max.name Lib.Math.max.code 2 (some .int) ∈ GW) (hroom : (st.map fun v => v.category).sum ≤ 8) (hdd : 1 ≤ D) (hd : decode cc pc = .ok (.invokestatic idx, 3)) (kk : JJ X (pc + 3) ls (.int (if x < y then y else x) :: st) σ) : JJ X pc ls (.int y :: .int x :: st) σ := fun H locs lsA hP hS hl => by
  obtain ⟨hx, hb, hml, hnl, hown, hts, hN, hK, hD, hA, hlo, hC, hfr, hlc, hce, hsl⟩ := hX
  exact va_mmax hx hb (by rw [hml, ← hnl]; exact hl.1.symm) hown (hts _ hlk) (hts _ hst) (hts _ hin) (hts _ hco) (by omega) (by omega) hce hsl hd (kk H locs lsA hP hS hl)
theorem JJ.mmin (hX : Ok X own cc nL D) {idx : Nat} {x y : Int32} (hlk : Cond.methodLink own idx Lib.Math.min.name ∈ GW) (hst : Cond.static Lib.Math.min.name ∈ GW) (hin : Cond.initialized "java/lang/Math" ∈ GW) (hco : Cond.code Lib.Math.min.name Lib.Math.min.code 2 (some .int) ∈ GW) (hroom : (st.map fun v => v.category).sum ≤ 8) (hdd : 1 ≤ D) (hd : decode cc pc = .ok (.invokestatic idx, 3)) (kk : JJ X (pc + 3) ls (.int (if y < x then y else x) :: st) σ) : JJ X pc ls (.int y :: .int x :: st) σ := fun H locs lsA hP hS hl => by
  obtain ⟨hx, hb, hml, hnl, hown, hts, hN, hK, hD, hA, hlo, hC, hfr, hlc, hce, hsl⟩ := hX
  exact va_mmin hx hb (by rw [hml, ← hnl]; exact hl.1.symm) hown (hts _ hlk) (hts _ hst) (hts _ hin) (hts _ hco) (by omega) (by omega) hce hsl hd (kk H locs lsA hP hS hl)
theorem JJ.callVi (hX : Ok X own cc nL D) {d idx maxL n q : Nat} {y : MethodName} {bytes : ByteArray} {ret : Option FieldType} {ra : (Nat → Nat) → List Value} {As st0 : List Value} {v : Int32} (hc : Ct d y bytes maxL ret ra σ (some (.int v)) σ') (hcal : Cal y bytes maxL n ret) (hv : CalV y) (hlk : Cond.methodLink own idx y ∈ GW)
    (hra : (ra (xad X)).reverse = .ref (xad X q) :: As) (hst : st0 = As.reverse ++ .ref (xad X q) :: st) (hn : As.length = n) (hrc : Rcv X σ q y.cls)
    (hroom : (st.map fun v => v.category).sum ≤ 8) (hdd : d + 1 ≤ D ∧ maxL ≤ 19) (hd : decode cc pc = .ok (.invokevirtual idx, 3)) (kk : JJ X (pc + 3) ls (.int v :: st) σ') : JJ X pc ls st0 σ := JJ.callV hX hc hcal hv hlk hra hst hn hrc hroom hdd hd kk
theorem JJ.callVl (hX : Ok X own cc nL D) {d idx maxL n q : Nat} {y : MethodName} {bytes : ByteArray} {ret : Option FieldType} {ra : (Nat → Nat) → List Value} {As st0 : List Value} {v : Int64} (hc : Ct d y bytes maxL ret ra σ (some (.long v)) σ') (hcal : Cal y bytes maxL n ret) (hv : CalV y) (hlk : Cond.methodLink own idx y ∈ GW)
    (hra : (ra (xad X)).reverse = .ref (xad X q) :: As) (hst : st0 = As.reverse ++ .ref (xad X q) :: st) (hn : As.length = n) (hrc : Rcv X σ q y.cls)
    (hroom : (st.map fun v => v.category).sum ≤ 8) (hdd : d + 1 ≤ D ∧ maxL ≤ 19) (hd : decode cc pc = .ok (.invokevirtual idx, 3)) (kk : JJ X (pc + 3) ls (.long v :: st) σ') : JJ X pc ls st0 σ := JJ.callV hX hc hcal hv hlk hra hst hn hrc hroom hdd hd kk
theorem JJ.callVv (hX : Ok X own cc nL D) {d idx maxL n q : Nat} {y : MethodName} {bytes : ByteArray} {ret : Option FieldType} {ra : (Nat → Nat) → List Value} {As st0 : List Value} (hc : Ct d y bytes maxL ret ra σ none σ') (hcal : Cal y bytes maxL n ret) (hv : CalV y) (hlk : Cond.methodLink own idx y ∈ GW)
    (hra : (ra (xad X)).reverse = .ref (xad X q) :: As) (hst : st0 = As.reverse ++ .ref (xad X q) :: st) (hn : As.length = n) (hrc : Rcv X σ q y.cls)
    (hroom : (st.map fun v => v.category).sum ≤ 8) (hdd : d + 1 ≤ D ∧ maxL ≤ 19) (hd : decode cc pc = .ok (.invokevirtual idx, 3)) (kk : JJ X (pc + 3) ls (st) σ') : JJ X pc ls st0 σ := JJ.callV hX hc hcal hv hlk hra hst hn hrc hroom hdd hd kk
theorem JJ.callVNi (hX : Ok X own cc nL D) {d idx maxL n q : Nat} {y : MethodName} {host : String} {bytes : ByteArray} {ret : Option FieldType} {ra : (Nat → Nat) → List Value} {As st0 : List Value} {v : Int32} (hc : Ct d y bytes maxL ret ra σ (some (.int v)) σ') (hcal : Cal y bytes maxL n ret) (hv : CalV y) (hlk : Cond.methodLinkNest own idx y host ∈ nestW)
    (hra : (ra (xad X)).reverse = .ref (xad X q) :: As) (hst : st0 = As.reverse ++ .ref (xad X q) :: st) (hn : As.length = n) (hrc : Rcv X σ q y.cls)
    (hroom : (st.map fun v => v.category).sum ≤ 8) (hdd : d + 1 ≤ D ∧ maxL ≤ 19) (hd : decode cc pc = .ok (.invokevirtual idx, 3)) (kk : JJ X (pc + 3) ls (.int v :: st) σ') : JJ X pc ls st0 σ := JJ.callVN hX hc hcal hv hlk hra hst hn hrc hroom hdd hd kk
theorem JJ.callVNl (hX : Ok X own cc nL D) {d idx maxL n q : Nat} {y : MethodName} {host : String} {bytes : ByteArray} {ret : Option FieldType} {ra : (Nat → Nat) → List Value} {As st0 : List Value} {v : Int64} (hc : Ct d y bytes maxL ret ra σ (some (.long v)) σ') (hcal : Cal y bytes maxL n ret) (hv : CalV y) (hlk : Cond.methodLinkNest own idx y host ∈ nestW)
    (hra : (ra (xad X)).reverse = .ref (xad X q) :: As) (hst : st0 = As.reverse ++ .ref (xad X q) :: st) (hn : As.length = n) (hrc : Rcv X σ q y.cls)
    (hroom : (st.map fun v => v.category).sum ≤ 8) (hdd : d + 1 ≤ D ∧ maxL ≤ 19) (hd : decode cc pc = .ok (.invokevirtual idx, 3)) (kk : JJ X (pc + 3) ls (.long v :: st) σ') : JJ X pc ls st0 σ := JJ.callVN hX hc hcal hv hlk hra hst hn hrc hroom hdd hd kk
theorem JJ.callVNv (hX : Ok X own cc nL D) {d idx maxL n q : Nat} {y : MethodName} {host : String} {bytes : ByteArray} {ret : Option FieldType} {ra : (Nat → Nat) → List Value} {As st0 : List Value} (hc : Ct d y bytes maxL ret ra σ none σ') (hcal : Cal y bytes maxL n ret) (hv : CalV y) (hlk : Cond.methodLinkNest own idx y host ∈ nestW)
    (hra : (ra (xad X)).reverse = .ref (xad X q) :: As) (hst : st0 = As.reverse ++ .ref (xad X q) :: st) (hn : As.length = n) (hrc : Rcv X σ q y.cls)
    (hroom : (st.map fun v => v.category).sum ≤ 8) (hdd : d + 1 ≤ D ∧ maxL ≤ 19) (hd : decode cc pc = .ok (.invokevirtual idx, 3)) (kk : JJ X (pc + 3) ls (st) σ') : JJ X pc ls st0 σ := JJ.callVN hX hc hcal hv hlk hra hst hn hrc hroom hdd hd kk
theorem JJ.callSi (hX : Ok X own cc nL D) {d idx maxL n : Nat} {y : MethodName} {bytes : ByteArray} {ret : Option FieldType} {ra : (Nat → Nat) → List Value} {st0 : List Value} {v : Int32} (hc : Ct d y bytes maxL ret ra σ (some (.int v)) σ') (hcal : Cal y bytes maxL n ret) (hv : Cond.static y ∈ GW) (hlk : Cond.methodLink own idx y ∈ GW)
    (hst : st0 = ra (xad X) ++ st) (hn : (ra (xad X)).length = n)
    (hroom : (st.map fun v => v.category).sum ≤ 8) (hdd : d + 1 ≤ D ∧ maxL ≤ 19) (hd : decode cc pc = .ok (.invokestatic idx, 3)) (kk : JJ X (pc + 3) ls (.int v :: st) σ') : JJ X pc ls st0 σ := JJ.callS hX hc hcal hv hlk hst hn hroom hdd hd kk
theorem JJ.callSl (hX : Ok X own cc nL D) {d idx maxL n : Nat} {y : MethodName} {bytes : ByteArray} {ret : Option FieldType} {ra : (Nat → Nat) → List Value} {st0 : List Value} {v : Int64} (hc : Ct d y bytes maxL ret ra σ (some (.long v)) σ') (hcal : Cal y bytes maxL n ret) (hv : Cond.static y ∈ GW) (hlk : Cond.methodLink own idx y ∈ GW)
    (hst : st0 = ra (xad X) ++ st) (hn : (ra (xad X)).length = n)
    (hroom : (st.map fun v => v.category).sum ≤ 8) (hdd : d + 1 ≤ D ∧ maxL ≤ 19) (hd : decode cc pc = .ok (.invokestatic idx, 3)) (kk : JJ X (pc + 3) ls (.long v :: st) σ') : JJ X pc ls st0 σ := JJ.callS hX hc hcal hv hlk hst hn hroom hdd hd kk
theorem JJ.callSv (hX : Ok X own cc nL D) {d idx maxL n : Nat} {y : MethodName} {bytes : ByteArray} {ret : Option FieldType} {ra : (Nat → Nat) → List Value} {st0 : List Value} (hc : Ct d y bytes maxL ret ra σ none σ') (hcal : Cal y bytes maxL n ret) (hv : Cond.static y ∈ GW) (hlk : Cond.methodLink own idx y ∈ GW)
    (hst : st0 = ra (xad X) ++ st) (hn : (ra (xad X)).length = n)
    (hroom : (st.map fun v => v.category).sum ≤ 8) (hdd : d + 1 ≤ D ∧ maxL ≤ 19) (hd : decode cc pc = .ok (.invokestatic idx, 3)) (kk : JJ X (pc + 3) ls (st) σ') : JJ X pc ls st0 σ := JJ.callS hX hc hcal hv hlk hst hn hroom hdd hd kk
theorem JJ.callSNi (hX : Ok X own cc nL D) {d idx maxL n : Nat} {y : MethodName} {host : String} {bytes : ByteArray} {ret : Option FieldType} {ra : (Nat → Nat) → List Value} {st0 : List Value} {v : Int32} (hc : Ct d y bytes maxL ret ra σ (some (.int v)) σ') (hcal : Cal y bytes maxL n ret) (hv : Cond.static y ∈ GW) (hlk : Cond.methodLinkNest own idx y host ∈ nestW)
    (hst : st0 = ra (xad X) ++ st) (hn : (ra (xad X)).length = n)
    (hroom : (st.map fun v => v.category).sum ≤ 8) (hdd : d + 1 ≤ D ∧ maxL ≤ 19) (hd : decode cc pc = .ok (.invokestatic idx, 3)) (kk : JJ X (pc + 3) ls (.int v :: st) σ') : JJ X pc ls st0 σ := JJ.callSN hX hc hcal hv hlk hst hn hroom hdd hd kk
theorem JJ.callSNl (hX : Ok X own cc nL D) {d idx maxL n : Nat} {y : MethodName} {host : String} {bytes : ByteArray} {ret : Option FieldType} {ra : (Nat → Nat) → List Value} {st0 : List Value} {v : Int64} (hc : Ct d y bytes maxL ret ra σ (some (.long v)) σ') (hcal : Cal y bytes maxL n ret) (hv : Cond.static y ∈ GW) (hlk : Cond.methodLinkNest own idx y host ∈ nestW)
    (hst : st0 = ra (xad X) ++ st) (hn : (ra (xad X)).length = n)
    (hroom : (st.map fun v => v.category).sum ≤ 8) (hdd : d + 1 ≤ D ∧ maxL ≤ 19) (hd : decode cc pc = .ok (.invokestatic idx, 3)) (kk : JJ X (pc + 3) ls (.long v :: st) σ') : JJ X pc ls st0 σ := JJ.callSN hX hc hcal hv hlk hst hn hroom hdd hd kk
theorem JJ.callSNv (hX : Ok X own cc nL D) {d idx maxL n : Nat} {y : MethodName} {host : String} {bytes : ByteArray} {ret : Option FieldType} {ra : (Nat → Nat) → List Value} {st0 : List Value} (hc : Ct d y bytes maxL ret ra σ none σ') (hcal : Cal y bytes maxL n ret) (hv : Cond.static y ∈ GW) (hlk : Cond.methodLinkNest own idx y host ∈ nestW)
    (hst : st0 = ra (xad X) ++ st) (hn : (ra (xad X)).length = n)
    (hroom : (st.map fun v => v.category).sum ≤ 8) (hdd : d + 1 ≤ D ∧ maxL ≤ 19) (hd : decode cc pc = .ok (.invokestatic idx, 3)) (kk : JJ X (pc + 3) ls (st) σ') : JJ X pc ls st0 σ := JJ.callSN hX hc hcal hv hlk hst hn hroom hdd hd kk
-- the text constant and its bytes
theorem JJ.ldcS (hX : Ok X "LanternTongue$Page" cc nL D) (hd : decode cc pc = .ok (.ldc 58, 2)) (k : JJ X (pc + 2) ls (.ref (xad X 43) :: st) σ) : JJ X pc ls st σ := fun H locs lsA hP hS hl => va_ldcS hX.1 hX.2.1 hX.2.2.2.2.1 hX.2.2.2.2.2.2.2.2.2.2.2.1.2.1 hd (k H locs lsA hP hS hl)
theorem JJ.strV (hX : Ok X own cc nL D) {idx : Nat} (hlk : Cond.fieldLink own idx "java/lang/String" "value" "[B" ∈ GW) (hd : decode cc pc = .ok (.getfield idx, 3)) (k : JJ X (pc + 3) ls (.ref (xad X 44) :: st) σ) : JJ X pc ls (.ref (xad X 43) :: st) σ := fun H locs lsA hP hS hl => vk_getf hX.1 hX.2.1 (hX.2.2.2.2.2.2.2.2.2.2.2.1.1.1 0 (by decide)).2.2.1 hS hX.2.2.2.2.1 (hX.2.2.2.2.2.1 _ hlk) (fun _ h => h) hd (k H locs lsA hP hS hl)
theorem JJ.strC (hX : Ok X own cc nL D) {idx : Nat} (hlk : Cond.fieldLink own idx "java/lang/String" "coder" "B" ∈ GW) (hd : decode cc pc = .ok (.getfield idx, 3)) (k : JJ X (pc + 3) ls (.int 0 :: st) σ) : JJ X pc ls (.ref (xad X 43) :: st) σ := fun H locs lsA hP hS hl => vk_getf hX.1 hX.2.1 (hX.2.2.2.2.2.2.2.2.2.2.2.1.1.1 0 (by decide)).2.1 hS hX.2.2.2.2.1 (hX.2.2.2.2.2.1 _ hlk) (fun _ h => h) hd (k H locs lsA hP hS hl)
theorem JJ.compact (hX : Ok X own cc nL D) {idx : Nat} (hlk : Cond.fieldLink own idx "java/lang/String" "COMPACT_STRINGS" "Z" ∈ GW) (hd : decode cc pc = .ok (.getstatic idx, 3)) (k : JJ X (pc + 3) ls (.int 1 :: st) σ) : JJ X pc ls st σ := fun H locs lsA hP hS hl => va_gets hX.1 hX.2.1 hX.2.2.2.2.2.2.2.2.2.2.2.1.2.2 hS hX.2.2.2.2.1 (hX.2.2.2.2.2.1 _ hlk) (fun _ h => h) hd (k H locs lsA hP hS hl)
def byteAt (k : Nat) : Int32 := [46, 100, 115, 98, 119].getD k 0
theorem JJ.bald (hX : Ok X own cc nL D) {i : Int32} (hin : vp_in i 5) (hd : decode cc pc = .ok (.baload, 1)) (k : JJ X (pc + 1) ls (.int (byteAt i.toNatClampNeg) :: st) σ) : JJ X pc ls (.int i :: .ref (xad X 44) :: st) σ := fun H locs lsA hP hS hl => va_tb hX.1 hX.2.1 (hX.2.2.2.2.2.2.2.2.2.2.2.1.1.1 0 (by decide)).2.2.2 hS hin rfl hd (k H locs lsA hP hS hl)
theorem JJ.blen (hX : Ok X own cc nL D) (hd : decode cc pc = .ok (.arraylength, 1)) (k : JJ X (pc + 1) ls (.int 5 :: st) σ) : JJ X pc ls (.ref (xad X 44) :: st) σ := fun H locs lsA hP hS hl => va_tlen hX.1 hX.2.1 (hX.2.2.2.2.2.2.2.2.2.2.2.1.1.1 0 (by decide)).2.2.2 hS rfl hd (k H locs lsA hP hS hl)
theorem JJ.i2b (hX : Ok X own cc nL D) {x : Int32} (hd : decode cc pc = .ok (.i2b, 1)) (k : JJ X (pc + 1) ls (.int x.toInt8.toInt32 :: st) σ) : JJ X pc ls (.int x :: st) σ := fun H locs lsA hP hS hl => lv_i2b hX.1 hX.2.1 hd rfl (k H locs lsA hP hS hl)
end ROWS
theorem gte {α : Type} {c : Prop} [Decidable c] {a : Option α} {r : α} (h : (if c then a else none) = some r) : c ∧ a = some r := by
  by_cases hc : c
  · rw [if_pos hc] at h; exact ⟨hc, h⟩
  · rw [if_neg hc] at h; cases h
theorem lk_out2 {x a b : Int32} {o0 o1 d : Int} (h0 : ¬ x = a) (h1 : ¬ x = b) : Op.lookupswitch.offset [(a.toInt, o0), (b.toInt, o1)] d x.toInt = d := by
  rw [Op.lookupswitch.offset_cons, if_neg (fun e => h0 (Int32.toInt_inj.mp e.symm)), Op.lookupswitch.offset_cons, if_neg (fun e => h1 (Int32.toInt_inj.mp e.symm))]
  rfl
theorem inB_of {i : Int32} {n : Nat} (h0 : ¬ i < 0) (h1 : ¬ nI n ≤ i) (hn : n < 2 ^ 31) : vp_in i n := by
  rcases pk_ix i hn with h | h | ⟨j, hj, rfl⟩
  · exact absurd h h0
  · exact absurd h h1
  · exact vp_in_nI hj hn
theorem ipos {α : Sort _} {c : Prop} [Decidable c] {a b x : α} (hc : c) (h : (if c then a else b) = x) : a = x := by rw [if_pos hc] at h; exact h
theorem ineg {α : Sort _} {c : Prop} [Decidable c] {a b x : α} (hc : ¬ c) (h : (if c then a else b) = x) : b = x := by rw [if_neg hc] at h; exact h
theorem bnd {α β : Type} {x : Option α} {f : α → Option β} {b : β} (h : x.bind f = some b) : ∃ a, x = some a ∧ f a = some b := by
  cases x with
  | none => cases h
  | some a => exact ⟨a, rfl, h⟩
/-- the index lies in a row of n places -/
def inB (i : Int32) (n : Nat) : Bool := !(decide (i < 0)) && Nat.blt i.toNatClampNeg n
theorem inB_in {i : Int32} {n : Nat} (h : inB i n = true) : vp_in i n := by
  unfold inB at h
  simp only [Bool.and_eq_true, Bool.not_eq_true', decide_eq_false_iff_not] at h
  intro z
  rcases z with z | z
  · exact h.1 z
  · have : i.toNatClampNeg < n := by simpa using h.2
    omega
