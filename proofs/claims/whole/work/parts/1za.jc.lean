/-! CONSTRUCTORS: the world grows; a judgement over the world's list itself -/
def JC (X : CX) (pc : Nat) (ls : List (Nat × Value)) (st : List Value) (ws : va_W) (ce sl : Nat) : Prop :=
  ∀ (H : Heap) (locs : List Loc) (lsA : Array Slot), va_P (xdC X, xdI X) vwCl ws H → va_D (xA X) ws → va_S (xA X) (xs X).heap H locs → lv_has lsA (xnL X) ls →
    W (xp X) (xl X) (xe X) (xR X) (xs X) (xm X) (xargs X) (xbelow X) (xmeth X) (xc X) H locs ce sl (xQ X) (F0 (xm X) pc lsA st)
def OkC (X : CX) (own : String) (cc : ByteArray) (nL D MC MS : Nat) : Prop :=
  (xp X).tables.exec = Jvm.exec ∧ (xc X).code = cc ∧ (xc X).maxLocals = nL ∧ xnL X = nL ∧ (xs X).vm.findClass own = some (xm X).cls ∧ (∀ w ∈ GW, w.before (xargs X) (xs X) = true) ∧ NW (xs X) ∧
  va_K (xdC X, xdI X) vwCl [(xcA X, .int)] (xs X) ∧ (∀ q, (xs X).heap.size ≤ q → xA X q) ∧ (xmeth X).locks = false ∧ (xR X).frames = D ∧ (xR X).locals = 38 * D ∧ (xR X).cells = MC ∧ (xR X).slots = MS
def rmn (d mc ms : Nat) : Room := { frames := d, cells := mc, slots := ms, locals := 38 * d }
def Qn (dC : Nat → ClassId) (dI : Nat → Nat → Nat) (A : Nat → Prop) (k : Nat) (W' : List Nat → va_W) : Array Value → State → Outcome → State → Prop :=
  fun _ st oc t => (oc = .returned none ∧ ∃ qs : List Nat, qs.length = k ∧ va_P (dC, dI) vwCl (W' qs) t.heap ∧ va_D A (W' qs)) ∧ va_F A st t
def Wn (dC : Nat → ClassId) (dI : Nat → Nat → Nat) (cA : ClassId) (sz : Nat) (ws : va_W) (U : State) : Prop :=
  U.heap.size = sz ∧ va_P (dC, dI) vwCl ws U.heap ∧ va_K (dC, dI) vwCl [(cA, .int)] U ∧ va_D (fun _ => True) ws ∧ NW U
/-- a constructor: from one bare object, with these arguments, to the world W' of k new cells -/
def Cn (d : Nat) (y : MethodName) (bytes : ByteArray) (maxL ci : Nat) (fs0 : List Value) (As : List Value) (k : Nat) (W' : Nat → ClassId → List Nat → va_W) (mc ms : Nat) : Prop :=
  ∀ (l : Launch) (dC : Nat → ClassId) (dI : Nat → Nat → Nat) (cA : ClassId) (h0 sz : Nat), Met l y (.code y bytes maxL none :: GW) (rmn d mc ms) (va_Pc (.ref h0 :: As) (Wn dC dI cA sz [(h0, .inr (ci, fs0))])) (Qn dC dI (va_A [(h0, .inr (ci, fs0))] sz) k (W' h0 cA)) mc ms (va_A [(h0, .inr (ci, fs0))] sz)
def OkN (X : CX) (k : Nat) (W' : List Nat → va_W) (mc ms : Nat) : Prop :=
  (xmeth X).sig.returnType = none ∧ (xmeth X).name = "<init>" ∧ xQ X = MQ (xbelow X) (Qn (xdC X) (xdI X) (xA X) k W') (xargs X) (xs X) mc ms (xA X)
theorem Wn.blind {av : List Value} {dC : Nat → ClassId} {dI : Nat → Nat → Nat} {cA : ClassId} {sz : Nat} {ws : va_W} : FrameBlind (va_Pc av (Wn dC dI cA sz ws)) := by
  intro a U g m h
  obtain ⟨h0, h1, h2, h3, h4, h5⟩ := h
  exact ⟨h0, h1, h2, va_K.moved (u := U) (U := U.calling g m a) (Vm.Alike.refl U.vm) h3, h4, NW.same (u := U) rfl h5⟩
theorem Cn.of {d : Nat} {y : MethodName} {bytes : ByteArray} {maxL ci : Nat} {fs0 As : List Value} {k : Nat} {W' : Nat → ClassId → List Nat → va_W} {mc ms : Nat} {ls : Nat → List (Nat × Value)}
    (hy : plainName y.cls = true) (hyn : y.name = "<init>") (hlen : ∀ h0, (lg_sl (.ref h0 :: As)).length ≤ maxL) (hls : ∀ h0, lv_args 0 (.ref h0 :: As) = ls h0)
    (body : ∀ X h0, OkC X y.cls bytes maxL d mc ms → OkN X k (W' h0 (xcA X)) mc ms → JC X 0 (ls h0) [] [(h0, .inr (ci, fs0))] 0 0) : Cn d y bytes maxL ci fs0 As k W' mc ms := by
  intro l dC dI cA h0 sz
  refine Met.ofW (cc := bytes) (maxL := maxL) (ret := none) hy rfl ?_
  intro p e s m args below meth c s₁ B hml hv
  obtain ⟨rfl, hsz, hP, hK, hD0, hN⟩ := hv
  subst hsz
  have hts0 := atoms_spec (ws := .code y bytes maxL none :: GW) B.pre
  have hl := lv_entry (.ref h0 :: As) (n := maxL) (hlen h0)
  rw [hls] at hl
  rw [lg_entry_eq]
  have hin : meth.name = "<init>" := (name_of_methodNamed B.named B.method).1.trans hyn
  have b := body (p, l, e, rmn d mc ms, s, m, (Value.ref h0 :: As).toArray, below, meth, c, 0, 0, MQ below (Qn dC dI (va_A [(h0, .inr (ci, fs0))] s.heap.size) k (W' h0 cA)) (Value.ref h0 :: As).toArray s mc ms (va_A [(h0, .inr (ci, fs0))] s.heap.size), dC, dI, cA, fun _ => 0, va_A [(h0, .inr (ci, fs0))] s.heap.size, maxL) h0
    ⟨B.exec, B.bytes, hml, rfl, findClass_of_methodNamed B.named, fun w hw => hts0 w (List.mem_cons_of_mem _ hw), hN, hK, fun q hq => Or.inr hq, B.notSynchronized, rfl, rfl, rfl, rfl⟩
    ⟨B.returns, hin, rfl⟩
  exact b s.heap [] _ hP hD0.self va_S.rf hl
section CROWS
variable {X : CX} {own : String} {cc : ByteArray} {nL D MC MS pc : Nat} {ls ls' : List (Nat × Value)} {st : List Value} {ws ws' : va_W} {ce sl : Nat}
theorem JC.aload_n (hX : OkC X own cc nL D MC MS) {n : Fin 4} {x : Nat} (j : Nat) (hd : decode cc pc = .ok (.aload_n n, 1)) (hj : ls[j]? = some ((n : Nat), .ref x)) (k : JC X (pc + 1) ls (.ref x :: st) ws ce sl) : JC X pc ls st ws ce sl := fun H locs lsA hP hD hS hl => lv_aload_n hX.1 hX.2.1 hd rfl (lv_at hl j hj) (k H locs lsA hP hD hS hl)
theorem JC.iconst (hX : OkC X own cc nL D MC MS) {n : Int} {v : Int32} (hd : decode cc pc = .ok (.iconst n, 1)) (hv : Int32.ofInt n = v) (k : JC X (pc + 1) ls (.int v :: st) ws ce sl) : JC X pc ls st ws ce sl := fun H locs lsA hP hD hS hl => lv_iconst hX.1 hX.2.1 hd hv (k H locs lsA hP hD hS hl)
theorem JC.bipush (hX : OkC X own cc nL D MC MS) {n : Int} {v : Int32} (hd : decode cc pc = .ok (.bipush n, 2)) (hv : (Int8.ofInt n).toInt32 = v) (k : JC X (pc + 2) ls (.int v :: st) ws ce sl) : JC X pc ls st ws ce sl := fun H locs lsA hP hD hS hl => lv_bipush hX.1 hX.2.1 hd hv (k H locs lsA hP hD hS hl)
theorem JC.sipush (hX : OkC X own cc nL D MC MS) {n : Int} {v : Int32} (hd : decode cc pc = .ok (.sipush n, 3)) (hv : (Int16.ofInt n).toInt32 = v) (k : JC X (pc + 3) ls (.int v :: st) ws ce sl) : JC X pc ls st ws ce sl := fun H locs lsA hP hD hS hl => lv_sipush hX.1 hX.2.1 hd hv (k H locs lsA hP hD hS hl)
theorem JC.dup (hX : OkC X own cc nL D MC MS) {v : Value} (hd : decode cc pc = .ok (.dup, 1)) (hv : v.category = 1) (k : JC X (pc + 1) ls (v :: v :: st) ws ce sl) : JC X pc ls (v :: st) ws ce sl := fun H locs lsA hP hD hS hl => lv_dup hX.1 hX.2.1 hd hv (k H locs lsA hP hD hS hl)
theorem JC.astore_n (hX : OkC X own cc nL D MC MS) {n : Fin 4} {x : Nat} (hd : decode cc pc = .ok (.astore_n n, 1)) (hn : (n : Nat) < nL) (hc : ls.all (fun q => !(q.1 + 1 == (n : Nat) && q.2.category == 2)) = true) (hs : stL (n : Nat) (.ref x) ls = ls') (k : JC X (pc + 1) ls' st ws ce sl) : JC X pc ls (.ref x :: st) ws ce sl := fun H locs lsA hP hD hS hl => lv_astore_n hX.1 hX.2.1 hd rfl hl (by rw [hX.2.2.2.1]; exact hn) rfl (fun ls2 h2 => k H locs ls2 hP hD hS (hs ▸ stL_has hc h2))
theorem JC.istore_n (hX : OkC X own cc nL D MC MS) {n : Fin 4} {x : Int32} (hd : decode cc pc = .ok (.istore_n n, 1)) (hn : (n : Nat) < nL) (hc : ls.all (fun q => !(q.1 + 1 == (n : Nat) && q.2.category == 2)) = true) (hs : stL (n : Nat) (.int x) ls = ls') (k : JC X (pc + 1) ls' st ws ce sl) : JC X pc ls (.int x :: st) ws ce sl := fun H locs lsA hP hD hS hl => lv_istore_n hX.1 hX.2.1 hd rfl hl (by rw [hX.2.2.2.1]; exact hn) rfl (fun ls2 h2 => k H locs ls2 hP hD hS (hs ▸ stL_has hc h2))
theorem JC.objInit (hX : OkC X own cc nL D MC MS) {idx a : Nat} (hlk : Cond.methodLink own idx Lib.objectInit ∈ GW) (hin : Cond.instanceMethod Lib.objectInit ∈ GW) (hco : Cond.code Lib.objectInit ⟨#[0xb1]⟩ 1 none ∈ GW) (hd : decode cc pc = .ok (.invokespecial idx, 3)) (hdd : 1 ≤ D) (k : JC X (pc + 3) ls [] ws ce sl) : JC X pc ls [.ref a] ws ce sl := fun H locs lsA hP hD hS hl => by
  obtain ⟨hx, hb, hml, hnl, hown, hts, hN, hK, hA, hlo, hfr, hlc, hce, hsl⟩ := hX
  refine W.objInit hx hb hown (hts _ hlk) (hts _ hin) (hts _ hco) rfl (by rw [hml, ← hnl]; exact hl.1) rfl hd (by omega) (by show 2 * 0 + 0 + 12 ≤ _; omega) ?_
  exact k H locs lsA hP hD hS hl
theorem JC.newa (hX : OkC X own cc nL D MC MS) {n : Int32} {N : Nat} (harr : Cond.arrayClass .int ∈ GW) (hn : ¬ n < 0) (hN : n.toNatClampNeg = N) (hb4 : N * componentBytes .int ≤ 536870912) (hce : ce + 1 ≤ MC) (hsl : sl + N ≤ MS) (hd : decode cc pc = .ok (.newarray .int, 2)) (k : ∀ q : Nat, JC X (pc + 2) ls (.ref q :: st) (ws ++ [(q, .inl (xcA X, N, .inl (fun _ => 0)))]) (ce + 1) (sl + N)) : JC X pc ls (.int n :: st) ws ce sl := fun H locs lsA hP hD hS hl => by
  obtain ⟨hx, hb, hml, hnl, hown, hts, hNN, hK, hA, hlo, hfr, hlc, hc1, hs1⟩ := hX
  refine va_newa (D := (xdC X, xdI X)) (a0 := (N, .inl (fun _ => 0))) hx hb (atype := .int) (hts _ harr) rfl hK hP hD hS hA (fun cA => rfl) hn hN hb4 (by omega) (by omega) hd (fun q cA H1 hK1 hP1 hD1 hS1 => ?_)
  have e1 := (hK.2 0 _ rfl).2
  have e2 := (hK1.2 1 _ rfl).2
  have e3 : cA = xcA X := Option.some.inj (e2.symm.trans e1)
  subst e3
  exact k q H1 locs lsA hP1 hD1 hS1 hl
theorem JC.new (hX : OkC X own cc nL D MC MS) {C : String} {T : u_T} {N ci idx : Nat} {ty : Nat → FieldType} {fs : List Value} (hin : ∀ w ∈ u_ws C T N, w ∈ GW) (hty : ∀ k, k < N → parseFieldDescriptor (T k).2.2.1 = some (ty k)) (hlk : Cond.classLink own idx C ∈ GW) (hins : Cond.instantiable C N ∈ GW) (hini : Cond.initialized C ∈ GW) (hcl : vwCl[ci]? = some (C, T, N)) (hfs : ∀ j, j < N → defaultValue (ty j) = vp_V fs j) (hce : ce + 1 ≤ MC) (hsl : sl + N ≤ MS) (hd : decode cc pc = .ok (.new idx, 3)) (k : ∀ q : Nat, JC X (pc + 3) ls (.ref q :: st) (ws ++ [(q, .inr (ci, fs))]) (ce + 1) (sl + N)) : JC X pc ls st ws ce sl := fun H locs lsA hP hD hS hl => by
  obtain ⟨hx, hb, hml, hnl, hown, hts, hNN, hK, hA, hlo, hfr, hlc, hc1, hs1⟩ := hX
  exact va_new (D := (xdC X, xdI X)) hx hb hts hin ty hty hown (hts _ hlk) (hts _ hins) (hts _ hini) hK hP hD hS hA hcl hfs (by omega) (by omega) hd (fun q H1 hP1 hD1 hS1 => k q H1 locs lsA hP1 hD1 hS1 hl)
theorem JC.get (hX : OkC X own cc nL D MC MS) {a q ci k : Nat} {C : String} {T : u_T} {N idx : Nat} {fs : List Value} {v : Value} (hcl : vwCl[ci]? = some (C, T, N)) (hin : ∀ w ∈ u_ws C T N, w ∈ GW) (hk : k < N) (hlk : Cond.fieldLink own idx (T k).1 (T k).2.1 (T k).2.2.1 ∈ GW) (he : ws[q]? = some (a, .inr (ci, fs))) (hv : fs[k]? = some v) (hd : decode cc pc = .ok (.getfield idx, 3)) (kk : JC X (pc + 3) ls (v :: st) ws ce sl) : JC X pc ls (.ref a :: st) ws ce sl := fun H locs lsA hP hD hS hl => by
  obtain ⟨hx, hb, hml, hnl, hown, hts, hNN, hK, hA, hlo, hfr, hlc, hc1, hs1⟩ := hX
  exact va_get (D := (xdC X, xdI X)) hx hb hts hin hown hK hP q he hcl k hk (hts _ hlk) (fun _ h => h) hv hd (kk H locs lsA hP hD hS hl)
/-- a final field of the object that is being made, the world's first cell -/
theorem JC.putF (hX : OkC X own cc nL D MC MS) {h0 ci k : Nat} {C : String} {T : u_T} {N idx : Nat} {fs fs' : List Value} {v : Value} {ty : FieldType} {ty0 : Nat → FieldType} (hnm2 : (xmeth X).name = "<init>") (hcl : vwCl[ci]? = some (C, T, N)) (hin : ∀ w ∈ u_ws C T N, w ∈ GW) (hty : ∀ k, k < N → parseFieldDescriptor (T k).2.2.1 = some (ty0 k)) (hnm : ∀ a, a < N → ∀ b, b < N → a ≠ b → (T a).2.1 ≠ (T b).2.1) (hk : k < N) (hlk : Cond.fieldLink own idx (T k).1 (T k).2.1 (T k).2.2.1 ∈ GW) (hfin : (T k).2.2.2 = true) (hdecl : (T k).1 = own) (hd2 : parseFieldDescriptor (T k).2.2.1 = some ty) (hn : narrow ty v = v) (hfit : fits ty v = true) (hlen : k < fs.length) (hfs : fs.set k v = fs') (hd : decode cc pc = .ok (.putfield idx, 3)) (kk : JC X (pc + 3) ls st ((h0, .inr (ci, fs')) :: ws) ce sl) : JC X pc ls (v :: .ref h0 :: st) ((h0, .inr (ci, fs)) :: ws) ce sl := fun H locs lsA hP hD hS hl => by
  obtain ⟨hx, hb, hml, hnl, hown, hts, hNN, hK, hA, hlo, hfr, hlc, hc1, hs1⟩ := hX
  subst hfs
  exact va_putF (D := (xdC X, xdI X)) hx hb hts hin ty0 hty hnm hown hK hP hD hS 0 rfl hcl k hk (hts _ hlk) (fun _ h => h) hfin hnm2 hdecl hd2 hn hfit hlen hd (fun H1 locs1 hP1 hD1 hS1 => kk H1 locs1 lsA hP1 hD1 hS1 hl)
theorem JC.put (hX : OkC X own cc nL D MC MS) {h0 ci k : Nat} {C : String} {T : u_T} {N idx : Nat} {fs fs' : List Value} {v : Value} {ty : FieldType} {ty0 : Nat → FieldType} (hcl : vwCl[ci]? = some (C, T, N)) (hin : ∀ w ∈ u_ws C T N, w ∈ GW) (hty : ∀ k, k < N → parseFieldDescriptor (T k).2.2.1 = some (ty0 k)) (hnm : ∀ a, a < N → ∀ b, b < N → a ≠ b → (T a).2.1 ≠ (T b).2.1) (hk : k < N) (hlk : Cond.fieldLink own idx (T k).1 (T k).2.1 (T k).2.2.1 ∈ GW) (hfin : (T k).2.2.2 = false) (hd2 : parseFieldDescriptor (T k).2.2.1 = some ty) (hn : narrow ty v = v) (hfit : fits ty v = true) (hlen : k < fs.length) (hfs : fs.set k v = fs') (hd : decode cc pc = .ok (.putfield idx, 3)) (kk : JC X (pc + 3) ls st ((h0, .inr (ci, fs')) :: ws) ce sl) : JC X pc ls (v :: .ref h0 :: st) ((h0, .inr (ci, fs)) :: ws) ce sl := fun H locs lsA hP hD hS hl => by
  obtain ⟨hx, hb, hml, hnl, hown, hts, hNN, hK, hA, hlo, hfr, hlc, hc1, hs1⟩ := hX
  subst hfs
  exact va_put (D := (xdC X, xdI X)) hx hb hts hin ty0 hty hnm hown hK hP hD hS 0 rfl hcl k hk (hts _ hlk) (fun _ h => h) hfin hd2 hn hfit hlen hd (fun H1 locs1 hP1 hD1 hS1 => kk H1 locs1 lsA hP1 hD1 hS1 hl)
theorem JC.vret (hX : OkC X own cc nL D MC MS) {k : Nat} {W' : List Nat → va_W} (hM : OkN X k W' ce sl) (qs : List Nat) (hk : qs.length = k) (hw : W' qs = ws) (hd : decode cc pc = .ok (.return_, 1)) : JC X pc ls [] ws ce sl := fun H locs lsA hP hD hS hl => by
  obtain ⟨hx, hb, hml, hnl, hown, hts, hNN, hK, hA, hlo, hfr, hlc, hc1, hs1⟩ := hX
  obtain ⟨hr, -, h5⟩ := hM
  rw [h5]
  exact W.vret (Qc := Qn (xdC X) (xdI X) (xA X) k W') hx hb hr (fun t ht _ => ⟨⟨rfl, qs, hk, by rw [ht, hw]; exact hP, by rw [hw]; exact hD⟩, hS.F ht⟩) hS.2.2 hd hlo
theorem range_map (ws : va_W) (x : Nat × va_E) : (List.range ws.length).map (fun i => (ws ++ [x])[i]?) = ws.map some := by
  apply List.ext_getElem?
  intro i
  rw [List.getElem?_map, List.getElem?_map]
  by_cases hi : i < ws.length
  · rw [List.getElem?_range hi]
    show some ((ws ++ [x])[i]?) = _
    rw [List.getElem?_append_left hi, List.getElem?_eq_getElem hi]
    rfl
  · rw [List.getElem?_eq_none (by simpa using Nat.le_of_not_lt hi), List.getElem?_eq_none (Nat.le_of_not_lt hi)]
    rfl
theorem va_nd_map {α : Type} : ∀ (l : List Nat), l.Nodup → va_nd l = true := by
  intro l
  induction l with
  | nil => intro _; rfl
  | cons a l ih =>
    intro h
    have h1 := List.nodup_cons.mp h
    simp only [va_nd, Bool.and_eq_true, Bool.not_eq_true']
    refine ⟨?_, ih h1.2⟩
    simpa using h1.1
/-- a constructor's call: the new object is the world's last cell -/
theorem JC.fin {q : Nat} {e0 : va_E} {H : Heap} {locs : List Loc} {lsA : Array Slot} {rest st0 : List Value} {kq mc ms : Nat} {W' : List Nat → va_W} {av : Array Value} (hX : OkC X own cc nL D MC MS) (hP : va_P (xdC X, xdI X) vwCl (ws ++ [(q, e0)]) H) (hD : va_D (xA X) (ws ++ [(q, e0)])) (hS : va_S (xA X) (xs X).heap H locs) (hl : lv_has lsA (xnL X) ls)
    (hr : va_Run (xp X) (xl X) (xe X) (xR X) (xs X) (xm X) (xargs X) (xbelow X) (xmeth X) (xc X) H locs ce sl mc ms (F0 (xm X) pc lsA st0) rest (Qn (xdC X) (xdI X) (va_A [(q, e0)] H.size) kq W' av) (va_A [(q, e0)] H.size))
    (kk : ∀ qs : List Nat, qs.length = kq → JC X (pc + 3) ls rest (ws ++ W' qs) (ce + mc) (sl + ms)) : W (xp X) (xl X) (xe X) (xR X) (xs X) (xm X) (xargs X) (xbelow X) (xmeth X) (xc X) H locs ce sl (xQ X) (F0 (xm X) pc lsA st0) := by
  have hA := hX.2.2.2.2.2.2.2.2.1
  have hC : [ws.length].map (fun i => (ws ++ [(q, e0)])[i]?) = [(q, e0)].map some := by simp
  have hF := va_free (wc := [(q, e0)]) hD hS hA [ws.length] hC
  intro T hT Y
  obtain ⟨v, st₀, t, T', L, h0, Y', hL, e1, e2, ⟨⟨hv, qs, hqs, hp, hd2⟩, hz, hk⟩, go⟩ := hr T hT Y
  cases hv
  rw [h0] at hz hk
  have hnd : va_nd (List.range ws.length) = true := va_nd_map (α := Nat) _ List.nodup_range
  have hj := va_join (wc := [(q, e0)]) (wr := ws) (w1 := W' qs) (H1 := T'.heap) hP hD [ws.length] (List.range ws.length) hC (range_map ws (q, e0)) hnd (fun i hi hi2 => by
      have h1 := List.mem_range.mp hi
      have h2 := List.mem_singleton.mp hi2
      omega) (fun x h1 h2 => by rw [e1]; exact hk x h1 h2) hF (by rw [e1]; exact hp) hd2
  obtain ⟨t2, a1, b1⟩ := kk qs hqs T'.heap (locs ++ L) lsA hj.1 hj.2
    ⟨Nat.le_trans hS.1 (by rw [e1]; exact hz), fun x h1 h2 => by rw [e1, hk x (Nat.lt_of_lt_of_le h1 hS.1) (fun z => h2 (hF x z))]; exact hS.2.1 x h1 h2, fun x hx => by
      rcases List.mem_append.mp hx with h | h
      · exact hS.2.2 x h
      · exact hF _ (hL x h)⟩ hl T' rfl Y'
  exact ⟨t2, go t2 a1, b1⟩
theorem JC.pre {q : Nat} {e0 : va_E} {H : Heap} {locs : List Loc} (hX : OkC X own cc nL D MC MS) (hP : va_P (xdC X, xdI X) vwCl (ws ++ [(q, e0)]) H) (hD : va_D (xA X) (ws ++ [(q, e0)])) (hS : va_S (xA X) (xs X).heap H locs) (av : List Value) : PreS (xs X) H (va_Pc av (Wn (xdC X) (xdI X) (xcA X) H.size [(q, e0)])) av := by
  obtain ⟨hx, hb, hml, hnl, hown, hts, hNN, hK, hA, hlo, hfr, hlc, hc1, hs1⟩ := hX
  have hC : [ws.length].map (fun i => (ws ++ [(q, e0)])[i]?) = [(q, e0)].map some := by simp
  refine ⟨Wn.blind, fun U hU hW => ⟨rfl, by rw [hU], by rw [hU]; exact hP.sub [ws.length] (by simp), va_K.moved hW.alike hK, (hD.sub [ws.length] rfl hC).weaken (fun _ _ _ _ => trivial), NW.warm hW hNN⟩⟩
theorem JC.callI (hX : OkC X own cc nL D MC MS) {d idx maxL n q ci kq mc ms : Nat} {y : MethodName} {bytes : ByteArray} {fs0 As st0 : List Value} {W' : Nat → ClassId → List Nat → va_W} (hc : Cn d y bytes maxL ci fs0 As kq W' mc ms) (hcal : Cal y bytes maxL n none) (hyn : y.name = "<init>") (hin : Cond.instanceMethod y ∈ GW) (hlk : Cond.methodLink own idx y ∈ GW)
    (hst : st0 = As.reverse ++ .ref q :: st) (hn : As.length = n) (hroom : (st.map fun v => v.category).sum ≤ 8) (hdd : d + 1 ≤ D ∧ maxL ≤ 19) (hce : ce + mc ≤ MC) (hsl : sl + ms ≤ MS) (hw : ws' = ws ++ [(q, .inr (ci, fs0))]) (hd : decode cc pc = .ok (.invokespecial idx, 3)) (kk : ∀ qs : List Nat, qs.length = kq → JC X (pc + 3) ls st (ws ++ W' q (xcA X) qs) (ce + mc) (sl + ms)) : JC X pc ls st0 ws' ce sl := fun H locs lsA hP hD hS hl => by
  subst hw
  subst hst
  have hX0 := hX
  obtain ⟨hx, hb, hml, hnl, hown, hts, hNN, hK, hA, hlo, hfr, hlc, hc1, hs1⟩ := hX
  have hpre := JC.pre hX0 hP hD hS (.ref q :: As)
  exact JC.fin (av := (Value.ref q :: As).toArray) hX0 hP hD hS hl (va_runI (cc := cc) (nL := nL) (Ts := GW) (own := own) (index := idx) (bytes := bytes) (maxL := maxL) (n := n) (b := q) (As := As) (rest := st) ⟨hx, hb, hml, hown, hts⟩ (hc (xl X) (xdC X) (xdI X) (xcA X) q H.size)
    ⟨callB_of n hts (GW_in hcal.1) rfl rfl rfl (hts _ hcal.2.1) (hts _ hlk) hcal.2.2 ⟨by show d + 1 ≤ _; omega, by show 8 + (maxL + 11) + 38 * d ≤ _; omega⟩, hyn, hts _ hin⟩ hpre rfl hn (by rw [← hnl]; exact hl.1) rfl (lv_room hroom) hd ⟨by omega, by omega⟩) kk
theorem JC.callIN (hX : OkC X own cc nL D MC MS) {d idx maxL n q ci kq mc ms : Nat} {y : MethodName} {host : String} {bytes : ByteArray} {fs0 As st0 : List Value} {W' : Nat → ClassId → List Nat → va_W} (hc : Cn d y bytes maxL ci fs0 As kq W' mc ms) (hcal : Cal y bytes maxL n none) (hyn : y.name = "<init>") (hin : Cond.instanceMethod y ∈ GW) (hlk : Cond.methodLinkNest own idx y host ∈ nestW)
    (hst : st0 = As.reverse ++ .ref q :: st) (hn : As.length = n) (hroom : (st.map fun v => v.category).sum ≤ 8) (hdd : d + 1 ≤ D ∧ maxL ≤ 19) (hce : ce + mc ≤ MC) (hsl : sl + ms ≤ MS) (hw : ws' = ws ++ [(q, .inr (ci, fs0))]) (hd : decode cc pc = .ok (.invokespecial idx, 3)) (kk : ∀ qs : List Nat, qs.length = kq → JC X (pc + 3) ls st (ws ++ W' q (xcA X) qs) (ce + mc) (sl + ms)) : JC X pc ls st0 ws' ce sl := fun H locs lsA hP hD hS hl => by
  subst hw
  subst hst
  have hX0 := hX
  obtain ⟨hx, hb, hml, hnl, hown, hts, hNN, hK, hA, hlo, hfr, hlc, hc1, hs1⟩ := hX
  have hpre := JC.pre hX0 hP hD hS (.ref q :: As)
  exact JC.fin (av := (Value.ref q :: As).toArray) hX0 hP hD hS hl (va_runIN (cc := cc) (nL := nL) (Ts := GW) (own := own) (host := host) (index := idx) (bytes := bytes) (maxL := maxL) (n := n) (b := q) (As := As) (rest := st) ⟨hx, hb, hml, hown, hts⟩ (hc (xl X) (xdC X) (xdI X) (xcA X) q H.size)
    ⟨va_cnB n hts (GW_in hcal.1) rfl rfl rfl (hNN _ hlk) (hts _ hcal.2.1) hcal.2.2 ⟨by show d + 1 ≤ _; omega, by show 8 + (maxL + 11) + 38 * d ≤ _; omega⟩, hyn, hts _ hin⟩ hpre rfl hn (by rw [← hnl]; exact hl.1) rfl (lv_room hroom) hd ⟨by omega, by omega⟩) kk
theorem JC.callI_dummy : True := trivial
end CROWS
theorem qs_cons {n : Nat} {qs : List Nat} (h : qs.length = n + 1) : ∃ a t, qs = a :: t ∧ t.length = n := by
  cases qs with
  | nil => cases h
  | cons a t => exact ⟨a, t, rfl, by simpa using h⟩
theorem qs_nil {qs : List Nat} (h : qs.length = 0) : qs = [] := List.length_eq_zero_iff.mp h
