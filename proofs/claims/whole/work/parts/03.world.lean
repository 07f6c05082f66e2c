/-! the state of both systems: int fields by number (100 * cell + field), the one long field, int arrays by cell -/
abbrev ST : Type := (Nat → Int32) × Int64 × (Nat → Nat → Int32)
def gI (σ : ST) (i : Nat) : Int32 := σ.1 i
def gL (σ : ST) : Int64 := σ.2.1
def gA (σ : ST) (a : Nat) : Nat → Int32 := σ.2.2 a
def sI (σ : ST) (i : Nat) (v : Int32) : ST := (fun j => if j = i then v else σ.1 j, σ.2)
def sL (σ : ST) (v : Int64) : ST := (σ.1, v, σ.2.2)
def sA (σ : ST) (a : Nat) (k : Nat) (v : Int32) : ST := (σ.1, σ.2.1, fun b => if b = a then upd (σ.2.2 b) k v else σ.2.2 b)
theorem gI_sI (σ : ST) (i j : Nat) (v : Int32) : gI (sI σ i v) j = if j = i then v else gI σ j := rfl
theorem gI_sL (σ : ST) (j : Nat) (v : Int64) : gI (sL σ v) j = gI σ j := rfl
theorem gI_sA (σ : ST) (a k j : Nat) (v : Int32) : gI (sA σ a k v) j = gI σ j := rfl
theorem gL_sI (σ : ST) (i : Nat) (v : Int32) : gL (sI σ i v) = gL σ := rfl
theorem gL_sL (σ : ST) (v : Int64) : gL (sL σ v) = v := rfl
theorem gL_sA (σ : ST) (a k : Nat) (v : Int32) : gL (sA σ a k v) = gL σ := rfl
theorem gA_sI (σ : ST) (i a : Nat) (v : Int32) : gA (sI σ i v) a = gA σ a := rfl
theorem gA_sL (σ : ST) (a : Nat) (v : Int64) : gA (sL σ v) a = gA σ a := rfl
theorem gA_sA (σ : ST) (a k b : Nat) (v : Int32) : gA (sA σ a k v) b = if b = a then upd (gA σ b) k v else gA σ b := rfl
/-- the world: 31 cells of the class, 12 of the reference -/
def wld (cA : ClassId) (ad : Nat → Nat) (σ : ST) : va_W :=
  [(ad 0, .inr (5, [.ref (ad 1), .ref (ad 3), .ref (ad 7), .ref (ad 17), .ref (ad 24), .int (gI σ 5), .int (gI σ 6)])),
   (ad 1, .inr (2, [.ref (ad 2), .int (gI σ 101)])),
   (ad 2, .inl (cA, 28, .inl (gA σ 2))),
   (ad 3, .inr (1, [.int (gI σ 300), .int (gI σ 301), .ref (ad 4), .ref (ad 5), .ref (ad 6)])),
   (ad 4, .inl (cA, 6, .inl (gA σ 4))),
   (ad 5, .inl (cA, 6, .inl (gA σ 5))),
   (ad 6, .inl (cA, 6, .inl (gA σ 6))),
   (ad 7, .inr (4, [.ref (ad 3), .ref (ad 8), .ref (ad 9), .ref (ad 10), .ref (ad 11), .ref (ad 16)])),
   (ad 8, .inr (3, [.ref (ad 12)])),
   (ad 9, .inr (3, [.ref (ad 13)])),
   (ad 10, .inr (3, [.ref (ad 14)])),
   (ad 11, .inr (3, [.ref (ad 15)])),
   (ad 12, .inl (cA, 36, .inl (gA σ 12))),
   (ad 13, .inl (cA, 36, .inl (gA σ 13))),
   (ad 14, .inl (cA, 36, .inl (gA σ 14))),
   (ad 15, .inl (cA, 36, .inl (gA σ 15))),
   (ad 16, .inl (cA, 384, .inl (gA σ 16))),
   (ad 17, .inr (0, [.int (gI σ 1700), .ref (ad 18), .ref (ad 19), .ref (ad 20), .ref (ad 21), .int (gI σ 1705), .ref (ad 22), .ref (ad 23)])),
   (ad 18, .inl (cA, 3, .inl (gA σ 18))),
   (ad 19, .inl (cA, 3, .inl (gA σ 19))),
   (ad 20, .inl (cA, 3, .inl (gA σ 20))),
   (ad 21, .inl (cA, 3, .inl (gA σ 21))),
   (ad 22, .inl (cA, 8, .inl (gA σ 22))),
   (ad 23, .inl (cA, 8, .inl (gA σ 23))),
   (ad 24, .inr (0, [.int (gI σ 2400), .ref (ad 25), .ref (ad 26), .ref (ad 27), .ref (ad 28), .int (gI σ 2405), .ref (ad 29), .ref (ad 30)])),
   (ad 25, .inl (cA, 3, .inl (gA σ 25))),
   (ad 26, .inl (cA, 3, .inl (gA σ 26))),
   (ad 27, .inl (cA, 3, .inl (gA σ 27))),
   (ad 28, .inl (cA, 3, .inl (gA σ 28))),
   (ad 29, .inl (cA, 8, .inl (gA σ 29))),
   (ad 30, .inl (cA, 8, .inl (gA σ 30))),
   (ad 31, .inr (6, [.ref (ad 32), .int (gI σ 3101), .ref (ad 33), .int (gI σ 3103), .int (gI σ 3104), .int (gI σ 3105), .int (gI σ 3106), .int (gI σ 3107), .int (gI σ 3108), .ref (ad 34), .ref (ad 35), .int (gI σ 3111), .ref (ad 36), .ref (ad 37), .ref (ad 38), .ref (ad 39), .int (gI σ 3116), .ref (ad 40), .int (gI σ 3118), .int (gI σ 3119), .int (gI σ 3120), .int (gI σ 3121), .ref (ad 41), .ref (ad 42), .long (gL σ)])),
   (ad 32, .inl (cA, 28, .inl (gA σ 32))),
   (ad 33, .inl (cA, 18, .inl (gA σ 33))),
   (ad 34, .inl (cA, 6, .inl (gA σ 34))),
   (ad 35, .inl (cA, 12, .inl (gA σ 35))),
   (ad 36, .inl (cA, 12, .inl (gA σ 36))),
   (ad 37, .inl (cA, 6, .inl (gA σ 37))),
   (ad 38, .inl (cA, 384, .inl (gA σ 38))),
   (ad 39, .inl (cA, 36, .inl (gA σ 39))),
   (ad 40, .inl (cA, 16, .inl (gA σ 40))),
   (ad 41, .inl (cA, 12, .inl (gA σ 41))),
   (ad 42, .inl (cA, 16, .inl (gA σ 42)))]
def nestW : List Cond := [.methodLinkNest "LanternTongue" 11 ⟨"LanternTongue$Page", "<init>", "()V"⟩ "LanternTongue",
  .fieldLinkNest "LanternTongue$Mine" 21 "LanternTongue$Page" "size" "I" "LanternTongue",
  .fieldLinkNest "LanternTongue" 42 "LanternTongue$Page" "size" "I" "LanternTongue",
  .methodLinkNest "LanternTongue" 18 ⟨"LanternTongue$Mine", "<init>", "()V"⟩ "LanternTongue",
  .fieldLinkNest "LanternTongue" 75 "LanternTongue$Mine" "size" "I" "LanternTongue",
  .fieldLinkNest "LanternTongue$Ways" 71 "LanternTongue$Mine" "size" "I" "LanternTongue",
  .fieldLinkNest "LanternTongue" 104 "LanternTongue$Mine" "oil" "I" "LanternTongue",
  .methodLinkNest "LanternTongue$Ways" 11 ⟨"LanternTongue$Table", "<init>", "()V"⟩ "LanternTongue",
  .fieldLinkNest "LanternTongue" 145 "LanternTongue$Ways" "steps" "LLanternTongue$Table;" "LanternTongue",
  .fieldLinkNest "LanternTongue" 159 "LanternTongue$Ways" "oils" "LLanternTongue$Table;" "LanternTongue",
  .fieldLinkNest "LanternTongue" 167 "LanternTongue$Ways" "meets" "LLanternTongue$Table;" "LanternTongue",
  .fieldLinkNest "LanternTongue" 170 "LanternTongue$Ways" "aparts" "LLanternTongue$Table;" "LanternTongue",
  .methodLinkNest "LanternTongue" 34 ⟨"LanternTongue$Camp", "<init>", "()V"⟩ "LanternTongue",
  .fieldLinkNest "LanternTongue" 101 "LanternTongue$Camp" "parties" "I" "LanternTongue",
  .fieldLinkNest "LanternTongue" 111 "LanternTongue$Camp" "places" "[I" "LanternTongue",
  .fieldLinkNest "LanternTongue" 119 "LanternTongue$Camp" "oils" "[I" "LanternTongue",
  .fieldLinkNest "LanternTongue" 122 "LanternTongue$Camp" "steps" "[I" "LanternTongue",
  .fieldLinkNest "LanternTongue" 138 "LanternTongue$Camp" "spokeAt" "[I" "LanternTongue",
  .fieldLinkNest "LanternTongue$Mine" 52 "LanternTongue$Camp" "heard" "I" "LanternTongue",
  .fieldLinkNest "LanternTongue" 176 "LanternTongue$Camp" "heard" "I" "LanternTongue",
  .fieldLinkNest "LanternTongue$Mine" 57 "LanternTongue$Camp" "heardWays" "[I" "LanternTongue",
  .fieldLinkNest "LanternTongue$Mine" 64 "LanternTongue$Camp" "heardSounds" "[I" "LanternTongue",
  .methodLinkNest "LanternTongue$Page" 19 ⟨"LanternTongue", "put", "([III)V"⟩ "LanternTongue",
  .methodLinkNest "LanternTongue$Page" 23 ⟨"LanternTongue", "cell", "([II)I"⟩ "LanternTongue",
  .methodLinkNest "LanternTongue$Mine" 38 ⟨"LanternTongue$Page", "kindOfSign", "(I)I"⟩ "LanternTongue",
  .methodLinkNest "LanternTongue$Mine" 41 ⟨"LanternTongue", "put", "([III)V"⟩ "LanternTongue",
  .methodLinkNest "LanternTongue$Mine" 48 ⟨"LanternTongue", "cell", "([II)I"⟩ "LanternTongue",
  .methodLinkNest "LanternTongue$Table" 19 ⟨"LanternTongue", "put", "([III)V"⟩ "LanternTongue",
  .methodLinkNest "LanternTongue$Table" 15 ⟨"LanternTongue", "cell", "([II)I"⟩ "LanternTongue",
  .methodLinkNest "LanternTongue$Ways" 67 ⟨"LanternTongue", "cell", "([II)I"⟩ "LanternTongue",
  .methodLinkNest "LanternTongue$Ways" 96 ⟨"LanternTongue", "put", "([III)V"⟩ "LanternTongue",
  .methodLinkNest "LanternTongue$Camp" 41 ⟨"LanternTongue", "cell", "([II)I"⟩ "LanternTongue",
  .methodLinkNest "LanternTongue$Camp" 45 ⟨"LanternTongue", "put", "([III)V"⟩ "LanternTongue"]
def GW : List Cond := lw_tbl.filter goodWord
theorem GW_good {w : Cond} (h : w ∈ GW) : goodWord w = true := (List.mem_filter.mp h).2
theorem GW_mem {w : Cond} (h : w ∈ lw_tbl) (hg : goodWord w = true) : w ∈ GW := List.mem_filter.mpr ⟨h, hg⟩
theorem GW_1 {w : Cond} (i : Nat) (h : tables_1_1[i]? = some w) (hg : goodWord w = true) : w ∈ GW := GW_mem (List.mem_append_right _ (List.mem_append_left _ (List.mem_of_getElem? h))) hg
theorem GW_2 {w : Cond} (i : Nat) (h : tables_1_2[i]? = some w) (hg : goodWord w = true) : w ∈ GW := GW_mem (List.mem_append_right _ (List.mem_append_right _ (List.mem_append_left _ (List.mem_of_getElem? h)))) hg
theorem GW_3 {w : Cond} (i : Nat) (h : tables_1_3[i]? = some w) (hg : goodWord w = true) : w ∈ GW := GW_mem (List.mem_append_right _ (List.mem_append_right _ (List.mem_append_right _ (List.mem_append_left _ (List.mem_of_getElem? h))))) hg
theorem GW_4 {w : Cond} (i : Nat) (h : tables_1_4[i]? = some w) (hg : goodWord w = true) : w ∈ GW := GW_mem (List.mem_append_right _ (List.mem_append_right _ (List.mem_append_right _ (List.mem_append_right _ (List.mem_append_left _ (List.mem_of_getElem? h)))))) hg
theorem GW_5 {w : Cond} (i : Nat) (h : tables_1_5[i]? = some w) (hg : goodWord w = true) : w ∈ GW := GW_mem (List.mem_append_right _ (List.mem_append_right _ (List.mem_append_right _ (List.mem_append_right _ (List.mem_append_right _ (List.mem_of_getElem? h)))))) hg
theorem GW_p1 {w : Cond} (i : Nat) (h : (k2_sels lw_privs_1)[i]? = some w) (hg : goodWord w = true) : w ∈ GW := GW_mem (List.mem_append_left _ (by
  show w ∈ k2_sels (lw_privs_1 ++ (lw_privs_2 ++ lw_privs_3))
  unfold k2_sels
  rw [List.map_append]
  exact List.mem_append_left _ (List.mem_of_getElem? h))) hg
theorem GW_p2 {w : Cond} (i : Nat) (h : (k2_sels lw_privs_2)[i]? = some w) (hg : goodWord w = true) : w ∈ GW := GW_mem (List.mem_append_left _ (by
  show w ∈ k2_sels (lw_privs_1 ++ (lw_privs_2 ++ lw_privs_3))
  unfold k2_sels
  rw [List.map_append, List.map_append]
  exact List.mem_append_right _ (List.mem_append_left _ (List.mem_of_getElem? h)))) hg
theorem GW_p3 {w : Cond} (i : Nat) (h : (k2_sels lw_privs_3)[i]? = some w) (hg : goodWord w = true) : w ∈ GW := GW_mem (List.mem_append_left _ (by
  show w ∈ k2_sels (lw_privs_1 ++ (lw_privs_2 ++ lw_privs_3))
  unfold k2_sels
  rw [List.map_append, List.map_append]
  exact List.mem_append_right _ (List.mem_append_right _ (List.mem_of_getElem? h)))) hg
theorem GW_in {c : Cond} (hc : c ∈ GW) : GoodIn GW (c :: GW) := fun w hw => by
  rcases List.mem_cons.mp hw with h | h
  · rw [h]; exact ⟨hc, good_of_word (GW_good hc)⟩
  · exact ⟨h, good_of_word (GW_good h)⟩
/-- the nest mates' words hold -/
def NW (U : State) : Prop := ∀ w ∈ nestW, va_Nw w U
def isNest : Cond → Bool
  | .fieldLinkNest .. => true
  | .methodLinkNest .. => true
  | _ => false
theorem nestW_is : nestW.all isNest = true := by decide +kernel
theorem NW.warm {s U : State} (hW : s.WarmedH U.vm) (h : NW s) : NW U := fun w hw => by
  have h1 := List.all_eq_true.mp nestW_is w hw
  have h2 := h w hw
  cases w <;> first | exact va_Nw.warmF hW h2 | exact va_Nw.warmM hW h2 | (simp [isNest] at h1; done)
theorem NW.same {u U : State} (hv : u.vm = U.vm) (h : NW u) : NW U := fun w hw => by
  have h1 := List.all_eq_true.mp nestW_is w hw
  have h2 := h w hw
  cases w <;> first | exact va_Nw.same rfl hv h2 | (simp [isNest] at h1; done)
