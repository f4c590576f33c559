/-! ===== the classes, the memory, the world ===== -/
abbrev classes : List vw_C := [(RX0, TX0, 12), (RX1, TX1, 4), (RX2, TX2, 4), (RX3, TX3, 7), (RX4, TX4, 6), (RX5, TX5, 13), (RX6, TX6, 5), (RX7, TX7, 13), (RX8, TX8, 2), (RX9, TX9, 9), (RX10, TX10, 5), (RX11, TX11, 8), (RX12, TX12, 44)]
def GW : List Cond := lw_tbl.filter goodWord
theorem gw_of {w : Cond} (i : Nat) (h : lw_tbl[i]? = some w) (hg : goodWord w = true) : w ∈ GW := List.mem_filter.mpr ⟨List.mem_of_getElem? h, hg⟩
theorem gw_good {w : Cond} (h : w ∈ GW) : w ∈ GW ∧ ((w.onTables && w.keeps) = true ∨ ∃ ty, w = .arrayClass ty) := ⟨h, good_of_word (List.mem_filter.mp h).2⟩
abbrev MM : Type := (Nat → Nat → Int32) × (Nat → Nat → Int64)
def gI (M : MM) (a k : Nat) : Int32 := M.1 a k
def gL (M : MM) (a k : Nat) : Int64 := M.2 a k
def sI (M : MM) (a k : Nat) (v : Int32) : MM := (fun b => if b = a then upd (M.1 a) k v else M.1 b, M.2)
def sL (M : MM) (a k : Nat) (v : Int64) : MM := (M.1, fun b => if b = a then vp_updL (M.2 a) k v else M.2 b)
def cpI (M : MM) (a b sp dp n : Nat) : MM := (fun c => if c = b then va_cpy (M.1 a) (M.1 b) sp dp n else M.1 c, M.2)
/-- how many cells; a cell's kind (a class's number, or 20 + an array's) and length; what its slots refer to -/
abbrev SK : Type := Nat × (Nat → Nat × Nat) × (Nat → Nat → Option Nat)
/-- the first address; the classes' numbers and slots; the array classes' numbers; addresses of what was there before -/
abbrev GG : Type := Nat × va_G × (Nat → ClassId) × (Nat → Nat)
def fty (ci : Nat) : Nat → FieldType := match ci with
  | 0 => tyX0 | 1 => tyX1 | 2 => tyX2 | 3 => tyX3 | 4 => tyX4 | 5 => tyX5 | 6 => tyX6 | 7 => tyX7 | 8 => tyX8 | 9 => tyX9 | 10 => tyX10 | 11 => tyX11 | _ => tyX12
def nfl (ci : Nat) : Nat := match ci with
  | 0 => 12 | 1 => 4 | 2 => 4 | 3 => 7 | 4 => 6 | 5 => 13 | 6 => 5 | 7 => 13 | 8 => 2 | 9 => 9 | 10 => 5 | 11 => 8 | _ => 44
def fkOf (t : FieldType) : Nat := match t with
  | .long => 1 | .object _ => 2 | .array _ => 2 | _ => 0
abbrev rfv (G : GG) (o : Option Nat) : Value := va_rf (o.map (G.1 + ·))
def fval (G : GG) (K : SK) (M : MM) (a ci k : Nat) : Value := match fkOf (fty ci k) with
  | 1 => .long (gL M a k)
  | 2 => rfv G (K.2.2 a k)
  | _ => .int (gI M a k)
def kA (G : GG) (K : SK) (M : MM) (a : Nat) (kd : Nat) : (Nat → Int32) ⊕ (Nat → Int64) ⊕ (Nat → UInt32) ⊕ (Nat → UInt64) ⊕ (Nat → Option Nat) :=
  if kd = 21 then .inr (.inl (M.2 a)) else if 24 ≤ kd then .inr (.inr (.inr (.inr (fun j => (K.2.2 a j).map (G.1 + ·))))) else .inl (M.1 a)
def kE (G : GG) (K : SK) (M : MM) (a : Nat) : va_E :=
  if (K.2.1 a).1 < 13 then .inr ((K.2.1 a).1, (List.range (nfl (K.2.1 a).1)).map (fval G K M a (K.2.1 a).1))
  else .inl (G.2.2.1 (K.2.1 a).1, (K.2.1 a).2, kA G K M a (K.2.1 a).1)
def wsOf (G : GG) (K : SK) (M : MM) : va_W := (List.range K.1).map (fun a => (G.1 + a, kE G K M a))
abbrev tysOf (G : GG) : List (ClassId × FieldType) := [(G.2.2.1 20, .int), (G.2.2.1 21, .long), (G.2.2.1 22, .byte), (G.2.2.1 23, .boolean), (G.2.2.1 24, .object RX5), (G.2.2.1 25, .object RX4), (G.2.2.1 26, .object RX2), (G.2.2.1 27, .object RX8), (G.2.2.1 28, .object RX9)]
def AG (G : GG) : Nat → Prop := fun q => G.1 ≤ q
def Sm (G : GG) (K : SK) (M : MM) (H : Heap) : Prop := H.size = G.1 + K.1 ∧ va_P G.2.1 classes (wsOf G K M) H
/-- a cell of the world: it is there, of this kind and length -/
def isC (K : SK) (a kd ln : Nat) : Prop := a < K.1 ∧ K.2.1 a = (kd, ln)
theorem ws_at {G : GG} {K : SK} {M : MM} {a : Nat} (h : a < K.1) : (wsOf G K M)[a]? = some (G.1 + a, kE G K M a) := by
  simp [wsOf, h]
theorem ws_obj {G : GG} {K : SK} {M : MM} {a ci ln : Nat} (h : isC K a ci ln) (hc : ci < 13) : (wsOf G K M)[a]? = some (G.1 + a, .inr (ci, (List.range (nfl ci)).map (fval G K M a ci))) := by
  rw [ws_at h.1]
  simp [kE, h.2, hc]
theorem ws_arr {G : GG} {K : SK} {M : MM} {a kd ln : Nat} (h : isC K a kd ln) (hc : ¬ kd < 13) : (wsOf G K M)[a]? = some (G.1 + a, .inl (G.2.2.1 kd, ln, kA G K M a kd)) := by
  rw [ws_at h.1]
  simp [kE, h.2, hc]
theorem ws_D (G : GG) (K : SK) (M : MM) : va_D (AG G) (wsOf G K M) := by
  refine ⟨fun i j p q hi hj e => ?_, fun k q hk => ?_⟩
  · simp only [wsOf, List.getElem?_map, Option.map_eq_some_iff] at hi hj
    obtain ⟨a, ha, rfl⟩ := hi
    obtain ⟨b, hb, rfl⟩ := hj
    have ea := (List.getElem?_eq_some_iff.mp ha).2
    have eb := (List.getElem?_eq_some_iff.mp hb).2
    simp at ea eb e
    omega
  · simp only [wsOf, List.getElem?_map, Option.map_eq_some_iff] at hk
    obtain ⟨a, ha, rfl⟩ := hk
    show G.1 ≤ G.1 + a
    omega
/-- two worlds that differ in one cell -/
theorem ws_set {G : GG} {K K' : SK} {M M' : MM} {a : Nat} {E : va_E} (hn : K'.1 = K.1) (ha : a < K.1) (hE : kE G K' M' a = E) (ho : ∀ b, b < K.1 → b ≠ a → kE G K' M' b = kE G K M b) : (wsOf G K M).set a (G.1 + a, E) = wsOf G K' M' := by
  apply List.ext_getElem?
  intro i
  rw [List.getElem?_set]
  by_cases hi : a = i
  · subst hi
    have hl : a < (wsOf G K M).length := by simp [wsOf, ha]
    simp only [hl, if_true]
    rw [ws_at (by rw [hn]; exact ha), hE]
  · simp only [hi, if_false]
    by_cases h : i < K.1
    · rw [ws_at h, ws_at (by rw [hn]; exact h), ho i h (fun e => hi e.symm)]
    · have h1 : (wsOf G K M).length ≤ i := by simp [wsOf]; omega
      have h2 : (wsOf G K' M').length ≤ i := by simp [wsOf, hn]; omega
      rw [List.getElem?_eq_none h1, List.getElem?_eq_none h2]
theorem range_set (n k : Nat) (f g : Nat → Value) (v : Value) (hv : g k = v) (ho : ∀ j, j ≠ k → g j = f j) : ((List.range n).map f).set k v = (List.range n).map g := by
  apply List.ext_getElem?
  intro i
  rw [List.getElem?_set]
  by_cases hi : k = i
  · subst hi
    by_cases hl : k < n
    · simp [hl, hv]
    · simp [hl]
  · simp only [hi, if_false, List.getElem?_map]
    by_cases hl : i < n
    · simp [hl, ho i (fun e => hi e.symm)]
    · simp [hl]
theorem kE_congr {G : GG} {K : SK} {M M' : MM} {b : Nat} (h1 : M'.1 b = M.1 b) (h2 : M'.2 b = M.2 b) : kE G K M' b = kE G K M b := by
  have hf : ∀ ci, fval G K M' b ci = fval G K M b ci := fun ci => by
    funext k
    simp [fval, gI, gL, h1, h2]
  simp [kE, kA, hf, h1, h2]
theorem kE_sI_ne {G : GG} {K : SK} {M : MM} {a b k : Nat} {v : Int32} (h : b ≠ a) : kE G K (sI M a k v) b = kE G K M b := kE_congr (by simp [sI, h]) rfl
theorem kE_sL_ne {G : GG} {K : SK} {M : MM} {a b k : Nat} {v : Int64} (h : b ≠ a) : kE G K (sL M a k v) b = kE G K M b := kE_congr rfl (by simp [sL, h])
theorem kE_cp_ne {G : GG} {K : SK} {M : MM} {a d b sp dp n : Nat} (h : b ≠ d) : kE G K (cpI M a d sp dp n) b = kE G K M b := kE_congr (by simp [cpI, h]) rfl
theorem kE_obj {G : GG} {K : SK} {M : MM} {a ci ln : Nat} (h : isC K a ci ln) (hc : ci < 13) : kE G K M a = .inr (ci, (List.range (nfl ci)).map (fval G K M a ci)) := by simp [kE, h.2, hc]
theorem kE_arr {G : GG} {K : SK} {M : MM} {a kd ln : Nat} (h : isC K a kd ln) (hc : ¬ kd < 13) : kE G K M a = .inl (G.2.2.1 kd, ln, kA G K M a kd) := by simp [kE, h.2, hc]
/-! ===== what holds in a body; the judgement ===== -/
/-- what was there before and stays: the classes' own arrays, the texts (filled in later parts through its parts) -/
def st_tab (k : Nat) : String × String × List Int32 := match k with
  | 0 => (RX7, "FIRST_LINE", [0, 7, 13, 18, 20])
  | 1 => (RX7, "NUMBERS", [2, 2, 3, 5, 5, 5, 5, 1, 1, 1, 1, 0, 0, 2, 2, 1, 1, 0, 2, 1])
  | 2 => (RX7, "GREATEST", [8, 8, 0, 0, 0, 7, 7, 0, 0, 0, 7, 7, 9, 0, 0, 7, 7, 7, 9, 3, 7, 7, 7, 9, 3, 7, 7, 7, 9, 3, 7, 7, 7, 9, 3, 9, 0, 0, 0, 0, 20, 0, 0, 0, 0, 2, 0, 0, 0, 0, 9, 0, 0, 0, 0, 0, 0, 0, 0, 0, 0, 0, 0, 0, 0, 7, 7, 0, 0, 0, 7, 7, 0, 0, 0, 7, 0, 0, 0, 0, 7, 0, 0, 0, 0, 0, 0, 0, 0, 0, 7, 9, 0, 0, 0, 9, 0, 0, 0, 0])
  | 3 => (RX0, "RIGHT", [0, 1, 1, 1, 0, -1, -1, -1])
  | _ => (RX0, "DOWN", [-1, -1, 0, 1, 1, 1, 0, -1])
def st_val (k j : Nat) : Int32 := (st_tab k).2.2.getD j 0
def strT : List (Nat × String × List Int32) := [(203, "size", [115, 105, 122, 101]), (205, "wall", [119, 97, 108, 108]), (207, "person", [112, 101, 114, 115, 111, 110]), (209, "pond", [112, 111, 110, 100]), (211, "spoon", [115, 112, 111, 111, 110]), (213, "mirror", [109, 105, 114, 114, 111, 114]), (215, "eye", [101, 121, 101]), (217, "cousins", [99, 111, 117, 115, 105, 110, 115]), (218, "seats", [115, 101, 97, 116, 115]), (219, "way", [119, 97, 121]), (220, "tax", [116, 97, 120]), (221, "twins", [116, 119, 105, 110, 115]), (222, "soup", [115, 111, 117, 112]), (223, "go", [103, 111]), (225, "turn", [116, 117, 114, 110]), (227, "stir", [115, 116, 105, 114]), (229, "calm", [99, 97, 108, 109]), (231, "count", [99, 111, 117, 110, 116]), (233, "told", [116, 111, 108, 100]), (235, "slips", [115, 108, 105, 112, 115]), (236, "", [])]
def strIx (w : Nat) : Nat := (strT.getD w (0, "", [])).1
def strTx (w : Nat) : String := (strT.getD w (0, "", [])).2.1
def strLen : List Nat := strT.map (fun q => q.2.2.length)
def strByt : List (List Int32) := strT.map (fun q => q.2.2)
def StA (G : GG) (U : State) (H : Heap) : Prop := ∀ k, k < 5 → va_Z (st_tab k).1 (st_tab k).2.1 "[I" (.ref (G.2.2.2 k)) (AG G) U H ∧ va_T .int (G.2.2.2 k) (st_tab k).2.2.length (fun j => .int (st_val k j)) (AG G) U H
def StS (G : GG) (U : State) (H : Heap) : Prop := vk_S 21 strLen strByt (fun w => G.2.2.2 (100 + w)) (fun w => G.2.2.2 (200 + w)) (AG G) U H ∧ va_Z "java/lang/String" "COMPACT_STRINGS" "Z" (.int 1) (AG G) U H ∧ va_Zq "jdk/internal/util/Preconditions" "SIOOBE_FORMATTER" "Ljava/util/function/BiFunction;" (AG G) U H
def StR (G : GG) (U : State) : Prop := ∀ w, w < 21 → vk_R RX7 (strIx w) (strTx w) (G.2.2.2 (100 + w)) U
/-- classes of whose objects arrays are made -/
def aoL : List String := [RX5, RX4, RX2, RX8, RX9]
def StO (U : State) : Prop := ∀ C, C ∈ aoL → va_AO C U
def Stt (G : GG) (U : State) (H : Heap) : Prop := StA G U H ∧ StS G U H ∧ StR G U ∧ StO U
theorem Stt.moved {G : GG} {u U : State} {H : Heap} (hW : u.WarmedH U.vm) (h : Stt G u H) : Stt G U H := ⟨fun k hk => ⟨(h.1 k hk).1.moved hW.alike, (h.1 k hk).2.moved hW.alike⟩, ⟨h.2.1.1.moved hW.alike, h.2.1.2.1.moved hW.alike, h.2.1.2.2.moved hW.alike⟩, fun w hw => (h.2.2.1 w hw).warm hW, fun C hC => (h.2.2.2 C hC).moved hW.alike⟩
theorem Stt.same {G : GG} {u U : State} {H : Heap} (hv : U.vm = u.vm) (h : Stt G u H) : Stt G U H := by
  have ha : u.vm.Alike U.vm := by rw [hv]; exact Vm.Alike.refl _
  exact ⟨fun k hk => ⟨(h.1 k hk).1.moved ha, (h.1 k hk).2.moved ha⟩, ⟨h.2.1.1.moved ha, h.2.1.2.1.moved ha, h.2.1.2.2.moved ha⟩, fun w hw => (h.2.2.1 w hw).same hv, fun C hC => (h.2.2.2 C hC).moved ha⟩
theorem Stt.kept {G : GG} {U : State} {H H1 : Heap} (h : Stt G U H) (hq : ∀ a : Nat, a < H.size → ¬ AG G a → H1[a]? = H[a]?) : Stt G U H1 := ⟨fun k hk => ⟨(h.1 k hk).1.kept hq, (h.1 k hk).2.kept hq⟩, ⟨h.2.1.1.kept hq, h.2.1.2.1.kept hq, h.2.1.2.2.kept hq⟩, h.2.2⟩
def Wd (G : GG) (K : SK) (M : MM) (U : State) : Prop := Sm G K M U.heap ∧ va_K G.2.1 classes (tysOf G) U ∧ Stt G U U.heap
def CX (p : Program) (s : State) (m : MethodId) (args : Array Value) (meth : Method) (c : Code) (cc : ByteArray) (nL : Nat) (ret : Option FieldType) (own : String) (G : GG) : Prop :=
  p.tables.exec = Jvm.exec ∧ c.code = cc ∧ c.maxLocals = nL ∧ s.vm.findClass own = some m.cls ∧ (∀ w ∈ GW, w.before args s = true) ∧ va_K G.2.1 classes (tysOf G) s ∧ G.1 ≤ s.heap.size ∧ Stt G s s.heap ∧ meth.sig.returnType = ret ∧ meth.locks = false
def Z (p : Program) (l : Launch) (e : Env) (R : Room) (s : State) (m : MethodId) (args : Array Value) (below : List Frame) (meth : Method) (c : Code) (nL : Nat) (G : GG) (Q : State → Prop) (K : SK) (cells slots : Nat) (M : MM) (pc : Nat) (lv : List (Nat × Value)) (st : List Value) : Prop :=
  ∀ (H : Heap) (locs : List Loc) (ls : Array Slot), Sm G K M H → va_S (AG G) s.heap H locs → lv_has ls nL lv → W p l e R s m args below meth c H locs cells slots Q (F0 m pc ls st)
def QC (G : GG) (o : Option Value) (K : SK) (M : MM) : Array Value → State → Outcome → State → Prop := fun _ st oc t => oc = .returned o ∧ Wd G K M t ∧ va_F (AG G) st t
def rmo (d mc ms : Nat) : Room := { frames := d, cells := mc, slots := ms, locals := 40 * d }
/-- a method's contract: in any world it answers o and leaves that world -/
def Ct (l : Launch) (y : MethodName) (cc : ByteArray) (maxL : Nat) (ret : Option FieldType) (d mc ms : Nat) (G : GG) (K : SK) (M : MM) (av : List Value) (o : Option Value) (K' : SK) (M' : MM) : Prop :=
  Met l y (.code y cc maxL ret :: GW) (rmo d mc ms) (va_Pc av (fun U => Wd G K M U)) (QC G o K' M') mc ms (AG G)
theorem z_enter {l : Launch} {y : MethodName} {cc : ByteArray} {maxL : Nat} {ret : Option FieldType} {d mc ms : Nat} {G : GG} {K K' : SK} {M M' : MM} {av : List Value} {o : Option Value} {lv : List (Nat × Value)} (hy : plainName y.cls = true) (hlen : (lg_sl av).length ≤ maxL) (hlv : lv_args 0 av = lv)
    (body : ∀ (p : Program) (e : Env) (s : State) (m : MethodId) (args : Array Value) (below : List Frame) (meth : Method) (c : Code), CX p s m args meth c cc maxL ret y.cls G → meth.name = y.name → s.heap.size = G.1 + K.1 → Z p l e (rmo d mc ms) s m args below meth c maxL G (MQ below (QC G o K' M') args s mc ms (AG G)) K 0 0 M 0 lv []) : Ct l y cc maxL ret d mc ms G K M av o K' M' := by
  refine Met.ofW (cc := cc) (maxL := maxL) (ret := ret) hy rfl ?_
  intro p e s m args below meth c s₁ B hml hv
  obtain ⟨rfl, hS, hK, hT⟩ := hv
  have hts := atoms_spec (ws := .code y cc maxL ret :: GW) B.pre
  have hown : s.vm.findClass y.cls = some m.cls := findClass_of_methodNamed B.named
  have C : CX p s m av.toArray meth c cc maxL ret y.cls G := ⟨B.exec, B.bytes, hml, hown, fun w hw => hts w (List.mem_cons_of_mem _ hw), hK, by rw [hS.1]; exact Nat.le_add_right _ _, hT, B.returns, B.notSynchronized⟩
  have hl := lv_entry av (n := maxL) hlen
  rw [lg_entry_eq]
  rw [hlv] at hl
  exact body p e s m av.toArray below meth c C (name_of_methodNamed B.named B.method).1 hS.1 s.heap [] _ hS va_S.rf hl
