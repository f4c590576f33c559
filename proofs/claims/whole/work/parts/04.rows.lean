section ZROWS
variable {p : Program} {l : Launch} {e : Env} {R : Room} {s : State} {m : MethodId} {args : Array Value} {below : List Frame} {meth : Method} {c : Code} {cc : ByteArray} {nL : Nat} {ret : Option FieldType} {own : String} {G : GG} {Q : State → Prop} {K : SK} {cells slots : Nat} {M : MM} {pc : Nat} {lv : List (Nat × Value)} {st : List Value}
theorem z_iconst (C : CX p s m args meth c cc nL ret own G) {n : Int} (v : Int32) (hd : decode cc pc = .ok (.iconst n, 1)) (hv : Int32.ofInt n = v) (k : Z p l e R s m args below meth c nL G Q K cells slots M (pc + 1) lv (.int v :: st)) : Z p l e R s m args below meth c nL G Q K cells slots M pc lv (st) := fun H locs ls h1 h2 h3 => lv_iconst C.1 C.2.1 hd hv (k H locs ls h1 h2 h3)
theorem z_bipush (C : CX p s m args meth c cc nL ret own G) {n : Int} (v : Int32) (hd : decode cc pc = .ok (.bipush n, 2)) (hv : (Int8.ofInt n).toInt32 = v) (k : Z p l e R s m args below meth c nL G Q K cells slots M (pc + 2) lv (.int v :: st)) : Z p l e R s m args below meth c nL G Q K cells slots M pc lv (st) := fun H locs ls h1 h2 h3 => lv_bipush C.1 C.2.1 hd hv (k H locs ls h1 h2 h3)
theorem z_sipush (C : CX p s m args meth c cc nL ret own G) {n : Int} (v : Int32) (hd : decode cc pc = .ok (.sipush n, 3)) (hv : (Int16.ofInt n).toInt32 = v) (k : Z p l e R s m args below meth c nL G Q K cells slots M (pc + 3) lv (.int v :: st)) : Z p l e R s m args below meth c nL G Q K cells slots M pc lv (st) := fun H locs ls h1 h2 h3 => lv_sipush C.1 C.2.1 hd hv (k H locs ls h1 h2 h3)
theorem z_lconst (C : CX p s m args meth c cc nL ret own G) {n : Fin 2} (v : Int64) (hd : decode cc pc = .ok (.lconst n, 1)) (hv : Int64.ofNat (n : Nat) = v) (k : Z p l e R s m args below meth c nL G Q K cells slots M (pc + 1) lv (.long v :: st)) : Z p l e R s m args below meth c nL G Q K cells slots M pc lv (st) := fun H locs ls h1 h2 h3 => lv_lconst C.1 C.2.1 hd hv (k H locs ls h1 h2 h3)
theorem z_ldc (C : CX p s m args meth c cc nL ret own G) {index : Nat} (v : Int32) (hc : Cond.constant own index v ∈ GW) (hd : decode cc pc = .ok (.ldc index, 2)) (k : Z p l e R s m args below meth c nL G Q K cells slots M (pc + 2) lv (.int v :: st)) : Z p l e R s m args below meth c nL G Q K cells slots M pc lv (st) := fun H locs ls h1 h2 h3 => lv_ldc C.1 C.2.1 C.2.2.2.1 (C.2.2.2.2.1 _ hc) hd (k H locs ls h1 h2 h3)
theorem z_ldcw (C : CX p s m args meth c cc nL ret own G) {index : Nat} (v : Int32) (hc : Cond.constant own index v ∈ GW) (hd : decode cc pc = .ok (.ldc_w index, 3)) (k : Z p l e R s m args below meth c nL G Q K cells slots M (pc + 3) lv (.int v :: st)) : Z p l e R s m args below meth c nL G Q K cells slots M pc lv (st) := fun H locs ls h1 h2 h3 => lv_ldcw C.1 C.2.1 C.2.2.2.1 (C.2.2.2.2.1 _ hc) hd (k H locs ls h1 h2 h3)
theorem z_ldc2 (C : CX p s m args meth c cc nL ret own G) {index : Nat} (v : Int64) (hc : Cond.constantLong own index v ∈ GW) (hd : decode cc pc = .ok (.ldc2_w index, 3)) (k : Z p l e R s m args below meth c nL G Q K cells slots M (pc + 3) lv (.long v :: st)) : Z p l e R s m args below meth c nL G Q K cells slots M pc lv (st) := fun H locs ls h1 h2 h3 => lv_ldc2 C.1 C.2.1 C.2.2.2.1 (C.2.2.2.2.1 _ hc) hd (k H locs ls h1 h2 h3)
theorem z_null (C : CX p s m args meth c cc nL ret own G) (hd : decode cc pc = .ok (.aconst_null, 1)) (k : Z p l e R s m args below meth c nL G Q K cells slots M (pc + 1) lv (.null :: st)) : Z p l e R s m args below meth c nL G Q K cells slots M pc lv (st) := fun H locs ls h1 h2 h3 => lv_null C.1 C.2.1 hd (k H locs ls h1 h2 h3)
theorem z_iload_n (C : CX p s m args meth c cc nL ret own G) {i : Fin 4} {x : Int32} (q j : Nat) (hd : decode cc pc = .ok (.iload_n i, 1)) (hi : (i : Nat) = j) (hq : lv[q]? = some (j, .int x)) (k : Z p l e R s m args below meth c nL G Q K cells slots M (pc + 1) lv (.int x :: st)) : Z p l e R s m args below meth c nL G Q K cells slots M pc lv (st) := fun H locs ls h1 h2 h3 => lv_iload_n C.1 C.2.1 hd hi (lv_at h3 q hq) (k H locs ls h1 h2 h3)
theorem z_iload (C : CX p s m args meth c cc nL ret own G) {i : Nat} {x : Int32} (q : Nat) (hd : decode cc pc = .ok (.iload i, 2)) (hq : lv[q]? = some (i, .int x)) (k : Z p l e R s m args below meth c nL G Q K cells slots M (pc + 2) lv (.int x :: st)) : Z p l e R s m args below meth c nL G Q K cells slots M pc lv (st) := fun H locs ls h1 h2 h3 => lv_iload C.1 C.2.1 hd (lv_at h3 q hq) (k H locs ls h1 h2 h3)
theorem z_lload_n (C : CX p s m args meth c cc nL ret own G) {i : Fin 4} {x : Int64} (q j : Nat) (hd : decode cc pc = .ok (.lload_n i, 1)) (hi : (i : Nat) = j) (hq : lv[q]? = some (j, .long x)) (k : Z p l e R s m args below meth c nL G Q K cells slots M (pc + 1) lv (.long x :: st)) : Z p l e R s m args below meth c nL G Q K cells slots M pc lv (st) := fun H locs ls h1 h2 h3 => lv_lload_n C.1 C.2.1 hd hi (lv_at h3 q hq) (k H locs ls h1 h2 h3)
theorem z_lload (C : CX p s m args meth c cc nL ret own G) {i : Nat} {x : Int64} (q : Nat) (hd : decode cc pc = .ok (.lload i, 2)) (hq : lv[q]? = some (i, .long x)) (k : Z p l e R s m args below meth c nL G Q K cells slots M (pc + 2) lv (.long x :: st)) : Z p l e R s m args below meth c nL G Q K cells slots M pc lv (st) := fun H locs ls h1 h2 h3 => lv_lload C.1 C.2.1 hd (lv_at h3 q hq) (k H locs ls h1 h2 h3)
theorem z_aload_n (C : CX p s m args meth c cc nL ret own G) {i : Fin 4} {x : Nat} (q j : Nat) (hd : decode cc pc = .ok (.aload_n i, 1)) (hi : (i : Nat) = j) (hq : lv[q]? = some (j, .ref x)) (k : Z p l e R s m args below meth c nL G Q K cells slots M (pc + 1) lv (.ref x :: st)) : Z p l e R s m args below meth c nL G Q K cells slots M pc lv (st) := fun H locs ls h1 h2 h3 => lv_aload_n C.1 C.2.1 hd hi (lv_at h3 q hq) (k H locs ls h1 h2 h3)
theorem z_aload (C : CX p s m args meth c cc nL ret own G) {i : Nat} {x : Nat} (q : Nat) (hd : decode cc pc = .ok (.aload i, 2)) (hq : lv[q]? = some (i, .ref x)) (k : Z p l e R s m args below meth c nL G Q K cells slots M (pc + 2) lv (.ref x :: st)) : Z p l e R s m args below meth c nL G Q K cells slots M pc lv (st) := fun H locs ls h1 h2 h3 => lv_aload C.1 C.2.1 hd (lv_at h3 q hq) (k H locs ls h1 h2 h3)
theorem z_qload_n (C : CX p s m args meth c cc nL ret own G) {i : Fin 4} {x : Option Nat} (q j : Nat) (hd : decode cc pc = .ok (.aload_n i, 1)) (hi : (i : Nat) = j) (hq : lv[q]? = some (j, va_rf x)) (k : Z p l e R s m args below meth c nL G Q K cells slots M (pc + 1) lv (va_rf x :: st)) : Z p l e R s m args below meth c nL G Q K cells slots M pc lv (st) := fun H locs ls h1 h2 h3 => by cases x with | none => exact lv_aload_nN C.1 C.2.1 hd hi (lv_at h3 q hq) (k H locs ls h1 h2 h3) | some x => exact lv_aload_n C.1 C.2.1 hd hi (lv_at h3 q hq) (k H locs ls h1 h2 h3)
theorem z_qload (C : CX p s m args meth c cc nL ret own G) {i : Nat} {x : Option Nat} (q : Nat) (hd : decode cc pc = .ok (.aload i, 2)) (hq : lv[q]? = some (i, va_rf x)) (k : Z p l e R s m args below meth c nL G Q K cells slots M (pc + 2) lv (va_rf x :: st)) : Z p l e R s m args below meth c nL G Q K cells slots M pc lv (st) := fun H locs ls h1 h2 h3 => by cases x with | none => exact lv_aloadN C.1 C.2.1 hd (lv_at h3 q hq) (k H locs ls h1 h2 h3) | some x => exact lv_aload C.1 C.2.1 hd (lv_at h3 q hq) (k H locs ls h1 h2 h3)
theorem va_rf_cat (x : Option Nat) : (va_rf x).category = 1 := by cases x <;> rfl
theorem lv_fil {l : List (Nat × Value)} {i : Nat} (hc : l.all (fun q => !(q.1 + 1 == i) || q.2.category == 1) = true) : l.filter (fun q => !(q.1 == i) && !(q.1 + 1 == i && q.2.category == 2)) = l.filter (fun q => !(q.1 == i)) := by
  apply List.filter_congr
  intro q hq
  have h := List.all_eq_true.mp hc q hq
  by_cases h1 : q.1 + 1 = i
  · simp [h1] at h
    simp [h1, h]
  · simp [h1]
theorem z_istore_n (C : CX p s m args meth c cc nL ret own G) {j : Fin 4} {i : Nat} {x : Int32} (lv2 : List (Nat × Value)) (hd : decode cc pc = .ok (.istore_n j, 1)) (hi : (j : Nat) = i) (hn : i < nL) (hc : lv.all (fun q => !(q.1 + 1 == i) || q.2.category == 1) = true) (hl : (i, Value.int x) :: lv.filter (fun q => !(q.1 == i)) = lv2) (k : Z p l e R s m args below meth c nL G Q K cells slots M (pc + 1) lv2 (st)) : Z p l e R s m args below meth c nL G Q K cells slots M pc lv (.int x :: st) := fun H locs ls h1 h2 h3 => lv_istore_n C.1 C.2.1 hd hi h3 hn (by rw [lv_fil hc]; exact hl) (fun ls h3 => (k H locs ls h1 h2 h3))
theorem z_istore (C : CX p s m args meth c cc nL ret own G) {i : Nat} {x : Int32} (lv2 : List (Nat × Value)) (hd : decode cc pc = .ok (.istore i, 2)) (hn : i < nL) (hc : lv.all (fun q => !(q.1 + 1 == i) || q.2.category == 1) = true) (hl : (i, Value.int x) :: lv.filter (fun q => !(q.1 == i)) = lv2) (k : Z p l e R s m args below meth c nL G Q K cells slots M (pc + 2) lv2 (st)) : Z p l e R s m args below meth c nL G Q K cells slots M pc lv (.int x :: st) := fun H locs ls h1 h2 h3 => lv_istore C.1 C.2.1 hd h3 hn (by rw [lv_fil hc]; exact hl) (fun ls h3 => (k H locs ls h1 h2 h3))
theorem z_astore_n (C : CX p s m args meth c cc nL ret own G) {j : Fin 4} {i : Nat} {x : Nat} (lv2 : List (Nat × Value)) (hd : decode cc pc = .ok (.astore_n j, 1)) (hi : (j : Nat) = i) (hn : i < nL) (hc : lv.all (fun q => !(q.1 + 1 == i) || q.2.category == 1) = true) (hl : (i, Value.ref x) :: lv.filter (fun q => !(q.1 == i)) = lv2) (k : Z p l e R s m args below meth c nL G Q K cells slots M (pc + 1) lv2 (st)) : Z p l e R s m args below meth c nL G Q K cells slots M pc lv (.ref x :: st) := fun H locs ls h1 h2 h3 => lv_astore_n C.1 C.2.1 hd hi h3 hn (by rw [lv_fil hc]; exact hl) (fun ls h3 => (k H locs ls h1 h2 h3))
theorem z_astore (C : CX p s m args meth c cc nL ret own G) {i : Nat} {x : Nat} (lv2 : List (Nat × Value)) (hd : decode cc pc = .ok (.astore i, 2)) (hn : i < nL) (hc : lv.all (fun q => !(q.1 + 1 == i) || q.2.category == 1) = true) (hl : (i, Value.ref x) :: lv.filter (fun q => !(q.1 == i)) = lv2) (k : Z p l e R s m args below meth c nL G Q K cells slots M (pc + 2) lv2 (st)) : Z p l e R s m args below meth c nL G Q K cells slots M pc lv (.ref x :: st) := fun H locs ls h1 h2 h3 => lv_astore C.1 C.2.1 hd h3 hn (by rw [lv_fil hc]; exact hl) (fun ls h3 => (k H locs ls h1 h2 h3))
theorem z_qstore_n (C : CX p s m args meth c cc nL ret own G) {j : Fin 4} {i : Nat} {x : Option Nat} (lv2 : List (Nat × Value)) (hd : decode cc pc = .ok (.astore_n j, 1)) (hi : (j : Nat) = i) (hn : i < nL) (hc : lv.all (fun q => !(q.1 + 1 == i) || q.2.category == 1) = true) (hl : (i, va_rf x) :: lv.filter (fun q => !(q.1 == i)) = lv2) (k : Z p l e R s m args below meth c nL G Q K cells slots M (pc + 1) lv2 (st)) : Z p l e R s m args below meth c nL G Q K cells slots M pc lv (va_rf x :: st) := fun H locs ls h1 h2 h3 => by cases x with | none => exact lv_astore_nN C.1 C.2.1 hd hi h3 hn (by rw [lv_fil hc]; exact hl) (fun ls h3 => (k H locs ls h1 h2 h3)) | some x => exact lv_astore_n C.1 C.2.1 hd hi h3 hn (by rw [lv_fil hc]; exact hl) (fun ls h3 => (k H locs ls h1 h2 h3))
theorem z_qstore (C : CX p s m args meth c cc nL ret own G) {i : Nat} {x : Option Nat} (lv2 : List (Nat × Value)) (hd : decode cc pc = .ok (.astore i, 2)) (hn : i < nL) (hc : lv.all (fun q => !(q.1 + 1 == i) || q.2.category == 1) = true) (hl : (i, va_rf x) :: lv.filter (fun q => !(q.1 == i)) = lv2) (k : Z p l e R s m args below meth c nL G Q K cells slots M (pc + 2) lv2 (st)) : Z p l e R s m args below meth c nL G Q K cells slots M pc lv (va_rf x :: st) := fun H locs ls h1 h2 h3 => by cases x with | none => exact lv_astoreN C.1 C.2.1 hd h3 hn (by rw [lv_fil hc]; exact hl) (fun ls h3 => (k H locs ls h1 h2 h3)) | some x => exact lv_astore C.1 C.2.1 hd h3 hn (by rw [lv_fil hc]; exact hl) (fun ls h3 => (k H locs ls h1 h2 h3))
theorem z_lstore_n (C : CX p s m args meth c cc nL ret own G) {j : Fin 4} {i : Nat} {x : Int64} (lv2 : List (Nat × Value)) (hd : decode cc pc = .ok (.lstore_n j, 1)) (hi : (j : Nat) = i) (hn : i + 1 < nL) (hl : (i, Value.long x) :: lv.filter (fun q => !(q.1 == i) && (!(q.1 == i + 1) && !(q.1 + 1 == i && q.2.category == 2))) = lv2) (k : Z p l e R s m args below meth c nL G Q K cells slots M (pc + 1) lv2 (st)) : Z p l e R s m args below meth c nL G Q K cells slots M pc lv (.long x :: st) := fun H locs ls h1 h2 h3 => lv_lstore_n C.1 C.2.1 hd hi h3 hn hl (fun ls h3 => (k H locs ls h1 h2 h3))
theorem z_iinc (C : CX p s m args meth c cc nL ret own G) {i : Nat} {n : Int} {x : Int32} (q : Nat) (v : Int32) (lv2 : List (Nat × Value)) (hd : decode cc pc = .ok (.iinc i n, 3)) (hq : lv[q]? = some (i, .int x)) (hv : x + Int32.ofInt n = v) (hn : i < nL) (hc : lv.all (fun q => !(q.1 + 1 == i) || q.2.category == 1) = true) (hl : (i, Value.int v) :: lv.filter (fun q => !(q.1 == i)) = lv2) (k : Z p l e R s m args below meth c nL G Q K cells slots M (pc + 3) lv2 (st)) : Z p l e R s m args below meth c nL G Q K cells slots M pc lv (st) := fun H locs ls h1 h2 h3 => lv_iinc C.1 C.2.1 hd h3 hq hv hn (by rw [lv_fil hc]; exact hl) (fun ls h3 => (k H locs ls h1 h2 h3))
theorem z_lv {lv2 : List (Nat × Value)} (ks : List Nat) (hl : lv_pick lv ks = lv2) (k : Z p l e R s m args below meth c nL G Q K cells slots M pc lv2 (st)) : Z p l e R s m args below meth c nL G Q K cells slots M pc lv (st) := fun H locs ls h1 h2 h3 => k H locs ls h1 h2 (lv_sub h3 ks hl)
theorem z_iadd (C : CX p s m args meth c cc nL ret own G) {x y : Int32} (hd : decode cc pc = .ok (.iadd, 1)) (k : Z p l e R s m args below meth c nL G Q K cells slots M (pc + 1) lv (.int (x + y) :: st)) : Z p l e R s m args below meth c nL G Q K cells slots M pc lv (.int y :: .int x :: st) := fun H locs ls h1 h2 h3 => lv_iadd C.1 C.2.1 hd (k H locs ls h1 h2 h3)
theorem z_isub (C : CX p s m args meth c cc nL ret own G) {x y : Int32} (hd : decode cc pc = .ok (.isub, 1)) (k : Z p l e R s m args below meth c nL G Q K cells slots M (pc + 1) lv (.int (x - y) :: st)) : Z p l e R s m args below meth c nL G Q K cells slots M pc lv (.int y :: .int x :: st) := fun H locs ls h1 h2 h3 => lv_isub C.1 C.2.1 hd (k H locs ls h1 h2 h3)
theorem z_imul (C : CX p s m args meth c cc nL ret own G) {x y : Int32} (hd : decode cc pc = .ok (.imul, 1)) (k : Z p l e R s m args below meth c nL G Q K cells slots M (pc + 1) lv (.int (x * y) :: st)) : Z p l e R s m args below meth c nL G Q K cells slots M pc lv (.int y :: .int x :: st) := fun H locs ls h1 h2 h3 => lv_imul C.1 C.2.1 hd (k H locs ls h1 h2 h3)
theorem z_iand (C : CX p s m args meth c cc nL ret own G) {x y : Int32} (hd : decode cc pc = .ok (.iand, 1)) (k : Z p l e R s m args below meth c nL G Q K cells slots M (pc + 1) lv (.int (x &&& y) :: st)) : Z p l e R s m args below meth c nL G Q K cells slots M pc lv (.int y :: .int x :: st) := fun H locs ls h1 h2 h3 => lv_iand C.1 C.2.1 hd (k H locs ls h1 h2 h3)
theorem z_ior (C : CX p s m args meth c cc nL ret own G) {x y : Int32} (hd : decode cc pc = .ok (.ior, 1)) (k : Z p l e R s m args below meth c nL G Q K cells slots M (pc + 1) lv (.int (x ||| y) :: st)) : Z p l e R s m args below meth c nL G Q K cells slots M pc lv (.int y :: .int x :: st) := fun H locs ls h1 h2 h3 => lv_ior C.1 C.2.1 hd (k H locs ls h1 h2 h3)
theorem z_ixor (C : CX p s m args meth c cc nL ret own G) {x y : Int32} (hd : decode cc pc = .ok (.ixor, 1)) (k : Z p l e R s m args below meth c nL G Q K cells slots M (pc + 1) lv (.int (x ^^^ y) :: st)) : Z p l e R s m args below meth c nL G Q K cells slots M pc lv (.int y :: .int x :: st) := fun H locs ls h1 h2 h3 => lv_ixor C.1 C.2.1 hd (k H locs ls h1 h2 h3)
theorem z_ladd (C : CX p s m args meth c cc nL ret own G) {x y : Int64} (hd : decode cc pc = .ok (.ladd, 1)) (k : Z p l e R s m args below meth c nL G Q K cells slots M (pc + 1) lv (.long (x + y) :: st)) : Z p l e R s m args below meth c nL G Q K cells slots M pc lv (.long y :: .long x :: st) := fun H locs ls h1 h2 h3 => lv_ladd C.1 C.2.1 hd (k H locs ls h1 h2 h3)
theorem z_lsub (C : CX p s m args meth c cc nL ret own G) {x y : Int64} (hd : decode cc pc = .ok (.lsub, 1)) (k : Z p l e R s m args below meth c nL G Q K cells slots M (pc + 1) lv (.long (x - y) :: st)) : Z p l e R s m args below meth c nL G Q K cells slots M pc lv (.long y :: .long x :: st) := fun H locs ls h1 h2 h3 => lv_lsub C.1 C.2.1 hd (k H locs ls h1 h2 h3)
theorem z_lmul (C : CX p s m args meth c cc nL ret own G) {x y : Int64} (hd : decode cc pc = .ok (.lmul, 1)) (k : Z p l e R s m args below meth c nL G Q K cells slots M (pc + 1) lv (.long (x * y) :: st)) : Z p l e R s m args below meth c nL G Q K cells slots M pc lv (.long y :: .long x :: st) := fun H locs ls h1 h2 h3 => lv_lmul C.1 C.2.1 hd (k H locs ls h1 h2 h3)
theorem z_land (C : CX p s m args meth c cc nL ret own G) {x y : Int64} (hd : decode cc pc = .ok (.land, 1)) (k : Z p l e R s m args below meth c nL G Q K cells slots M (pc + 1) lv (.long (x &&& y) :: st)) : Z p l e R s m args below meth c nL G Q K cells slots M pc lv (.long y :: .long x :: st) := fun H locs ls h1 h2 h3 => lv_land C.1 C.2.1 hd (k H locs ls h1 h2 h3)
theorem z_lor (C : CX p s m args meth c cc nL ret own G) {x y : Int64} (hd : decode cc pc = .ok (.lor, 1)) (k : Z p l e R s m args below meth c nL G Q K cells slots M (pc + 1) lv (.long (x ||| y) :: st)) : Z p l e R s m args below meth c nL G Q K cells slots M pc lv (.long y :: .long x :: st) := fun H locs ls h1 h2 h3 => lv_lor C.1 C.2.1 hd (k H locs ls h1 h2 h3)
theorem z_idiv (C : CX p s m args meth c cc nL ret own G) {x y : Int32} (hne : ¬ y = 0) (hd : decode cc pc = .ok (.idiv, 1)) (k : Z p l e R s m args below meth c nL G Q K cells slots M (pc + 1) lv (.int (x / y) :: st)) : Z p l e R s m args below meth c nL G Q K cells slots M pc lv (.int y :: .int x :: st) := fun H locs ls h1 h2 h3 => lv_idiv C.1 C.2.1 hd hne (k H locs ls h1 h2 h3)
theorem z_irem (C : CX p s m args meth c cc nL ret own G) {x y : Int32} (hne : ¬ y = 0) (hd : decode cc pc = .ok (.irem, 1)) (k : Z p l e R s m args below meth c nL G Q K cells slots M (pc + 1) lv (.int (x - x / y * y) :: st)) : Z p l e R s m args below meth c nL G Q K cells slots M pc lv (.int y :: .int x :: st) := fun H locs ls h1 h2 h3 => lv_irem C.1 C.2.1 hd hne (k H locs ls h1 h2 h3)
theorem z_ineg (C : CX p s m args meth c cc nL ret own G) {x : Int32} (hd : decode cc pc = .ok (.ineg, 1)) (k : Z p l e R s m args below meth c nL G Q K cells slots M (pc + 1) lv (.int (-x) :: st)) : Z p l e R s m args below meth c nL G Q K cells slots M pc lv (.int x :: st) := fun H locs ls h1 h2 h3 => lv_ineg C.1 C.2.1 hd (k H locs ls h1 h2 h3)
def jshl (x y : Int32) : Int32 := x <<< (y &&& 31)
def jshr (x y : Int32) : Int32 := x >>> (y &&& 31)
def jushr (x y : Int32) : Int32 := (x.toUInt32 >>> (y.toUInt32 &&& Int32.toUInt32 31)).toInt32
def jlushr (x : Int64) (y : Int32) : Int64 := (x.toUInt64 >>> (y.toInt64.toUInt64 &&& Int64.toUInt64 63)).toInt64
def jlshl (x : Int64) (y : Int32) : Int64 := x <<< (y.toInt64 &&& 63)
theorem z_ishl (C : CX p s m args meth c cc nL ret own G) {x y : Int32} (hd : decode cc pc = .ok (.ishl, 1)) (k : Z p l e R s m args below meth c nL G Q K cells slots M (pc + 1) lv (.int (jshl x y) :: st)) : Z p l e R s m args below meth c nL G Q K cells slots M pc lv (.int y :: .int x :: st) := fun H locs ls h1 h2 h3 => lv_ishl C.1 C.2.1 hd (k H locs ls h1 h2 h3)
theorem z_ishr (C : CX p s m args meth c cc nL ret own G) {x y : Int32} (hd : decode cc pc = .ok (.ishr, 1)) (k : Z p l e R s m args below meth c nL G Q K cells slots M (pc + 1) lv (.int (jshr x y) :: st)) : Z p l e R s m args below meth c nL G Q K cells slots M pc lv (.int y :: .int x :: st) := fun H locs ls h1 h2 h3 => lv_ishr C.1 C.2.1 hd (k H locs ls h1 h2 h3)
theorem z_iushr (C : CX p s m args meth c cc nL ret own G) {x y : Int32} (hd : decode cc pc = .ok (.iushr, 1)) (k : Z p l e R s m args below meth c nL G Q K cells slots M (pc + 1) lv (.int (jushr x y) :: st)) : Z p l e R s m args below meth c nL G Q K cells slots M pc lv (.int y :: .int x :: st) := fun H locs ls h1 h2 h3 => lv_iushr C.1 C.2.1 hd rfl (k H locs ls h1 h2 h3)
theorem z_lushr (C : CX p s m args meth c cc nL ret own G) {x : Int64} {y : Int32} (hd : decode cc pc = .ok (.lushr, 1)) (k : Z p l e R s m args below meth c nL G Q K cells slots M (pc + 1) lv (.long (jlushr x y) :: st)) : Z p l e R s m args below meth c nL G Q K cells slots M pc lv (.int y :: .long x :: st) := fun H locs ls h1 h2 h3 => lv_lushr C.1 C.2.1 hd rfl (k H locs ls h1 h2 h3)
theorem z_lshl (C : CX p s m args meth c cc nL ret own G) {x : Int64} {y : Int32} (hd : decode cc pc = .ok (.lshl, 1)) (k : Z p l e R s m args below meth c nL G Q K cells slots M (pc + 1) lv (.long (jlshl x y) :: st)) : Z p l e R s m args below meth c nL G Q K cells slots M pc lv (.int y :: .long x :: st) := fun H locs ls h1 h2 h3 => lv_lshl C.1 C.2.1 hd rfl (k H locs ls h1 h2 h3)
theorem z_i2l (C : CX p s m args meth c cc nL ret own G) {x : Int32} (hd : decode cc pc = .ok (.i2l, 1)) (k : Z p l e R s m args below meth c nL G Q K cells slots M (pc + 1) lv (.long x.toInt64 :: st)) : Z p l e R s m args below meth c nL G Q K cells slots M pc lv (.int x :: st) := fun H locs ls h1 h2 h3 => lv_i2l C.1 C.2.1 hd rfl (k H locs ls h1 h2 h3)
theorem z_i2b (C : CX p s m args meth c cc nL ret own G) {x : Int32} (hd : decode cc pc = .ok (.i2b, 1)) (k : Z p l e R s m args below meth c nL G Q K cells slots M (pc + 1) lv (.int x.toInt8.toInt32 :: st)) : Z p l e R s m args below meth c nL G Q K cells slots M pc lv (.int x :: st) := fun H locs ls h1 h2 h3 => lv_i2b C.1 C.2.1 hd rfl (k H locs ls h1 h2 h3)
theorem z_lcmp (C : CX p s m args meth c cc nL ret own G) {x y : Int64} (hd : decode cc pc = .ok (.lcmp, 1)) (k : Z p l e R s m args below meth c nL G Q K cells slots M (pc + 1) lv (.int (lg_cmp x y) :: st)) : Z p l e R s m args below meth c nL G Q K cells slots M pc lv (.long y :: .long x :: st) := fun H locs ls h1 h2 h3 => W.lcmp C.1 C.2.1 hd (k H locs ls h1 h2 h3)
theorem z_dup (C : CX p s m args meth c cc nL ret own G) {a : Value} (ha : a.category = 1) (hd : decode cc pc = .ok (.dup, 1)) (k : Z p l e R s m args below meth c nL G Q K cells slots M (pc + 1) lv (a :: a :: st)) : Z p l e R s m args below meth c nL G Q K cells slots M pc lv (a :: st) := fun H locs ls h1 h2 h3 => lv_dup C.1 C.2.1 hd ha (k H locs ls h1 h2 h3)
theorem z_dup2 (C : CX p s m args meth c cc nL ret own G) {a b : Value} (ha : a.category = 1) (hb : b.category = 1) (hd : decode cc pc = .ok (.dup2, 1)) (k : Z p l e R s m args below meth c nL G Q K cells slots M (pc + 1) lv (a :: b :: a :: b :: st)) : Z p l e R s m args below meth c nL G Q K cells slots M pc lv (a :: b :: st) := fun H locs ls h1 h2 h3 => lv_dup2_11 C.1 C.2.1 hd ha hb (k H locs ls h1 h2 h3)
theorem z_pop (C : CX p s m args meth c cc nL ret own G) {a : Value} (ha : a.category = 1) (hd : decode cc pc = .ok (.pop, 1)) (k : Z p l e R s m args below meth c nL G Q K cells slots M (pc + 1) lv (st)) : Z p l e R s m args below meth c nL G Q K cells slots M pc lv (a :: st) := fun H locs ls h1 h2 h3 => lv_pop C.1 C.2.1 hd ha (k H locs ls h1 h2 h3)
theorem z_if_eq (C : CX p s m args meth c cc nL ret own G) {x : Int32} {off : Int} (tgt : Nat) (hd : decode cc pc = .ok (.ifCond .eq off, 3)) (ht : (pc : Int) + off = (tgt : Int)) (kt : x = 0 → Z p l e R s m args below meth c nL G Q K cells slots M tgt lv (st)) (kf : ¬ x = 0 → Z p l e R s m args below meth c nL G Q K cells slots M (pc + 3) lv (st)) : Z p l e R s m args below meth c nL G Q K cells slots M pc lv (.int x :: st) := fun H locs ls h1 h2 h3 => lv_if_eq C.1 C.2.1 hd ht (fun q => kt q H locs ls h1 h2 h3) (fun q => kf q H locs ls h1 h2 h3)
theorem z_if_ne (C : CX p s m args meth c cc nL ret own G) {x : Int32} {off : Int} (tgt : Nat) (hd : decode cc pc = .ok (.ifCond .ne off, 3)) (ht : (pc : Int) + off = (tgt : Int)) (kt : ¬ x = 0 → Z p l e R s m args below meth c nL G Q K cells slots M tgt lv (st)) (kf : x = 0 → Z p l e R s m args below meth c nL G Q K cells slots M (pc + 3) lv (st)) : Z p l e R s m args below meth c nL G Q K cells slots M pc lv (.int x :: st) := fun H locs ls h1 h2 h3 => lv_if_ne C.1 C.2.1 hd ht (fun q => kt q H locs ls h1 h2 h3) (fun q => kf q H locs ls h1 h2 h3)
theorem z_if_lt (C : CX p s m args meth c cc nL ret own G) {x : Int32} {off : Int} (tgt : Nat) (hd : decode cc pc = .ok (.ifCond .lt off, 3)) (ht : (pc : Int) + off = (tgt : Int)) (kt : x < 0 → Z p l e R s m args below meth c nL G Q K cells slots M tgt lv (st)) (kf : ¬ x < 0 → Z p l e R s m args below meth c nL G Q K cells slots M (pc + 3) lv (st)) : Z p l e R s m args below meth c nL G Q K cells slots M pc lv (.int x :: st) := fun H locs ls h1 h2 h3 => lv_if_lt C.1 C.2.1 hd ht (fun q => kt q H locs ls h1 h2 h3) (fun q => kf q H locs ls h1 h2 h3)
theorem z_if_ge (C : CX p s m args meth c cc nL ret own G) {x : Int32} {off : Int} (tgt : Nat) (hd : decode cc pc = .ok (.ifCond .ge off, 3)) (ht : (pc : Int) + off = (tgt : Int)) (kt : 0 ≤ x → Z p l e R s m args below meth c nL G Q K cells slots M tgt lv (st)) (kf : ¬ 0 ≤ x → Z p l e R s m args below meth c nL G Q K cells slots M (pc + 3) lv (st)) : Z p l e R s m args below meth c nL G Q K cells slots M pc lv (.int x :: st) := fun H locs ls h1 h2 h3 => lv_if_ge C.1 C.2.1 hd ht (fun q => kt q H locs ls h1 h2 h3) (fun q => kf q H locs ls h1 h2 h3)
theorem z_if_gt (C : CX p s m args meth c cc nL ret own G) {x : Int32} {off : Int} (tgt : Nat) (hd : decode cc pc = .ok (.ifCond .gt off, 3)) (ht : (pc : Int) + off = (tgt : Int)) (kt : 0 < x → Z p l e R s m args below meth c nL G Q K cells slots M tgt lv (st)) (kf : ¬ 0 < x → Z p l e R s m args below meth c nL G Q K cells slots M (pc + 3) lv (st)) : Z p l e R s m args below meth c nL G Q K cells slots M pc lv (.int x :: st) := fun H locs ls h1 h2 h3 => lv_if_gt C.1 C.2.1 hd ht (fun q => kt q H locs ls h1 h2 h3) (fun q => kf q H locs ls h1 h2 h3)
theorem z_if_le (C : CX p s m args meth c cc nL ret own G) {x : Int32} {off : Int} (tgt : Nat) (hd : decode cc pc = .ok (.ifCond .le off, 3)) (ht : (pc : Int) + off = (tgt : Int)) (kt : x ≤ 0 → Z p l e R s m args below meth c nL G Q K cells slots M tgt lv (st)) (kf : ¬ x ≤ 0 → Z p l e R s m args below meth c nL G Q K cells slots M (pc + 3) lv (st)) : Z p l e R s m args below meth c nL G Q K cells slots M pc lv (.int x :: st) := fun H locs ls h1 h2 h3 => lv_if_le C.1 C.2.1 hd ht (fun q => kt q H locs ls h1 h2 h3) (fun q => kf q H locs ls h1 h2 h3)
theorem z_icmp_eq (C : CX p s m args meth c cc nL ret own G) {x y : Int32} {off : Int} (tgt : Nat) (hd : decode cc pc = .ok (.if_icmp .eq off, 3)) (ht : (pc : Int) + off = (tgt : Int)) (kt : x = y → Z p l e R s m args below meth c nL G Q K cells slots M tgt lv (st)) (kf : ¬ x = y → Z p l e R s m args below meth c nL G Q K cells slots M (pc + 3) lv (st)) : Z p l e R s m args below meth c nL G Q K cells slots M pc lv (.int y :: .int x :: st) := fun H locs ls h1 h2 h3 => lv_icmp_eq C.1 C.2.1 hd ht (fun q => kt q H locs ls h1 h2 h3) (fun q => kf q H locs ls h1 h2 h3)
theorem z_icmp_ne (C : CX p s m args meth c cc nL ret own G) {x y : Int32} {off : Int} (tgt : Nat) (hd : decode cc pc = .ok (.if_icmp .ne off, 3)) (ht : (pc : Int) + off = (tgt : Int)) (kt : ¬ x = y → Z p l e R s m args below meth c nL G Q K cells slots M tgt lv (st)) (kf : x = y → Z p l e R s m args below meth c nL G Q K cells slots M (pc + 3) lv (st)) : Z p l e R s m args below meth c nL G Q K cells slots M pc lv (.int y :: .int x :: st) := fun H locs ls h1 h2 h3 => lv_icmp_ne C.1 C.2.1 hd ht (fun q => kt q H locs ls h1 h2 h3) (fun q => kf q H locs ls h1 h2 h3)
theorem z_icmp_lt (C : CX p s m args meth c cc nL ret own G) {x y : Int32} {off : Int} (tgt : Nat) (hd : decode cc pc = .ok (.if_icmp .lt off, 3)) (ht : (pc : Int) + off = (tgt : Int)) (kt : x < y → Z p l e R s m args below meth c nL G Q K cells slots M tgt lv (st)) (kf : ¬ x < y → Z p l e R s m args below meth c nL G Q K cells slots M (pc + 3) lv (st)) : Z p l e R s m args below meth c nL G Q K cells slots M pc lv (.int y :: .int x :: st) := fun H locs ls h1 h2 h3 => lv_icmp_lt C.1 C.2.1 hd ht (fun q => kt q H locs ls h1 h2 h3) (fun q => kf q H locs ls h1 h2 h3)
theorem z_icmp_ge (C : CX p s m args meth c cc nL ret own G) {x y : Int32} {off : Int} (tgt : Nat) (hd : decode cc pc = .ok (.if_icmp .ge off, 3)) (ht : (pc : Int) + off = (tgt : Int)) (kt : y ≤ x → Z p l e R s m args below meth c nL G Q K cells slots M tgt lv (st)) (kf : ¬ y ≤ x → Z p l e R s m args below meth c nL G Q K cells slots M (pc + 3) lv (st)) : Z p l e R s m args below meth c nL G Q K cells slots M pc lv (.int y :: .int x :: st) := fun H locs ls h1 h2 h3 => lv_icmp_ge C.1 C.2.1 hd ht (fun q => kt q H locs ls h1 h2 h3) (fun q => kf q H locs ls h1 h2 h3)
theorem z_icmp_gt (C : CX p s m args meth c cc nL ret own G) {x y : Int32} {off : Int} (tgt : Nat) (hd : decode cc pc = .ok (.if_icmp .gt off, 3)) (ht : (pc : Int) + off = (tgt : Int)) (kt : y < x → Z p l e R s m args below meth c nL G Q K cells slots M tgt lv (st)) (kf : ¬ y < x → Z p l e R s m args below meth c nL G Q K cells slots M (pc + 3) lv (st)) : Z p l e R s m args below meth c nL G Q K cells slots M pc lv (.int y :: .int x :: st) := fun H locs ls h1 h2 h3 => lv_icmp_gt C.1 C.2.1 hd ht (fun q => kt q H locs ls h1 h2 h3) (fun q => kf q H locs ls h1 h2 h3)
theorem z_icmp_le (C : CX p s m args meth c cc nL ret own G) {x y : Int32} {off : Int} (tgt : Nat) (hd : decode cc pc = .ok (.if_icmp .le off, 3)) (ht : (pc : Int) + off = (tgt : Int)) (kt : x ≤ y → Z p l e R s m args below meth c nL G Q K cells slots M tgt lv (st)) (kf : ¬ x ≤ y → Z p l e R s m args below meth c nL G Q K cells slots M (pc + 3) lv (st)) : Z p l e R s m args below meth c nL G Q K cells slots M pc lv (.int y :: .int x :: st) := fun H locs ls h1 h2 h3 => lv_icmp_le C.1 C.2.1 hd ht (fun q => kt q H locs ls h1 h2 h3) (fun q => kf q H locs ls h1 h2 h3)
theorem z_goto (C : CX p s m args meth c cc nL ret own G) {off : Int} (tgt : Nat) (hd : decode cc pc = .ok (.goto off, 3)) (ht : (pc : Int) + off = (tgt : Int)) (k : Z p l e R s m args below meth c nL G Q K cells slots M tgt lv (st)) : Z p l e R s m args below meth c nL G Q K cells slots M pc lv (st) := fun H locs ls h1 h2 h3 => lv_goto C.1 C.2.1 hd ht (k H locs ls h1 h2 h3)
theorem z_ifnull (C : CX p s m args meth c cc nL ret own G) {x : Option Nat} {off : Int} (tgt : Nat) (hd : decode cc pc = .ok (.ifnull off, 3)) (ht : (pc : Int) + off = (tgt : Int)) (kt : x = none → Z p l e R s m args below meth c nL G Q K cells slots M tgt lv (st)) (kf : ¬ x = none → Z p l e R s m args below meth c nL G Q K cells slots M (pc + 3) lv (st)) : Z p l e R s m args below meth c nL G Q K cells slots M pc lv (va_rf x :: st) := fun H locs ls h1 h2 h3 => by cases x with | none => exact lv_ifnullN C.1 C.2.1 hd ht (kt rfl H locs ls h1 h2 h3) | some x => exact lv_ifnull C.1 C.2.1 hd (kf (fun q => by cases q) H locs ls h1 h2 h3)
theorem z_ifnonnull (C : CX p s m args meth c cc nL ret own G) {x : Option Nat} {off : Int} (tgt : Nat) (hd : decode cc pc = .ok (.ifnonnull off, 3)) (ht : (pc : Int) + off = (tgt : Int)) (kt : ¬ x = none → Z p l e R s m args below meth c nL G Q K cells slots M tgt lv (st)) (kf : x = none → Z p l e R s m args below meth c nL G Q K cells slots M (pc + 3) lv (st)) : Z p l e R s m args below meth c nL G Q K cells slots M pc lv (va_rf x :: st) := fun H locs ls h1 h2 h3 => by cases x with | none => exact lv_ifnonnullN C.1 C.2.1 hd (kf rfl H locs ls h1 h2 h3) | some x => exact lv_ifnonnull C.1 C.2.1 hd ht (kt (fun q => by cases q) H locs ls h1 h2 h3)
theorem z_tableIn (C : CX p s m args meth c cc nL ret own G) {dflt lo hi : Int} {offs : Array Int} {len : Nat} {x : Int32} {off : Int} (tgt : Nat) (hd : decode cc pc = .ok (.tableswitch dflt lo hi offs, len)) (h1 : ¬ x.toInt < lo) (h2 : ¬ hi < x.toInt) (ho : offs[(x.toInt - lo).toNat]? = some off) (ht : (pc : Int) + off = (tgt : Int)) (k : Z p l e R s m args below meth c nL G Q K cells slots M tgt lv (st)) : Z p l e R s m args below meth c nL G Q K cells slots M pc lv (.int x :: st) := fun H locs ls g1 g2 g3 => lv_tableIn C.1 C.2.1 hd h1 h2 ho ht (k H locs ls g1 g2 g3)
theorem z_tableOut (C : CX p s m args meth c cc nL ret own G) {dflt lo hi : Int} {offs : Array Int} {len : Nat} {x : Int32} (tgt : Nat) (hd : decode cc pc = .ok (.tableswitch dflt lo hi offs, len)) (h : x.toInt < lo ∨ hi < x.toInt) (ht : (pc : Int) + dflt = (tgt : Int)) (k : Z p l e R s m args below meth c nL G Q K cells slots M tgt lv (st)) : Z p l e R s m args below meth c nL G Q K cells slots M pc lv (.int x :: st) := fun H locs ls h1 h2 h3 => lv_tableOut C.1 C.2.1 hd h ht (k H locs ls h1 h2 h3)
theorem isC_lt {a kd ln : Nat} (h : isC K a kd ln) : a < K.1 := h.1
theorem fs_at {a ci k : Nat} (hk : k < nfl ci) : ((List.range (nfl ci)).map (fval G K M a ci))[k]? = some (fval G K M a ci k) := by simp [hk]
theorem fs_len {a ci : Nat} : ((List.range (nfl ci)).map (fval G K M a ci)).length = nfl ci := by simp
/-- a class of the list: its tables' words are among the good ones, its fields' types are known, their names differ -/
def clOk (ci : Nat) (C : String) (T : u_T) : Prop := classes[ci]? = some (C, T, nfl ci) ∧ (∀ w ∈ u_ws C T (nfl ci), w ∈ GW) ∧ (∀ k, k < nfl ci → parseFieldDescriptor (T k).2.2.1 = some (fty ci k)) ∧ (∀ a, a < nfl ci → ∀ b, b < nfl ci → a ≠ b → (T a).2.1 ≠ (T b).2.1) ∧ ci < 13
theorem z_getI (C : CX p s m args meth c cc nL ret own G) {C0 : String} {T : u_T} {ci ln index a : Nat} (ho : clOk ci C0 T) (ha : isC K a ci ln) (k : Nat) (hk : k < nfl ci) (hfk : fkOf (fty ci k) = 0) (hl : Cond.fieldLink own index (T k).1 (T k).2.1 (T k).2.2.1 ∈ GW) (hd : decode cc pc = .ok (.getfield index, 3)) (kk : Z p l e R s m args below meth c nL G Q K cells slots M (pc + 3) lv (.int (gI M a k) :: st)) : Z p l e R s m args below meth c nL G Q K cells slots M pc lv (.ref (G.1 + a) :: st) := fun H locs ls h1 h2 h3 => va_get (v := .int (gI M a k)) C.1 C.2.1 C.2.2.2.2.1 ho.2.1 C.2.2.2.1 C.2.2.2.2.2.1 h1.2 a (ws_obj ha ho.2.2.2.2) ho.1 k hk (C.2.2.2.2.1 _ hl) (fun _ h => h) (by rw [fs_at hk]; simp [fval, hfk]) hd (kk H locs ls h1 h2 h3)
theorem z_getL (C : CX p s m args meth c cc nL ret own G) {C0 : String} {T : u_T} {ci ln index a : Nat} (ho : clOk ci C0 T) (ha : isC K a ci ln) (k : Nat) (hk : k < nfl ci) (hfk : fkOf (fty ci k) = 1) (hl : Cond.fieldLink own index (T k).1 (T k).2.1 (T k).2.2.1 ∈ GW) (hd : decode cc pc = .ok (.getfield index, 3)) (kk : Z p l e R s m args below meth c nL G Q K cells slots M (pc + 3) lv (.long (gL M a k) :: st)) : Z p l e R s m args below meth c nL G Q K cells slots M pc lv (.ref (G.1 + a) :: st) := fun H locs ls h1 h2 h3 => va_get (v := .long (gL M a k)) C.1 C.2.1 C.2.2.2.2.1 ho.2.1 C.2.2.2.1 C.2.2.2.2.2.1 h1.2 a (ws_obj ha ho.2.2.2.2) ho.1 k hk (C.2.2.2.2.1 _ hl) (fun _ h => h) (by rw [fs_at hk]; simp [fval, hfk]) hd (kk H locs ls h1 h2 h3)
theorem z_getR (C : CX p s m args meth c cc nL ret own G) {C0 : String} {T : u_T} {ci ln index a : Nat} (ho : clOk ci C0 T) (ha : isC K a ci ln) (k : Nat) (b : Nat) (hk : k < nfl ci) (hfk : fkOf (fty ci k) = 2) (hr : K.2.2 a k = some b) (hl : Cond.fieldLink own index (T k).1 (T k).2.1 (T k).2.2.1 ∈ GW) (hd : decode cc pc = .ok (.getfield index, 3)) (kk : Z p l e R s m args below meth c nL G Q K cells slots M (pc + 3) lv (.ref (G.1 + b) :: st)) : Z p l e R s m args below meth c nL G Q K cells slots M pc lv (.ref (G.1 + a) :: st) := fun H locs ls h1 h2 h3 => va_get (v := .ref (G.1 + b)) C.1 C.2.1 C.2.2.2.2.1 ho.2.1 C.2.2.2.1 C.2.2.2.2.2.1 h1.2 a (ws_obj ha ho.2.2.2.2) ho.1 k hk (C.2.2.2.2.1 _ hl) (fun _ h => h) (by rw [fs_at hk]; simp only [fval, hfk, hr]; rfl) hd (kk H locs ls h1 h2 h3)
theorem z_iald (C : CX p s m args meth c cc nL ret own G) {a ln : Nat} {i : Int32} (ha : isC K a 20 ln) (hin : vp_in i ln) (hd : decode cc pc = .ok (.iaload, 1)) (kk : Z p l e R s m args below meth c nL G Q K cells slots M (pc + 1) lv (.int (gI M a i.toNatClampNeg) :: st)) : Z p l e R s m args below meth c nL G Q K cells slots M pc lv (.int i :: .ref (G.1 + a) :: st) := fun H locs ls h1 h2 h3 => va_iald (f := M.1 a) C.1 C.2.1 C.2.2.2.2.2.1 h1.2 a 0 (ws_arr ha (by decide)) rfl hin hd (kk H locs ls h1 h2 h3)
theorem z_bald (C : CX p s m args meth c cc nL ret own G) {a ln : Nat} {i : Int32} (ha : isC K a 22 ln) (hin : vp_in i ln) (hd : decode cc pc = .ok (.baload, 1)) (kk : Z p l e R s m args below meth c nL G Q K cells slots M (pc + 1) lv (.int (gI M a i.toNatClampNeg) :: st)) : Z p l e R s m args below meth c nL G Q K cells slots M pc lv (.int i :: .ref (G.1 + a) :: st) := fun H locs ls h1 h2 h3 => va_bald (f := M.1 a) C.1 C.2.1 C.2.2.2.2.2.1 h1.2 a 2 (ws_arr ha (by decide)) rfl hin hd (kk H locs ls h1 h2 h3)
theorem z_zald (C : CX p s m args meth c cc nL ret own G) {a ln : Nat} {i : Int32} (ha : isC K a 23 ln) (hin : vp_in i ln) (hd : decode cc pc = .ok (.baload, 1)) (kk : Z p l e R s m args below meth c nL G Q K cells slots M (pc + 1) lv (.int (gI M a i.toNatClampNeg) :: st)) : Z p l e R s m args below meth c nL G Q K cells slots M pc lv (.int i :: .ref (G.1 + a) :: st) := fun H locs ls h1 h2 h3 => va_zald (f := M.1 a) C.1 C.2.1 C.2.2.2.2.2.1 h1.2 a 3 (ws_arr ha (by decide)) rfl hin hd (kk H locs ls h1 h2 h3)
theorem z_lald (C : CX p s m args meth c cc nL ret own G) {a ln : Nat} {i : Int32} (ha : isC K a 21 ln) (hin : vp_in i ln) (hd : decode cc pc = .ok (.laload, 1)) (kk : Z p l e R s m args below meth c nL G Q K cells slots M (pc + 1) lv (.long (gL M a i.toNatClampNeg) :: st)) : Z p l e R s m args below meth c nL G Q K cells slots M pc lv (.int i :: .ref (G.1 + a) :: st) := fun H locs ls h1 h2 h3 => va_lald (f := M.2 a) C.1 C.2.1 C.2.2.2.2.2.1 h1.2 a 1 (ws_arr ha (by decide)) rfl hin hd (kk H locs ls h1 h2 h3)
theorem z_aald (C : CX p s m args meth c cc nL ret own G) {a ln kd : Nat} {i : Int32} (t0 : Nat) (C0 : String) (ha : isC K a kd ln) (hkd : 24 ≤ kd) (ht : (tysOf G)[t0]? = some (G.2.2.1 kd, .object C0)) (hin : vp_in i ln) (hd : decode cc pc = .ok (.aaload, 1)) (kk : Z p l e R s m args below meth c nL G Q K cells slots M (pc + 1) lv (rfv G (K.2.2 a i.toNatClampNeg) :: st)) : Z p l e R s m args below meth c nL G Q K cells slots M pc lv (.int i :: .ref (G.1 + a) :: st) := fun H locs ls h1 h2 h3 => va_aldq (f := fun j => (K.2.2 a j).map (G.1 + ·)) C.1 C.2.1 C.2.2.2.2.2.1 h1.2 a t0 (by rw [ws_arr ha (by omega)]; simp only [kA]; rw [if_neg (by omega), if_pos hkd]) ht hin hd (kk H locs ls h1 h2 h3)
theorem z_alen (C : CX p s m args meth c cc nL ret own G) {a ln kd : Nat} (t0 : Nat) (ty : FieldType) (ha : isC K a kd ln) (hkd : ¬ kd < 13) (ht : (tysOf G)[t0]? = some (G.2.2.1 kd, ty)) (hd : decode cc pc = .ok (.arraylength, 1)) (kk : Z p l e R s m args below meth c nL G Q K cells slots M (pc + 1) lv (.int (nI ln) :: st)) : Z p l e R s m args below meth c nL G Q K cells slots M pc lv (.ref (G.1 + a) :: st) := fun H locs ls h1 h2 h3 => va_alen C.1 C.2.1 C.2.2.2.2.2.1 h1.2 a t0 (ws_arr ha hkd) ht rfl hd (kk H locs ls h1 h2 h3)
theorem Sm.put {a : Nat} {E : va_E} {M2 : MM} {H H1 : Heap} (h : Sm G K M H) (ha : a < K.1) (hE : kE G K M2 a = E) (ho : ∀ b, b ≠ a → kE G K M2 b = kE G K M b) (z : H1.size = H.size) (hat : va_at G.2.1 classes (G.1 + a, E) H1) (oq : ∀ q, q ≠ G.1 + a → H1[q]? = H[q]?) : Sm G K M2 H1 := by
  refine ⟨z.trans h.1, ?_⟩
  have h3 := h.2.set (ws_D G K M) (ws_at ha) hat oq
  rwa [ws_set rfl ha hE (fun b _ hb => ho b hb)] at h3
theorem kA_sI (a k : Nat) (v : Int32) {kd : Nat} (h : ¬ kd = 21) (h2 : ¬ 24 ≤ kd) : kA G K (sI M a k v) a kd = .inl (upd (M.1 a) k v) := by simp [kA, sI, h, h2]
theorem kA_I (a : Nat) {kd : Nat} (h : ¬ kd = 21) (h2 : ¬ 24 ≤ kd) : kA G K M a kd = .inl (M.1 a) := by simp [kA, h, h2]
theorem z_iast (C : CX p s m args meth c cc nL ret own G) {a ln : Nat} {i x : Int32} (ha : isC K a 20 ln) (hin : vp_in i ln) (hd : decode cc pc = .ok (.iastore, 1)) (kk : Z p l e R s m args below meth c nL G Q K cells slots (sI M a i.toNatClampNeg (x)) (pc + 1) lv (st)) : Z p l e R s m args below meth c nL G Q K cells slots M pc lv (.int x :: .int i :: .ref (G.1 + a) :: st) := fun H locs ls h1 h2 h3 => by
  have hat : va_at G.2.1 classes (G.1 + a, .inl (G.2.2.1 20, ln, .inl (M.1 a))) H := by
    have := h1.2 a _ (ws_arr ha (by decide))
    rwa [kA_I a (by decide) (by decide)] at this
  refine W.iast C.1 C.2.1 (cell := vp_cell (G.2.2.1 20) (ln, .inl (M.1 a))) hat ((C.2.2.2.2.2.1.2 0 _ rfl).1 ln (fun j => .int (M.1 a j))) (fun q => by cases q) (by show ¬ (i < 0 ∨ (arrV _ _ _).slots.size ≤ _); rw [arrV_size]; exact hin) rfl rfl hd fun H1 e z oq => ?_
  refine kk H1 _ ls (h1.put (E := .inl (G.2.2.1 20, ln, .inl (upd (M.1 a) i.toNatClampNeg (x)))) ha.1 (by rw [kE_arr ha (by decide), kA_sI a _ _ (by decide) (by decide)]) (fun b hb => kE_sI_ne hb) z ?_ oq) (h2.put z oq (Nat.le_add_right _ _)) h3
  show H1[G.1 + a]? = some (vp_cell _ _)
  rw [e, vp_cell_i, vp_cell_i, arrV_store]
  congr 2
  funext q
  by_cases hq : q = i.toNatClampNeg
  · subst hq
    simp [updV, upd, vp_nar]
    try rfl
  · simp [updV, upd, hq]
theorem z_bast (C : CX p s m args meth c cc nL ret own G) {a ln : Nat} {i x : Int32} (ha : isC K a 22 ln) (hin : vp_in i ln) (hd : decode cc pc = .ok (.bastore, 1)) (kk : Z p l e R s m args below meth c nL G Q K cells slots (sI M a i.toNatClampNeg (vp_nar .byte x)) (pc + 1) lv (st)) : Z p l e R s m args below meth c nL G Q K cells slots M pc lv (.int x :: .int i :: .ref (G.1 + a) :: st) := fun H locs ls h1 h2 h3 => by
  have hat : va_at G.2.1 classes (G.1 + a, .inl (G.2.2.1 22, ln, .inl (M.1 a))) H := by
    have := h1.2 a _ (ws_arr ha (by decide))
    rwa [kA_I a (by decide) (by decide)] at this
  refine W.bast C.1 C.2.1 (cell := vp_cell (G.2.2.1 22) (ln, .inl (M.1 a))) hat ((C.2.2.2.2.2.1.2 2 _ rfl).1 ln (fun j => .int (M.1 a j))) (fun q => by cases q) (by show ¬ (i < 0 ∨ (arrV _ _ _).slots.size ≤ _); rw [arrV_size]; exact hin) rfl rfl hd fun H1 e z oq => ?_
  refine kk H1 _ ls (h1.put (E := .inl (G.2.2.1 22, ln, .inl (upd (M.1 a) i.toNatClampNeg (vp_nar .byte x)))) ha.1 (by rw [kE_arr ha (by decide), kA_sI a _ _ (by decide) (by decide)]) (fun b hb => kE_sI_ne hb) z ?_ oq) (h2.put z oq (Nat.le_add_right _ _)) h3
  show H1[G.1 + a]? = some (vp_cell _ _)
  rw [e, vp_cell_i, vp_cell_i, arrV_store]
  congr 2
  funext q
  by_cases hq : q = i.toNatClampNeg
  · subst hq
    simp [updV, upd, vp_nar]
    try rfl
  · simp [updV, upd, hq]
theorem z_zast (C : CX p s m args meth c cc nL ret own G) {a ln : Nat} {i x : Int32} (ha : isC K a 23 ln) (hin : vp_in i ln) (hd : decode cc pc = .ok (.bastore, 1)) (kk : Z p l e R s m args below meth c nL G Q K cells slots (sI M a i.toNatClampNeg (vp_nar .boolean x)) (pc + 1) lv (st)) : Z p l e R s m args below meth c nL G Q K cells slots M pc lv (.int x :: .int i :: .ref (G.1 + a) :: st) := fun H locs ls h1 h2 h3 => by
  have hat : va_at G.2.1 classes (G.1 + a, .inl (G.2.2.1 23, ln, .inl (M.1 a))) H := by
    have := h1.2 a _ (ws_arr ha (by decide))
    rwa [kA_I a (by decide) (by decide)] at this
  refine W.zast C.1 C.2.1 (cell := vp_cell (G.2.2.1 23) (ln, .inl (M.1 a))) hat ((C.2.2.2.2.2.1.2 3 _ rfl).1 ln (fun j => .int (M.1 a j))) (fun q => by cases q) (by show ¬ (i < 0 ∨ (arrV _ _ _).slots.size ≤ _); rw [arrV_size]; exact hin) rfl rfl hd fun H1 e z oq => ?_
  refine kk H1 _ ls (h1.put (E := .inl (G.2.2.1 23, ln, .inl (upd (M.1 a) i.toNatClampNeg (vp_nar .boolean x)))) ha.1 (by rw [kE_arr ha (by decide), kA_sI a _ _ (by decide) (by decide)]) (fun b hb => kE_sI_ne hb) z ?_ oq) (h2.put z oq (Nat.le_add_right _ _)) h3
  show H1[G.1 + a]? = some (vp_cell _ _)
  rw [e, vp_cell_i, vp_cell_i, arrV_store]
  congr 2
  funext q
  by_cases hq : q = i.toNatClampNeg
  · subst hq
    simp [updV, upd, vp_nar]
    try rfl
  · simp [updV, upd, hq]
theorem z_last (C : CX p s m args meth c cc nL ret own G) {a ln : Nat} {i : Int32} {x : Int64} (ha : isC K a 21 ln) (hin : vp_in i ln) (hd : decode cc pc = .ok (.lastore, 1)) (kk : Z p l e R s m args below meth c nL G Q K cells slots (sL M a i.toNatClampNeg x) (pc + 1) lv (st)) : Z p l e R s m args below meth c nL G Q K cells slots M pc lv (.long x :: .int i :: .ref (G.1 + a) :: st) := fun H locs ls h1 h2 h3 => by
  have hat : va_at G.2.1 classes (G.1 + a, .inl (G.2.2.1 21, ln, .inr (.inl (M.2 a)))) H := h1.2 a _ (ws_arr ha (by decide))
  refine W.last C.1 C.2.1 (cell := vp_cell (G.2.2.1 21) (ln, .inr (.inl (M.2 a)))) hat ((C.2.2.2.2.2.1.2 1 _ rfl).1 ln (fun j => .long (M.2 a j))) (fun q => by cases q) (by show ¬ (i < 0 ∨ (arrV _ _ _).slots.size ≤ _); rw [arrV_size]; exact hin) rfl rfl hd fun H1 e z oq => ?_
  refine kk H1 _ ls (h1.put (E := .inl (G.2.2.1 21, ln, .inr (.inl (vp_updL (M.2 a) i.toNatClampNeg x)))) ha.1 (by rw [kE_arr ha (by decide)]; simp [kA, sL]) (fun b hb => kE_sL_ne hb) z ?_ oq) (h2.put z oq (Nat.le_add_right _ _)) h3
  show H1[G.1 + a]? = some (vp_cell _ _)
  rw [e, vp_cell_l, vp_cell_l, arrV_store]
  congr 2
  funext q
  by_cases hq : q = i.toNatClampNeg
  · subst hq
    simp [updV, vp_updL]
  · simp [updV, vp_updL, hq]
theorem z_putI (C : CX p s m args meth c cc nL ret own G) {C0 : String} {T : u_T} {ci ln index a : Nat} {x : Int32} (ho : clOk ci C0 T) (ha : isC K a ci ln) (k : Nat) (hk : k < nfl ci) (hfk : fkOf (fty ci k) = 0) (hfin : (T k).2.2.2 = false) (hn : narrow (fty ci k) (.int x) = .int x) (hfit : fits (fty ci k) (.int x) = true) (hl : Cond.fieldLink own index (T k).1 (T k).2.1 (T k).2.2.1 ∈ GW) (hd : decode cc pc = .ok (.putfield index, 3)) (kk : Z p l e R s m args below meth c nL G Q K cells slots (sI M a k x) (pc + 3) lv (st)) : Z p l e R s m args below meth c nL G Q K cells slots M pc lv (.int x :: .ref (G.1 + a) :: st) := fun H locs ls h1 h2 h3 => by
  have hts := C.2.2.2.2.1
  have hK := C.2.2.2.2.2.1
  obtain ⟨hc, hin, hty, hnm, hci⟩ := ho
  have hap := va_apart hts hin (fty ci) hty hnm hK hc (own := own)
  obtain ⟨r, e1, cell, q1, q2, q3, q4⟩ := h1.2 a _ (ws_obj ha hci)
  have hr : r = (C0, T, nfl ci) := Option.some.inj (e1.symm.trans hc)
  subst hr
  obtain ⟨hS, hfc, kC, hkC, hkind⟩ := hK.1 ci _ hc
  obtain ⟨cf, kf, fi, f, hi, hsl⟩ := hS k hk
  have hlay := hts _ (hin _ (u_in_lay hk))
  unfold u_lay at hlay
  rw [if_neg (by rw [hfin]; decide)] at hlay
  have hst := (u_facts hfc hkC (u_lays hts hin hk) hi).1
  have h6 := u_store hfc hkC hkind hlay hi (hty k hk) hn hfit
  refine W.putK C.1 C.2.1 (f := f) ⟨C.2.2.2.1, hts _ hl, ⟨_, _, _, hi⟩, hst⟩ (by rw [q2]; exact h6) q1 q3 (by rw [hsl]; exact k2_hasslot (q4 k hk)) rfl rfl hd fun H1 z1 z2 oq => ?_
  rw [hsl] at z1 ⊢
  have hE : kE G K (sI M a k x) a = .inr (ci, ((List.range (nfl ci)).map (fval G K M a ci)).set k (.int x)) := by
    rw [kE_obj ha hci, range_set (nfl ci) k (fval G K M a ci) (fval G K (sI M a k x) a ci) (.int x)]
    · simp [fval, hfk, gI, sI, upd, vp_updL]
    · intro j hj
      simp [fval, gI, gL, sI, upd, vp_updL, hj]
  exact kk H1 _ ls (h1.put ha.1 hE (fun b hb => kE_sI_ne hb) z2 ⟨_, hc, t_OB.to (V := updV (vp_V ((List.range (nfl ci)).map (fval G K M a ci))) k (.int x)) ⟨_, z1, q2, q3, t_set q4 hap hk (.int x)⟩ (fun j _ => vp_updV_set (by rw [fs_len]; exact hk) (.int x) j)⟩ oq) (h2.put z2 oq (Nat.le_add_right _ _)) h3
theorem z_putL (C : CX p s m args meth c cc nL ret own G) {C0 : String} {T : u_T} {ci ln index a : Nat} {x : Int64} (ho : clOk ci C0 T) (ha : isC K a ci ln) (k : Nat) (hk : k < nfl ci) (hfk : fkOf (fty ci k) = 1) (hfin : (T k).2.2.2 = false) (hn : narrow (fty ci k) (.long x) = .long x) (hfit : fits (fty ci k) (.long x) = true) (hl : Cond.fieldLink own index (T k).1 (T k).2.1 (T k).2.2.1 ∈ GW) (hd : decode cc pc = .ok (.putfield index, 3)) (kk : Z p l e R s m args below meth c nL G Q K cells slots (sL M a k x) (pc + 3) lv (st)) : Z p l e R s m args below meth c nL G Q K cells slots M pc lv (.long x :: .ref (G.1 + a) :: st) := fun H locs ls h1 h2 h3 => by
  have hts := C.2.2.2.2.1
  have hK := C.2.2.2.2.2.1
  obtain ⟨hc, hin, hty, hnm, hci⟩ := ho
  have hap := va_apart hts hin (fty ci) hty hnm hK hc (own := own)
  obtain ⟨r, e1, cell, q1, q2, q3, q4⟩ := h1.2 a _ (ws_obj ha hci)
  have hr : r = (C0, T, nfl ci) := Option.some.inj (e1.symm.trans hc)
  subst hr
  obtain ⟨hS, hfc, kC, hkC, hkind⟩ := hK.1 ci _ hc
  obtain ⟨cf, kf, fi, f, hi, hsl⟩ := hS k hk
  have hlay := hts _ (hin _ (u_in_lay hk))
  unfold u_lay at hlay
  rw [if_neg (by rw [hfin]; decide)] at hlay
  have hst := (u_facts hfc hkC (u_lays hts hin hk) hi).1
  have h6 := u_store hfc hkC hkind hlay hi (hty k hk) hn hfit
  refine W.putK C.1 C.2.1 (f := f) ⟨C.2.2.2.1, hts _ hl, ⟨_, _, _, hi⟩, hst⟩ (by rw [q2]; exact h6) q1 q3 (by rw [hsl]; exact k2_hasslot (q4 k hk)) rfl rfl hd fun H1 z1 z2 oq => ?_
  rw [hsl] at z1 ⊢
  have hE : kE G K (sL M a k x) a = .inr (ci, ((List.range (nfl ci)).map (fval G K M a ci)).set k (.long x)) := by
    rw [kE_obj ha hci, range_set (nfl ci) k (fval G K M a ci) (fval G K (sL M a k x) a ci) (.long x)]
    · simp [fval, hfk, gL, sL, upd, vp_updL]
    · intro j hj
      simp [fval, gI, gL, sL, upd, vp_updL, hj]
  exact kk H1 _ ls (h1.put ha.1 hE (fun b hb => kE_sL_ne hb) z2 ⟨_, hc, t_OB.to (V := updV (vp_V ((List.range (nfl ci)).map (fval G K M a ci))) k (.long x)) ⟨_, z1, q2, q3, t_set q4 hap hk (.long x)⟩ (fun j _ => vp_updV_set (by rw [fs_len]; exact hk) (.long x) j)⟩ oq) (h2.put z2 oq (Nat.le_add_right _ _)) h3
theorem Stt.at {H : Heap} {locs : List Loc} (h : Stt G s s.heap) (h2 : va_S (AG G) s.heap H locs) : Stt G s H := h.kept h2.2.1
theorem Wd.at {H : Heap} {locs : List Loc} {U : State} (C : CX p s m args meth c cc nL ret own G) (h1 : Sm G K M H) (h2 : va_S (AG G) s.heap H locs) (hU : U.heap = H) (hW : s.WarmedH U.vm) : Wd G K M U := by
  refine ⟨by rw [hU]; exact h1, va_K.moved hW.alike C.2.2.2.2.2.1, ?_⟩
  rw [hU]
  exact (C.2.2.2.2.2.2.2.1.at h2).moved hW
theorem z_run {H : Heap} {locs : List Loc} {ls : Array Slot} {mc ms : Nat} {st0 rest : List Value} {av : Array Value} {o : Option Value} {K2 : SK} {M2 : MM} (hr : va_Run p l e R s m args below meth c H locs cells slots mc ms (F0 m pc ls st0) rest (QC G o K2 M2 av) (AG G)) (h2 : va_S (AG G) s.heap H locs) (h3 : lv_has ls nL lv) (kk : Z p l e R s m args below meth c nL G Q K2 (cells + mc) (slots + ms) M2 (pc + 3) lv (o.toList ++ rest)) : W p l e R s m args below meth c H locs cells slots Q (F0 m pc ls st0) := by
  intro T hT X
  obtain ⟨v, st₀, t, T', L, h0, X', hL, e1, e2, ⟨hv, hWd, hz, hk⟩, stp⟩ := hr T hT X
  cases hv
  rw [h0] at hz hk
  obtain ⟨t2, a1, b1⟩ := kk T'.heap (locs ++ L) ls (by rw [e1]; exact hWd.1) ⟨Nat.le_trans h2.1 (by rw [e1]; exact hz), fun q g1 g2 => by rw [e1, hk q (Nat.lt_of_lt_of_le g1 h2.1) g2]; exact h2.2.1 q g1 g2, fun q hq => by
    rcases List.mem_append.mp hq with h | h
    · exact h2.2.2 q h
    · exact hL q h⟩ h3 T' rfl X'
  exact ⟨t2, stp t2 a1, b1⟩
theorem wd_blind {av : List Value} : FrameBlind (va_Pc av (fun U => Wd G K M U)) := fun a U g mk q => ⟨q.1, q.2.1, va_K.moved (u := U) (U := U.calling g mk a) (Vm.Alike.refl U.vm) q.2.2.1, Stt.same (u := U) (U := U.calling g mk a) rfl q.2.2.2⟩
def notMH (y : MethodName) (n : Nat) : Prop := y.cls ≠ "java/lang/invoke/MethodHandle" ∧ y.cls ≠ "java/lang/invoke/VarHandle" ∧ (parseMethodDescriptor y.desc).map (fun d => d.parameters.length) = some n
/-- what the tables say of an instance method that is called on its own class -/
def LkV (y : MethodName) (cc2 : ByteArray) (maxL2 : Nat) (ret2 : Option FieldType) (n : Nat) : Prop := Cond.code y cc2 maxL2 ret2 ∈ GW ∧ Cond.instanceMethod y ∈ GW ∧ Cond.selects y.cls y y ∈ GW ∧ Cond.initialized y.cls ∈ GW ∧ notMH y n
def LkS (y : MethodName) (cc2 : ByteArray) (maxL2 : Nat) (ret2 : Option FieldType) (n : Nat) : Prop := Cond.code y cc2 maxL2 ret2 ∈ GW ∧ Cond.static y ∈ GW ∧ Cond.initialized y.cls ∈ GW ∧ notMH y n
def LkI (y : MethodName) (cc2 : ByteArray) (maxL2 : Nat) (n : Nat) : Prop := Cond.code y cc2 maxL2 none ∈ GW ∧ Cond.instanceMethod y ∈ GW ∧ Cond.initialized y.cls ∈ GW ∧ y.name = "<init>" ∧ notMH y n
theorem z_callV (C : CX p s m args meth c cc nL ret own G) {y : MethodName} {cc2 : ByteArray} {maxL2 : Nat} {ret2 : Option FieldType} {d mc ms n : Nat} {K2 : SK} {M2 : MM} {o : Option Value} {a ci ln index : Nat} {T : u_T} {As : List Value} (rest : List Value) {st0 : List Value} (hM : Ct l y cc2 maxL2 ret2 d mc ms G K M (.ref (G.1 + a) :: As) o K2 M2) (hw : LkV y cc2 maxL2 ret2 n) (ho : clOk ci y.cls T) (ha : isC K a ci ln) (hl : Cond.methodLink own index y ∈ GW) (hn : As.length = n) (hR : d + 1 ≤ R.frames ∧ 8 + (maxL2 + 11) + 40 * d ≤ R.locals) (hs : st0 = As.reverse ++ .ref (G.1 + a) :: rest) (hrest : (rest.map fun v => v.category).sum ≤ 8) (hcs : cells + mc ≤ R.cells ∧ slots + ms ≤ R.slots) (hd : decode cc pc = .ok (.invokevirtual index, 3)) (kk : Z p l e R s m args below meth c nL G Q K2 (cells + mc) (slots + ms) M2 (pc + 3) lv (o.toList ++ rest)) : Z p l e R s m args below meth c nL G Q K cells slots M pc lv st0 := fun H locs ls h1 h2 h3 => by
  refine z_run (va_runV (As := As) (rest := rest) (b := G.1 + a) ⟨C.1, C.2.1, C.2.2.1, C.2.2.2.1, C.2.2.2.2.1⟩ hM (cwV (C := y.cls) n C.2.2.2.2.1 ?_ rfl rfl rfl ⟨rfl, hw.2.2.2.2⟩ hR) ⟨wd_blind, va_recv C.2.2.2.2.2.1 h1.2 ho.1 (ws_obj ha ho.2.2.2.2), fun U hU hW => ⟨rfl, Wd.at C h1 h2 hU hW⟩⟩ rfl hn h3.1 hs (lv_room hrest) hd hcs) h2 h3 kk
  intro w hw2
  rcases List.mem_append.mp hw2 with h | h
  · simp only [List.mem_cons, List.not_mem_nil, or_false] at h
    rcases h with rfl | rfl | rfl | rfl
    · exact gw_good hl
    · exact gw_good hw.2.1
    · exact gw_good hw.2.2.1
    · exact gw_good hw.2.2.2.1
  · rcases List.mem_cons.mp h with rfl | h
    · exact gw_good hw.1
    · exact gw_good h
theorem z_callS (C : CX p s m args meth c cc nL ret own G) {y : MethodName} {cc2 : ByteArray} {maxL2 : Nat} {ret2 : Option FieldType} {d mc ms n : Nat} {K2 : SK} {M2 : MM} {o : Option Value} {index : Nat} {As : List Value} (rest : List Value) {st0 : List Value} (hM : Ct l y cc2 maxL2 ret2 d mc ms G K M As o K2 M2) (hw : LkS y cc2 maxL2 ret2 n) (hl : Cond.methodLink own index y ∈ GW) (hn : As.length = n) (hR : d + 1 ≤ R.frames ∧ 8 + (maxL2 + 11) + 40 * d ≤ R.locals) (hs : st0 = As.reverse ++ rest) (hrest : (rest.map fun v => v.category).sum ≤ 8) (hcs : cells + mc ≤ R.cells ∧ slots + ms ≤ R.slots) (hd : decode cc pc = .ok (.invokestatic index, 3)) (kk : Z p l e R s m args below meth c nL G Q K2 (cells + mc) (slots + ms) M2 (pc + 3) lv (o.toList ++ rest)) : Z p l e R s m args below meth c nL G Q K cells slots M pc lv st0 := fun H locs ls h1 h2 h3 => by
  refine z_run (va_runS (As := As) (rest := rest) ⟨C.1, C.2.1, C.2.2.1, C.2.2.2.1, C.2.2.2.2.1⟩ hM ⟨callB_of n C.2.2.2.2.1 ?_ rfl rfl rfl (C.2.2.2.2.1 _ hw.2.2.1) (C.2.2.2.2.1 _ hl) hw.2.2.2 hR, C.2.2.2.2.1 _ hw.2.1⟩ ⟨wd_blind, fun U hU hW => ⟨rfl, Wd.at C h1 h2 hU hW⟩⟩ rfl hn h3.1 hs (lv_room hrest) hd hcs) h2 h3 kk
  intro w hw2
  rcases List.mem_cons.mp hw2 with rfl | h
  · exact gw_good hw.1
  · exact gw_good h
theorem z_callI (C : CX p s m args meth c cc nL ret own G) {y : MethodName} {cc2 : ByteArray} {maxL2 : Nat} {d mc ms n : Nat} {K2 : SK} {M2 : MM} {a index : Nat} {As : List Value} (rest : List Value) {st0 : List Value} (hM : Ct l y cc2 maxL2 none d mc ms G K M (.ref (G.1 + a) :: As) none K2 M2) (hw : LkI y cc2 maxL2 n) (hl : Cond.methodLink own index y ∈ GW) (hn : As.length = n) (hR : d + 1 ≤ R.frames ∧ 8 + (maxL2 + 11) + 40 * d ≤ R.locals) (hs : st0 = As.reverse ++ .ref (G.1 + a) :: rest) (hrest : (rest.map fun v => v.category).sum ≤ 8) (hcs : cells + mc ≤ R.cells ∧ slots + ms ≤ R.slots) (hd : decode cc pc = .ok (.invokespecial index, 3)) (kk : Z p l e R s m args below meth c nL G Q K2 (cells + mc) (slots + ms) M2 (pc + 3) lv rest) : Z p l e R s m args below meth c nL G Q K cells slots M pc lv st0 := fun H locs ls h1 h2 h3 => by
  refine z_run (o := none) (va_runI (As := As) (rest := rest) (b := G.1 + a) ⟨C.1, C.2.1, C.2.2.1, C.2.2.2.1, C.2.2.2.2.1⟩ hM (cwI n C.2.2.2.2.1 ?_ rfl rfl rfl (C.2.2.2.2.1 _ hw.2.2.1) (C.2.2.2.2.1 _ hl) (C.2.2.2.2.1 _ hw.2.1) hw.2.2.2.1 hw.2.2.2.2 hR) ⟨wd_blind, fun U hU hW => ⟨rfl, Wd.at C h1 h2 hU hW⟩⟩ rfl hn h3.1 hs (lv_room hrest) hd hcs) h2 h3 kk
  intro w hw2
  rcases List.mem_cons.mp hw2 with rfl | h
  · exact gw_good hw.1
  · exact gw_good h
theorem z_iret (C : CX p s m args meth c cc nL ret own G) (hr : ret = some .int) {v : Int32} (hd : decode cc pc = .ok (.ireturn, 1)) : Z p l e R s m args below meth c nL G (MQ below (QC G (some (.int v)) K M) args s cells slots (AG G)) K cells slots M pc lv (.int v :: []) := fun H locs ls h1 h2 h3 => W.iret C.1 C.2.1 (C.2.2.2.2.2.2.2.2.1.trans hr) (fun t ht hW => ⟨rfl, Wd.at C h1 h2 ht hW, h2.F ht⟩) h2.2.2 hd C.2.2.2.2.2.2.2.2.2
theorem z_zret (C : CX p s m args meth c cc nL ret own G) {ty : FieldType} (hr : ret = some ty) {v : Int32} (hn : narrow ty (.int v) = .int v) (hd : decode cc pc = .ok (.ireturn, 1)) : Z p l e R s m args below meth c nL G (MQ below (QC G (some (.int v)) K M) args s cells slots (AG G)) K cells slots M pc lv (.int v :: []) := fun H locs ls h1 h2 h3 => W.zret C.1 C.2.1 (C.2.2.2.2.2.2.2.2.1.trans hr) hn (fun t ht hW => ⟨rfl, Wd.at C h1 h2 ht hW, h2.F ht⟩) h2.2.2 hd C.2.2.2.2.2.2.2.2.2
theorem z_lret (C : CX p s m args meth c cc nL ret own G) (hr : ret = some .long) {v : Int64} (hd : decode cc pc = .ok (.lreturn, 1)) : Z p l e R s m args below meth c nL G (MQ below (QC G (some (.long v)) K M) args s cells slots (AG G)) K cells slots M pc lv (.long v :: []) := fun H locs ls h1 h2 h3 => W.lret C.1 C.2.1 (C.2.2.2.2.2.2.2.2.1.trans hr) (fun t ht hW => ⟨rfl, Wd.at C h1 h2 ht hW, h2.F ht⟩) h2.2.2 hd C.2.2.2.2.2.2.2.2.2
theorem z_vret (C : CX p s m args meth c cc nL ret own G) (hr : ret = none) (hd : decode cc pc = .ok (.return_, 1)) : Z p l e R s m args below meth c nL G (MQ below (QC G (none) K M) args s cells slots (AG G)) K cells slots M pc lv ([]) := fun H locs ls h1 h2 h3 => W.vret C.1 C.2.1 (C.2.2.2.2.2.2.2.2.1.trans hr) (fun t ht hW => ⟨rfl, Wd.at C h1 h2 ht hW, h2.F ht⟩) h2.2.2 hd C.2.2.2.2.2.2.2.2.2
theorem z_aret (C : CX p s m args meth c cc nL ret own G) {C0 : String} (hr : ret = some (.object C0)) {v : Option Nat} (hd : decode cc pc = .ok (.areturn, 1)) : Z p l e R s m args below meth c nL G (MQ below (QC G (some (va_rf v)) K M) args s cells slots (AG G)) K cells slots M pc lv (va_rf v :: []) := fun H locs ls h1 h2 h3 => W.aret C.1 C.2.1 (C.2.2.2.2.2.2.2.2.1.trans hr) (Or.inl ⟨C0, rfl⟩) (by cases v with | none => exact Or.inl rfl | some a => exact Or.inr ⟨a, rfl⟩) (fun t ht hW => ⟨rfl, Wd.at C h1 h2 ht hW, h2.F ht⟩) h2.2.2 hd C.2.2.2.2.2.2.2.2.2
theorem z_gets (C : CX p s m args meth c cc nL ret own G) (k : Nat) (hk : k < 5) {index : Nat} (hl : Cond.fieldLink own index (st_tab k).1 (st_tab k).2.1 "[I" ∈ GW) (hd : decode cc pc = .ok (.getstatic index, 3)) (kk : Z p l e R s m args below meth c nL G Q K cells slots M (pc + 3) lv (.ref (G.2.2.2 k) :: st)) : Z p l e R s m args below meth c nL G Q K cells slots M pc lv (st) := fun H locs ls h1 h2 h3 => va_gets C.1 C.2.1 (C.2.2.2.2.2.2.2.1.1 k hk).1 h2 C.2.2.2.1 (C.2.2.2.2.1 _ hl) (fun _ h => h) hd (kk H locs ls h1 h2 h3)
theorem z_tald (C : CX p s m args meth c cc nL ret own G) (k : Nat) (hk : k < 5) {i : Int32} (hin : vp_in i (st_tab k).2.2.length) (hd : decode cc pc = .ok (.iaload, 1)) (kk : Z p l e R s m args below meth c nL G Q K cells slots M (pc + 1) lv (.int (st_val k i.toNatClampNeg) :: st)) : Z p l e R s m args below meth c nL G Q K cells slots M pc lv (.int i :: .ref (G.2.2.2 k) :: st) := fun H locs ls h1 h2 h3 => va_ti C.1 C.2.1 (C.2.2.2.2.2.2.2.1.1 k hk).2 h2 hin rfl hd (kk H locs ls h1 h2 h3)
theorem z_copyi (C : CX p s m args meth c cc nL ret own G) {index a b na nb : Nat} {sp dp n : Int32} (hs0 : s.heap.size = G.1 + K.1) (hl : Cond.methodLink own index arraycopyName ∈ GW) (hnat : Cond.native arraycopyName ∈ GW) (hstat : Cond.static arraycopyName ∈ GW) (hini : Cond.initialized "java/lang/System" ∈ GW) (ha : isC K a 20 na) (hb : isC K b 20 nb) (h1 : ¬ sp < 0) (h2 : ¬ dp < 0) (h3 : ¬ n < 0) (h4 : sp.toNatClampNeg + n.toNatClampNeg ≤ na) (h5 : dp.toNatClampNeg + n.toNatClampNeg ≤ nb) (hfit : ∀ i, i < n.toNatClampNeg → fits .int (.int (gI M a (sp.toNatClampNeg + i))) = true) (hframes : 1 ≤ R.frames) (hlocals : (st.map fun v => v.category).sum + (nativeFrameWords "java/lang/System" "arraycopy" 5 + 11) ≤ R.locals) (hd : decode cc pc = .ok (.invokestatic index, 3)) (kk : Z p l e R s m args below meth c nL G Q K 0 slots (cpI M a b sp.toNatClampNeg dp.toNatClampNeg n.toNatClampNeg) (pc + 3) lv (st)) : Z p l e R s m args below meth c nL G Q K 0 slots M pc lv (.int n :: .int dp :: .ref (G.1 + b) :: .int sp :: .ref (G.1 + a) :: st) := fun H locs ls g1 g2 g3 => by
  have hts := C.2.2.2.2.1
  refine va_copyi C.1 C.2.1 (C.2.2.1.trans g3.1.symm) C.2.2.2.1 (hts _ hl) (hts _ hnat) (hts _ hstat) (hts _ hini) C.2.2.2.2.2.1 g1.2 (ws_D G K M) g2 a b 0 0 (f := M.1 a) (g := M.1 b) (by rw [ws_arr ha (by decide), kA_I a (by decide) (by decide)]) (by rw [ws_arr hb (by decide), kA_I b (by decide) (by decide)]) rfl rfl rfl h1 h2 h3 h4 h5 hfit hframes hlocals hd (fun H1 locs1 hP1 hD1 hS1 => ?_)
  intro T hT X
  have hz := X.heapSize
  rw [hT] at hz
  refine kk H1 locs1 ls ⟨by have := hS1.1; omega, ?_⟩ hS1 g3 T hT X
  rwa [ws_set (M' := cpI M a b sp.toNatClampNeg dp.toNatClampNeg n.toNatClampNeg) rfl hb.1 (by rw [kE_arr hb (by decide)]; simp [kA, cpI]) (fun q _ hq => kE_cp_ne hq)] at hP1
theorem z_copyb (C : CX p s m args meth c cc nL ret own G) {index a b na nb : Nat} {sp dp n : Int32} (hs0 : s.heap.size = G.1 + K.1) (hl : Cond.methodLink own index arraycopyName ∈ GW) (hnat : Cond.native arraycopyName ∈ GW) (hstat : Cond.static arraycopyName ∈ GW) (hini : Cond.initialized "java/lang/System" ∈ GW) (ha : isC K a 22 na) (hb : isC K b 22 nb) (h1 : ¬ sp < 0) (h2 : ¬ dp < 0) (h3 : ¬ n < 0) (h4 : sp.toNatClampNeg + n.toNatClampNeg ≤ na) (h5 : dp.toNatClampNeg + n.toNatClampNeg ≤ nb) (hfit : ∀ i, i < n.toNatClampNeg → fits .byte (.int (gI M a (sp.toNatClampNeg + i))) = true) (hframes : 1 ≤ R.frames) (hlocals : (st.map fun v => v.category).sum + (nativeFrameWords "java/lang/System" "arraycopy" 5 + 11) ≤ R.locals) (hd : decode cc pc = .ok (.invokestatic index, 3)) (kk : Z p l e R s m args below meth c nL G Q K 0 slots (cpI M a b sp.toNatClampNeg dp.toNatClampNeg n.toNatClampNeg) (pc + 3) lv (st)) : Z p l e R s m args below meth c nL G Q K 0 slots M pc lv (.int n :: .int dp :: .ref (G.1 + b) :: .int sp :: .ref (G.1 + a) :: st) := fun H locs ls g1 g2 g3 => by
  have hts := C.2.2.2.2.1
  refine va_copyi C.1 C.2.1 (C.2.2.1.trans g3.1.symm) C.2.2.2.1 (hts _ hl) (hts _ hnat) (hts _ hstat) (hts _ hini) C.2.2.2.2.2.1 g1.2 (ws_D G K M) g2 a b 2 2 (f := M.1 a) (g := M.1 b) (by rw [ws_arr ha (by decide), kA_I a (by decide) (by decide)]) (by rw [ws_arr hb (by decide), kA_I b (by decide) (by decide)]) rfl rfl rfl h1 h2 h3 h4 h5 hfit hframes hlocals hd (fun H1 locs1 hP1 hD1 hS1 => ?_)
  intro T hT X
  have hz := X.heapSize
  rw [hT] at hz
  refine kk H1 locs1 ls ⟨by have := hS1.1; omega, ?_⟩ hS1 g3 T hT X
  rwa [ws_set (M' := cpI M a b sp.toNatClampNeg dp.toNatClampNeg n.toNatClampNeg) rfl hb.1 (by rw [kE_arr hb (by decide)]; simp [kA, cpI]) (fun q _ hq => kE_cp_ne hq)] at hP1
theorem z_cV0 (C : CX p s m args meth c cc nL ret own G) {y : MethodName} {cc2 : ByteArray} {maxL2 : Nat} {ret2 : Option FieldType} {d n index : Nat} {M2 : MM} {a ci ln : Nat} {T : u_T} {As : List Value} (rest : List Value) {st0 : List Value} (hM : Ct l y cc2 maxL2 ret2 d 0 0 G K M (.ref (G.1 + a) :: As) none K M2) (hw : LkV y cc2 maxL2 ret2 n) (ho : clOk ci y.cls T) (ha : isC K a ci ln) (hl : Cond.methodLink own index y ∈ GW) (hn : As.length = n) (hR : d + 1 ≤ R.frames ∧ 8 + (maxL2 + 11) + 40 * d ≤ R.locals) (hs : st0 = As.reverse ++ .ref (G.1 + a) :: rest) (hrest : (rest.map fun v => v.category).sum ≤ 8) (hcs : cells ≤ R.cells ∧ slots ≤ R.slots) (hd : decode cc pc = .ok (.invokevirtual index, 3)) (kk : Z p l e R s m args below meth c nL G Q K cells slots M2 (pc + 3) lv (rest)) : Z p l e R s m args below meth c nL G Q K cells slots M pc lv st0 := z_callV C rest hM hw ho ha hl hn hR hs hrest hcs hd kk
theorem z_cV1 (C : CX p s m args meth c cc nL ret own G) {y : MethodName} {cc2 : ByteArray} {maxL2 : Nat} {ret2 : Option FieldType} {d n index : Nat} {M2 : MM} {v : Value} {a ci ln : Nat} {T : u_T} {As : List Value} (rest : List Value) {st0 : List Value} (hM : Ct l y cc2 maxL2 ret2 d 0 0 G K M (.ref (G.1 + a) :: As) (some v) K M2) (hw : LkV y cc2 maxL2 ret2 n) (ho : clOk ci y.cls T) (ha : isC K a ci ln) (hl : Cond.methodLink own index y ∈ GW) (hn : As.length = n) (hR : d + 1 ≤ R.frames ∧ 8 + (maxL2 + 11) + 40 * d ≤ R.locals) (hs : st0 = As.reverse ++ .ref (G.1 + a) :: rest) (hrest : (rest.map fun v => v.category).sum ≤ 8) (hcs : cells ≤ R.cells ∧ slots ≤ R.slots) (hd : decode cc pc = .ok (.invokevirtual index, 3)) (kk : Z p l e R s m args below meth c nL G Q K cells slots M2 (pc + 3) lv (v :: rest)) : Z p l e R s m args below meth c nL G Q K cells slots M pc lv st0 := z_callV C rest hM hw ho ha hl hn hR hs hrest hcs hd kk
theorem z_cS0 (C : CX p s m args meth c cc nL ret own G) {y : MethodName} {cc2 : ByteArray} {maxL2 : Nat} {ret2 : Option FieldType} {d n index : Nat} {M2 : MM} {As : List Value} (rest : List Value) {st0 : List Value} (hM : Ct l y cc2 maxL2 ret2 d 0 0 G K M (As) none K M2) (hw : LkS y cc2 maxL2 ret2 n) (hl : Cond.methodLink own index y ∈ GW) (hn : As.length = n) (hR : d + 1 ≤ R.frames ∧ 8 + (maxL2 + 11) + 40 * d ≤ R.locals) (hs : st0 = As.reverse ++ rest) (hrest : (rest.map fun v => v.category).sum ≤ 8) (hcs : cells ≤ R.cells ∧ slots ≤ R.slots) (hd : decode cc pc = .ok (.invokestatic index, 3)) (kk : Z p l e R s m args below meth c nL G Q K cells slots M2 (pc + 3) lv (rest)) : Z p l e R s m args below meth c nL G Q K cells slots M pc lv st0 := z_callS C rest hM hw hl hn hR hs hrest hcs hd kk
theorem z_cS1 (C : CX p s m args meth c cc nL ret own G) {y : MethodName} {cc2 : ByteArray} {maxL2 : Nat} {ret2 : Option FieldType} {d n index : Nat} {M2 : MM} {v : Value} {As : List Value} (rest : List Value) {st0 : List Value} (hM : Ct l y cc2 maxL2 ret2 d 0 0 G K M (As) (some v) K M2) (hw : LkS y cc2 maxL2 ret2 n) (hl : Cond.methodLink own index y ∈ GW) (hn : As.length = n) (hR : d + 1 ≤ R.frames ∧ 8 + (maxL2 + 11) + 40 * d ≤ R.locals) (hs : st0 = As.reverse ++ rest) (hrest : (rest.map fun v => v.category).sum ≤ 8) (hcs : cells ≤ R.cells ∧ slots ≤ R.slots) (hd : decode cc pc = .ok (.invokestatic index, 3)) (kk : Z p l e R s m args below meth c nL G Q K cells slots M2 (pc + 3) lv (v :: rest)) : Z p l e R s m args below meth c nL G Q K cells slots M pc lv st0 := z_callS C rest hM hw hl hn hR hs hrest hcs hd kk
theorem z_topi {x : Int32} (k : ∀ y : Int32, y = x → Z p l e R s m args below meth c nL G Q K cells slots M pc lv (.int y :: st)) : Z p l e R s m args below meth c nL G Q K cells slots M pc lv (.int x :: st) := k x rfl
theorem z_topl {x : Int64} (k : ∀ y : Int64, y = x → Z p l e R s m args below meth c nL G Q K cells slots M pc lv (.long y :: st)) : Z p l e R s m args below meth c nL G Q K cells slots M pc lv (.long x :: st) := k x rfl
theorem z_M {M2 : MM} (k : ∀ M3 : MM, M3 = M2 → Z p l e R s m args below meth c nL G Q K cells slots M3 pc lv (st)) : Z p l e R s m args below meth c nL G Q K cells slots M2 pc lv (st) := k M2 rfl
theorem z_aaldR (C : CX p s m args meth c cc nL ret own G) {a b ln kd : Nat} {i : Int32} (t0 : Nat) (C0 : String) (ha : isC K a kd ln) (hkd : 24 ≤ kd) (ht : (tysOf G)[t0]? = some (G.2.2.1 kd, .object C0)) (hin : vp_in i ln) (hr : K.2.2 a i.toNatClampNeg = some b) (hd : decode cc pc = .ok (.aaload, 1)) (kk : Z p l e R s m args below meth c nL G Q K cells slots M (pc + 1) lv (.ref (G.1 + b) :: st)) : Z p l e R s m args below meth c nL G Q K cells slots M pc lv (.int i :: .ref (G.1 + a) :: st) := z_aald C t0 C0 ha hkd ht hin hd (by rw [hr]; exact kk)
def jmin (x y : Int32) : Int32 := if y < x then y else x
def jmax (x y : Int32) : Int32 := if x < y then y else x
def jabs (x : Int32) : Int32 := if 0 ≤ x then x else 0 - x
def LkM (y : MethodName) (cc2 : ByteArray) (n : Nat) : Prop := Cond.code y cc2 n (some .int) ∈ GW ∧ Cond.static y ∈ GW ∧ Cond.initialized "java/lang/Math" ∈ GW
theorem z_mmin (C : CX p s m args meth c cc nL ret own G) {x y : Int32} {index : Nat} (hw : LkM Lib.Math.min.name Lib.Math.min.code 2) (hl : Cond.methodLink own index Lib.Math.min.name ∈ GW) (hfr : 1 ≤ R.frames) (hlo : (st.map fun v => v.category).sum + 13 ≤ R.locals) (hcs : cells ≤ R.cells ∧ slots ≤ R.slots) (hd : decode cc pc = .ok (.invokestatic index, 3)) (k : Z p l e R s m args below meth c nL G Q K cells slots M (pc + 3) lv (.int (jmin x y) :: st)) : Z p l e R s m args below meth c nL G Q K cells slots M pc lv (.int y :: .int x :: st) := fun H locs ls h1 h2 h3 => va_mmin C.1 C.2.1 (C.2.2.1.trans h3.1.symm) C.2.2.2.1 (C.2.2.2.2.1 _ hl) (C.2.2.2.2.1 _ hw.2.1) (C.2.2.2.2.1 _ hw.2.2) (C.2.2.2.2.1 _ hw.1) hfr hlo hcs.1 hcs.2 hd (k H locs ls h1 h2 h3)
theorem z_mmax (C : CX p s m args meth c cc nL ret own G) {x y : Int32} {index : Nat} (hw : LkM Lib.Math.max.name Lib.Math.max.code 2) (hl : Cond.methodLink own index Lib.Math.max.name ∈ GW) (hfr : 1 ≤ R.frames) (hlo : (st.map fun v => v.category).sum + 13 ≤ R.locals) (hcs : cells ≤ R.cells ∧ slots ≤ R.slots) (hd : decode cc pc = .ok (.invokestatic index, 3)) (k : Z p l e R s m args below meth c nL G Q K cells slots M (pc + 3) lv (.int (jmax x y) :: st)) : Z p l e R s m args below meth c nL G Q K cells slots M pc lv (.int y :: .int x :: st) := fun H locs ls h1 h2 h3 => va_mmax C.1 C.2.1 (C.2.2.1.trans h3.1.symm) C.2.2.2.1 (C.2.2.2.2.1 _ hl) (C.2.2.2.2.1 _ hw.2.1) (C.2.2.2.2.1 _ hw.2.2) (C.2.2.2.2.1 _ hw.1) hfr hlo hcs.1 hcs.2 hd (k H locs ls h1 h2 h3)
theorem z_mabs (C : CX p s m args meth c cc nL ret own G) {x : Int32} {index : Nat} (hw : LkM Lib.Math.abs.name Lib.Math.abs.code 1) (hl : Cond.methodLink own index Lib.Math.abs.name ∈ GW) (hfr : 1 ≤ R.frames) (hlo : (st.map fun v => v.category).sum + 13 ≤ R.locals) (hcs : cells ≤ R.cells ∧ slots ≤ R.slots) (hd : decode cc pc = .ok (.invokestatic index, 3)) (k : Z p l e R s m args below meth c nL G Q K cells slots M (pc + 3) lv (.int (jabs x) :: st)) : Z p l e R s m args below meth c nL G Q K cells slots M pc lv (.int x :: st) := fun H locs ls h1 h2 h3 => va_mabs C.1 C.2.1 (C.2.2.1.trans h3.1.symm) C.2.2.2.1 (C.2.2.2.2.1 _ hl) (C.2.2.2.2.1 _ hw.2.1) (C.2.2.2.2.1 _ hw.2.2) (C.2.2.2.2.1 _ hw.1) hfr hlo hcs.1 hcs.2 hd (k H locs ls h1 h2 h3)
theorem z_ldcS (C : CX p s m args meth c cc nL ret own G) (w : Nat) (hw : w < 21) {index : Nat} (hi : strIx w = index) (ho : own = RX7) (hd : decode cc pc = .ok (.ldc index, 2)) (k : Z p l e R s m args below meth c nL G Q K cells slots M (pc + 2) lv (.ref (G.2.2.2 (100 + w)) :: st)) : Z p l e R s m args below meth c nL G Q K cells slots M pc lv (st) := fun H locs ls h1 h2 h3 => va_ldcS C.1 C.2.1 C.2.2.2.1 (by have := C.2.2.2.2.2.2.2.1.2.2.1 w hw; rw [hi] at this; rw [ho]; exact this) hd (k H locs ls h1 h2 h3)
theorem z_sval (C : CX p s m args meth c cc nL ret own G) (w : Nat) (hw : w < 21) {index : Nat} (hl : Cond.fieldLink own index "java/lang/String" "value" "[B" ∈ GW) (hd : decode cc pc = .ok (.getfield index, 3)) (k : Z p l e R s m args below meth c nL G Q K cells slots M (pc + 3) lv (.ref (G.2.2.2 (200 + w)) :: st)) : Z p l e R s m args below meth c nL G Q K cells slots M pc lv (.ref (G.2.2.2 (100 + w)) :: st) := fun H locs ls h1 h2 h3 => vk_getf C.1 C.2.1 (C.2.2.2.2.2.2.2.1.2.1.1.1 w hw).2.2.1 h2 C.2.2.2.1 (C.2.2.2.2.1 _ hl) (fun _ h => h) hd (k H locs ls h1 h2 h3)
theorem z_scod (C : CX p s m args meth c cc nL ret own G) (w : Nat) (hw : w < 21) {index : Nat} (hl : Cond.fieldLink own index "java/lang/String" "coder" "B" ∈ GW) (hd : decode cc pc = .ok (.getfield index, 3)) (k : Z p l e R s m args below meth c nL G Q K cells slots M (pc + 3) lv (.int 0 :: st)) : Z p l e R s m args below meth c nL G Q K cells slots M pc lv (.ref (G.2.2.2 (100 + w)) :: st) := fun H locs ls h1 h2 h3 => vk_getf C.1 C.2.1 (C.2.2.2.2.2.2.2.1.2.1.1.1 w hw).2.1 h2 C.2.2.2.1 (C.2.2.2.2.1 _ hl) (fun _ h => h) hd (k H locs ls h1 h2 h3)
theorem z_slen (C : CX p s m args meth c cc nL ret own G) (w : Nat) (hw : w < 21) (hd : decode cc pc = .ok (.arraylength, 1)) (k : Z p l e R s m args below meth c nL G Q K cells slots M (pc + 1) lv (.int (nI (strLen.getD w 0)) :: st)) : Z p l e R s m args below meth c nL G Q K cells slots M pc lv (.ref (G.2.2.2 (200 + w)) :: st) := fun H locs ls h1 h2 h3 => va_tlen C.1 C.2.1 (C.2.2.2.2.2.2.2.1.2.1.1.1 w hw).2.2.2 h2 rfl hd (k H locs ls h1 h2 h3)
def sby (w j : Nat) : Int32 := (strByt.getD w []).getD j 0
theorem z_sbald (C : CX p s m args meth c cc nL ret own G) (w : Nat) (hw : w < 21) {i : Int32} (hin : vp_in i (strLen.getD w 0)) (hd : decode cc pc = .ok (.baload, 1)) (k : Z p l e R s m args below meth c nL G Q K cells slots M (pc + 1) lv (.int (sby w i.toNatClampNeg) :: st)) : Z p l e R s m args below meth c nL G Q K cells slots M pc lv (.int i :: .ref (G.2.2.2 (200 + w)) :: st) := fun H locs ls h1 h2 h3 => va_tb C.1 C.2.1 (C.2.2.2.2.2.2.2.1.2.1.1.1 w hw).2.2.2 h2 hin rfl hd (k H locs ls h1 h2 h3)
theorem z_compact (C : CX p s m args meth c cc nL ret own G) {index : Nat} (hl : Cond.fieldLink own index "java/lang/String" "COMPACT_STRINGS" "Z" ∈ GW) (hd : decode cc pc = .ok (.getstatic index, 3)) (k : Z p l e R s m args below meth c nL G Q K cells slots M (pc + 3) lv (.int 1 :: st)) : Z p l e R s m args below meth c nL G Q K cells slots M pc lv (st) := fun H locs ls h1 h2 h3 => va_gets C.1 C.2.1 C.2.2.2.2.2.2.2.1.2.1.2.1 h2 C.2.2.2.1 (C.2.2.2.2.1 _ hl) (fun _ h => h) hd (k H locs ls h1 h2 h3)
theorem z_former (C : CX p s m args meth c cc nL ret own G) {index : Nat} (hl : Cond.fieldLink own index "jdk/internal/util/Preconditions" "SIOOBE_FORMATTER" "Ljava/util/function/BiFunction;" ∈ GW) (hd : decode cc pc = .ok (.getstatic index, 3)) (k : ∀ o : Option Nat, Z p l e R s m args below meth c nL G Q K cells slots M (pc + 3) lv (va_rf o :: st)) : Z p l e R s m args below meth c nL G Q K cells slots M pc lv (st) := fun H locs ls h1 h2 h3 => by
  rcases C.2.2.2.2.2.2.2.1.2.1.2.2 with h | ⟨t, h⟩
  · exact va_gets C.1 C.2.1 h h2 C.2.2.2.1 (C.2.2.2.2.1 _ hl) (fun _ h => h) hd (k none H locs ls h1 h2 h3)
  · exact va_gets C.1 C.2.1 h h2 C.2.2.2.1 (C.2.2.2.2.1 _ hl) (fun _ h => h) hd (k (some t) H locs ls h1 h2 h3)
theorem z_i2c (C : CX p s m args meth c cc nL ret own G) {x : Int32} (hd : decode cc pc = .ok (.i2c, 1)) (k : Z p l e R s m args below meth c nL G Q K cells slots M (pc + 1) lv (.int (x.toUInt32 % 65536).toInt32 :: st)) : Z p l e R s m args below meth c nL G Q K cells slots M pc lv (.int x :: st) := fun H locs ls h1 h2 h3 => lv_i2c C.1 C.2.1 hd rfl (k H locs ls h1 h2 h3)
theorem z_cT1 (C : CX p s m args meth c cc nL ret own G) {y : MethodName} {cc2 : ByteArray} {maxL2 : Nat} {ret2 : Option FieldType} {d n index : Nat} {M2 : MM} {v : Value} {As : List Value} (rest : List Value) (w : Nat) (hw21 : w < 21) {st0 : List Value} (hM : Ct l y cc2 maxL2 ret2 d 0 0 G K M (.ref (G.2.2.2 (100 + w)) :: As) (some v) K M2) (hw : LkV y cc2 maxL2 ret2 n) (hy : y.cls = "java/lang/String") (hl : Cond.methodLink own index y ∈ GW) (hn : As.length = n) (hR : d + 1 ≤ R.frames ∧ 8 + (maxL2 + 11) + 40 * d ≤ R.locals) (hs : st0 = As.reverse ++ .ref (G.2.2.2 (100 + w)) :: rest) (hrest : (rest.map fun v => v.category).sum ≤ 8) (hcs : cells ≤ R.cells ∧ slots ≤ R.slots) (hd : decode cc pc = .ok (.invokevirtual index, 3)) (kk : Z p l e R s m args below meth c nL G Q K cells slots M2 (pc + 3) lv (v :: rest)) : Z p l e R s m args below meth c nL G Q K cells slots M pc lv st0 := fun H locs ls h1 h2 h3 => by
  refine z_run (o := some v) (mc := 0) (ms := 0) (va_runV (As := As) (rest := rest) (b := G.2.2.2 (100 + w)) ⟨C.1, C.2.1, C.2.2.1, C.2.2.2.1, C.2.2.2.2.1⟩ hM (cwV (C := y.cls) n C.2.2.2.2.1 ?_ rfl rfl rfl ⟨rfl, hw.2.2.2.2⟩ hR) ⟨wd_blind, by rw [hy]; exact vk_recv (adK := fun w => G.2.2.2 (100 + w)) (i := w) C.2.2.2.2.2.2.2.1.2.1.1 hw21 h2, fun U hU hW => ⟨rfl, Wd.at C h1 h2 hU hW⟩⟩ rfl hn h3.1 hs (lv_room hrest) hd hcs) h2 h3 kk
  intro x hx
  rcases List.mem_append.mp hx with h | h
  · simp only [List.mem_cons, List.not_mem_nil, or_false] at h
    rcases h with rfl | rfl | rfl | rfl
    · exact gw_good hl
    · exact gw_good hw.2.1
    · exact gw_good hw.2.2.1
    · exact gw_good hw.2.2.2.1
  · rcases List.mem_cons.mp h with rfl | h
    · exact gw_good hw.1
    · exact gw_good h
theorem z_sret (C : CX p s m args meth c cc nL ret own G) {C0 : String} (hr : ret = some (.object C0)) {a : Nat} (hd : decode cc pc = .ok (.areturn, 1)) : Z p l e R s m args below meth c nL G (MQ below (QC G (some (.ref a)) K M) args s cells slots (AG G)) K cells slots M pc lv (.ref a :: []) := fun H locs ls h1 h2 h3 => W.aret C.1 C.2.1 (C.2.2.2.2.2.2.2.2.1.trans hr) (Or.inl ⟨C0, rfl⟩) (Or.inr ⟨a, rfl⟩) (fun t ht hW => ⟨rfl, Wd.at C h1 h2 ht hW, h2.F ht⟩) h2.2.2 hd C.2.2.2.2.2.2.2.2.2
/-! ===== what is made ===== -/
def kNew (K : SK) (kd ln : Nat) : SK := (K.1 + 1, fun c => if c = K.1 then (kd, ln) else K.2.1 c, fun c => if c = K.1 then fun _ => none else K.2.2 c)
def zM (M : MM) (n : Nat) : MM := (fun c => if c = n then fun _ => 0 else M.1 c, fun c => if c = n then fun _ => 0 else M.2 c)
def kSet (K : SK) (a k b : Nat) : SK := (K.1, K.2.1, fun c => if c = a then (fun j => if j = k then some b else K.2.2 a j) else K.2.2 c)
theorem kE_new_ne {kd ln b : Nat} (h : b ≠ K.1) : kE G (kNew K kd ln) (zM M K.1) b = kE G K M b := by
  have hf : ∀ ci, fval G (kNew K kd ln) (zM M K.1) b ci = fval G K M b ci := fun ci => by
    funext k
    simp [fval, gI, gL, kNew, zM, h]
  have hk : ∀ kd2, kA G (kNew K kd ln) (zM M K.1) b kd2 = kA G K M b kd2 := fun kd2 => by simp [kA, kNew, zM, h]
  have hs : (kNew K kd ln).2.1 b = K.2.1 b := by simp [kNew, h]
  simp only [kE, hs, hf, hk]
theorem kE_set_ne {a k b c0 : Nat} (h : c0 ≠ a) : kE G (kSet K a k b) M c0 = kE G K M c0 := by
  have hf : ∀ ci, fval G (kSet K a k b) M c0 ci = fval G K M c0 ci := fun ci => by
    funext j
    simp [fval, gI, gL, kSet, h]
  have hk : ∀ kd2, kA G (kSet K a k b) M c0 kd2 = kA G K M c0 kd2 := fun kd2 => by simp [kA, kSet, h]
  have hs : (kSet K a k b).2.1 c0 = K.2.1 c0 := rfl
  simp only [kE, hs, hf, hk]
theorem Sm.new {kd ln : Nat} {H H1 : Heap} (h : Sm G K M H) (z : H1.size = G.1 + K.1 + 1) (ho : ∀ q, q < G.1 + K.1 → H1[q]? = H[q]?) (hat : va_at G.2.1 classes (G.1 + K.1, kE G (kNew K kd ln) (zM M K.1) K.1) H1) : Sm G (kNew K kd ln) (zM M K.1) H1 := by
  refine ⟨by rw [z]; show G.1 + K.1 + 1 = G.1 + (K.1 + 1); omega, fun k q hq => ?_⟩
  have hk : k < K.1 + 1 := by
    have := (List.getElem?_eq_some_iff.mp hq).1
    simpa [wsOf, kNew] using this
  rw [ws_at (show k < (kNew K kd ln).1 from hk)] at hq
  cases hq
  rcases Nat.lt_or_ge k K.1 with hl | hl
  · rw [kE_new_ne (by omega)]
    exact (h.2 k _ (ws_at hl)).kept (ho _ (by show G.1 + k < _; omega))
  · rw [show k = K.1 by omega]
    exact hat
theorem va_S.new {H H1 : Heap} {locs : List Loc} {n : Nat} (h : va_S (AG G) s.heap H locs) (hn : H.size = n) (z : H1.size = n + 1) (ho : ∀ q, q < n → H1[q]? = H[q]?) : va_S (AG G) s.heap H1 locs := ⟨by rw [z]; have := h.1; omega, fun q h1 h2 => by rw [ho q (by have := h.1; omega)]; exact h.2.1 q h1 h2, h.2.2⟩
def dfl (t : FieldType) : Value := match fkOf t with
  | 1 => .long 0
  | 2 => .null
  | _ => .int 0
theorem z_new (C : CX p s m args meth c cc nL ret own G) {C0 : String} {T : u_T} {ci index : Nat} (ho : clOk ci C0 T) (hcl : Cond.classLink own index C0 ∈ GW) (hinst : Cond.instantiable C0 (nfl ci) ∈ GW) (hini : Cond.initialized C0 ∈ GW) (hdf : ∀ k, k < nfl ci → defaultValue (fty ci k) = dfl (fty ci k)) (hc : cells + 1 ≤ R.cells) (hs : slots + nfl ci ≤ R.slots) (hd : decode cc pc = .ok (.new index, 3)) (kk : Z p l e R s m args below meth c nL G Q (kNew K ci 0) (cells + 1) (slots + nfl ci) (zM M K.1) (pc + 3) lv (.ref (G.1 + K.1) :: st)) : Z p l e R s m args below meth c nL G Q K cells slots M pc lv (st) := fun H locs ls h1 h2 h3 => by
  have hts := C.2.2.2.2.1
  have hKn := C.2.2.2.2.2.1.1 ci _ ho.1
  refine W.newcK C.1 C.2.1 C.2.2.2.1 (hts _ hcl) (hts _ hinst) (hts _ hini) rfl hd hc hs hKn.2.1 (h := G.1 + K.1) h1.1 fun H1 kC hkC e1 z1 o1 => ?_
  refine kk H1 locs ls (h1.new z1 o1 ?_) (va_S.new h2 h1.1 z1 o1) h3
  rw [kE_obj (K := kNew K ci 0) (ci := ci) (ln := 0) ⟨by show K.1 < K.1 + 1; omega, by simp [kNew]⟩ ho.2.2.2.2]
  refine ⟨_, ho.1, (u_born (fty ci) hts ho.2.1 hKn hkC e1 ho.2.2.1).to (fun j hj => ?_)⟩
  have e2 : vp_V ((List.range (nfl ci)).map (fval G (kNew K ci 0) (zM M K.1) K.1 ci)) j = fval G (kNew K ci 0) (zM M K.1) K.1 ci j := by simp [vp_V, show j < nfl ci from hj]
  rw [e2, hdf j hj]
  simp only [dfl, fval, kNew, zM, gI, gL, if_true]
  generalize fkOf (fty ci j) = q
  rcases q with _ | _ | _ | q <;> rfl
theorem z_newai (C : CX p s m args meth c cc nL ret own G) {n : Int32} (N : Nat) (hcl : Cond.arrayClass .int ∈ GW) (hn : ¬ n < 0) (hN : n.toNatClampNeg = N) (hbt : N * componentBytes .int ≤ 536870912) (hc : cells + 1 ≤ R.cells) (hs : slots + N ≤ R.slots) (hd : decode cc pc = .ok (.newarray .int, 2)) (kk : Z p l e R s m args below meth c nL G Q (kNew K 20 N) (cells + 1) (slots + N) (zM M K.1) (pc + 2) lv (.ref (G.1 + K.1) :: st)) : Z p l e R s m args below meth c nL G Q K cells slots M pc lv (.int n :: st) := fun H locs ls h1 h2 h3 => by
  have hts := C.2.2.2.2.1
  refine va_newaK C.1 C.2.1 (atype := .int) (hts _ hcl) rfl hd rfl hn hN hbt hc hs (h := G.1 + K.1) h1.1 fun H1 cA e1 z1 o1 hAr hNm => ?_
  have hcA : cA = G.2.2.1 20 := Option.some.inj (hNm.symm.trans (C.2.2.2.2.2.1.2 0 _ rfl).2)
  refine kk H1 locs ls (h1.new z1 o1 ?_) (va_S.new h2 h1.1 z1 o1) h3
  rw [kE_arr (K := kNew K 20 N) (kd := 20) (ln := N) ⟨by show K.1 < K.1 + 1; omega, by simp [kNew]⟩ (by decide)]
  show H1[G.1 + K.1]? = some (vp_cell _ _)
  rw [e1, hcA]
  simp [kA, zM, vp_cell]
  rfl
theorem z_newal (C : CX p s m args meth c cc nL ret own G) {n : Int32} (N : Nat) (hcl : Cond.arrayClass .long ∈ GW) (hn : ¬ n < 0) (hN : n.toNatClampNeg = N) (hbt : N * componentBytes .long ≤ 536870912) (hc : cells + 1 ≤ R.cells) (hs : slots + N ≤ R.slots) (hd : decode cc pc = .ok (.newarray .long, 2)) (kk : Z p l e R s m args below meth c nL G Q (kNew K 21 N) (cells + 1) (slots + N) (zM M K.1) (pc + 2) lv (.ref (G.1 + K.1) :: st)) : Z p l e R s m args below meth c nL G Q K cells slots M pc lv (.int n :: st) := fun H locs ls h1 h2 h3 => by
  have hts := C.2.2.2.2.1
  refine va_newaK C.1 C.2.1 (atype := .long) (hts _ hcl) rfl hd rfl hn hN hbt hc hs (h := G.1 + K.1) h1.1 fun H1 cA e1 z1 o1 hAr hNm => ?_
  have hcA : cA = G.2.2.1 21 := Option.some.inj (hNm.symm.trans (C.2.2.2.2.2.1.2 1 _ rfl).2)
  refine kk H1 locs ls (h1.new z1 o1 ?_) (va_S.new h2 h1.1 z1 o1) h3
  rw [kE_arr (K := kNew K 21 N) (kd := 21) (ln := N) ⟨by show K.1 < K.1 + 1; omega, by simp [kNew]⟩ (by decide)]
  show H1[G.1 + K.1]? = some (vp_cell _ _)
  rw [e1, hcA]
  simp [kA, zM, vp_cell]
  rfl
theorem z_newab (C : CX p s m args meth c cc nL ret own G) {n : Int32} (N : Nat) (hcl : Cond.arrayClass .byte ∈ GW) (hn : ¬ n < 0) (hN : n.toNatClampNeg = N) (hbt : N * componentBytes .byte ≤ 536870912) (hc : cells + 1 ≤ R.cells) (hs : slots + N ≤ R.slots) (hd : decode cc pc = .ok (.newarray .byte, 2)) (kk : Z p l e R s m args below meth c nL G Q (kNew K 22 N) (cells + 1) (slots + N) (zM M K.1) (pc + 2) lv (.ref (G.1 + K.1) :: st)) : Z p l e R s m args below meth c nL G Q K cells slots M pc lv (.int n :: st) := fun H locs ls h1 h2 h3 => by
  have hts := C.2.2.2.2.1
  refine va_newaK C.1 C.2.1 (atype := .byte) (hts _ hcl) rfl hd rfl hn hN hbt hc hs (h := G.1 + K.1) h1.1 fun H1 cA e1 z1 o1 hAr hNm => ?_
  have hcA : cA = G.2.2.1 22 := Option.some.inj (hNm.symm.trans (C.2.2.2.2.2.1.2 2 _ rfl).2)
  refine kk H1 locs ls (h1.new z1 o1 ?_) (va_S.new h2 h1.1 z1 o1) h3
  rw [kE_arr (K := kNew K 22 N) (kd := 22) (ln := N) ⟨by show K.1 < K.1 + 1; omega, by simp [kNew]⟩ (by decide)]
  show H1[G.1 + K.1]? = some (vp_cell _ _)
  rw [e1, hcA]
  simp [kA, zM, vp_cell]
  rfl
theorem z_newaz (C : CX p s m args meth c cc nL ret own G) {n : Int32} (N : Nat) (hcl : Cond.arrayClass .boolean ∈ GW) (hn : ¬ n < 0) (hN : n.toNatClampNeg = N) (hbt : N * componentBytes .boolean ≤ 536870912) (hc : cells + 1 ≤ R.cells) (hs : slots + N ≤ R.slots) (hd : decode cc pc = .ok (.newarray .boolean, 2)) (kk : Z p l e R s m args below meth c nL G Q (kNew K 23 N) (cells + 1) (slots + N) (zM M K.1) (pc + 2) lv (.ref (G.1 + K.1) :: st)) : Z p l e R s m args below meth c nL G Q K cells slots M pc lv (.int n :: st) := fun H locs ls h1 h2 h3 => by
  have hts := C.2.2.2.2.1
  refine va_newaK C.1 C.2.1 (atype := .boolean) (hts _ hcl) rfl hd rfl hn hN hbt hc hs (h := G.1 + K.1) h1.1 fun H1 cA e1 z1 o1 hAr hNm => ?_
  have hcA : cA = G.2.2.1 23 := Option.some.inj (hNm.symm.trans (C.2.2.2.2.2.1.2 3 _ rfl).2)
  refine kk H1 locs ls (h1.new z1 o1 ?_) (va_S.new h2 h1.1 z1 o1) h3
  rw [kE_arr (K := kNew K 23 N) (kd := 23) (ln := N) ⟨by show K.1 < K.1 + 1; omega, by simp [kNew]⟩ (by decide)]
  show H1[G.1 + K.1]? = some (vp_cell _ _)
  rw [e1, hcA]
  simp [kA, zM, vp_cell]
  rfl
theorem z_anewa (C : CX p s m args meth c cc nL ret own G) {index : Nat} {n : Int32} (kd t0 : Nat) (C0 : String) (N : Nat) (hcl : Cond.classLink own index C0 ∈ GW) (hov : C0 ∈ aoL) (hkd : 24 ≤ kd) (ht : (tysOf G)[t0]? = some (G.2.2.1 kd, .object C0)) (hn : ¬ n < 0) (hN : n.toNatClampNeg = N) (hbt : N * 4 ≤ 536870912) (hc : cells + 1 ≤ R.cells) (hs : slots + N ≤ R.slots) (hd : decode cc pc = .ok (.anewarray index, 3)) (kk : Z p l e R s m args below meth c nL G Q (kNew K kd N) (cells + 1) (slots + N) (zM M K.1) (pc + 3) lv (.ref (G.1 + K.1) :: st)) : Z p l e R s m args below meth c nL G Q K cells slots M pc lv (.int n :: st) := fun H locs ls h1 h2 h3 => by
  have hts := C.2.2.2.2.1
  subst hN
  refine W.anew C.1 C.2.1 C.2.2.2.1 (hts _ hcl) (va_AO.use (C.2.2.2.2.2.2.2.1.2.2.2 C0 hov)) rfl hd rfl hn hbt hc hs fun cA kA0 comp f1 f2 f3 f4 => ?_
  have hcA : cA = G.2.2.1 kd := by
    obtain ⟨kA1, comp1, g1, g2, g3, g4⟩ := (C.2.2.2.2.2.1.2 t0 _ ht).2
    exact Option.some.inj (f1.symm.trans g4)
  have z1 : (H.push ({ cls := cA, slots := Array.replicate n.toNatClampNeg .null, vm := .none } : Cell)).size = G.1 + K.1 + 1 := by rw [Array.size_push, h1.1]
  have e1 : (H.push ({ cls := cA, slots := Array.replicate n.toNatClampNeg .null, vm := .none } : Cell))[G.1 + K.1]? = some (arrV cA n.toNatClampNeg (fun _ => .null)) := by rw [← h1.1, Array.getElem?_push_size, ← arrV_new]
  have o1 : ∀ q : Nat, q < G.1 + K.1 → (H.push ({ cls := cA, slots := Array.replicate n.toNatClampNeg .null, vm := .none } : Cell))[q]? = H[q]? := fun q hq => by rw [Array.getElem?_push, if_neg (by rw [h1.1]; omega)]
  rw [show H.size = G.1 + K.1 from h1.1]
  refine kk _ locs ls (h1.new z1 o1 ?_) (va_S.new h2 h1.1 z1 o1) h3
  rw [kE_arr (K := kNew K kd n.toNatClampNeg) (kd := kd) (ln := n.toNatClampNeg) ⟨by show K.1 < K.1 + 1; omega, by simp [kNew]⟩ (by omega)]
  show _ = some (vp_cell _ _)
  rw [e1, hcA]
  simp only [kA, if_neg (show ¬ kd = 21 by omega), if_pos hkd, vp_cell, kNew, if_true]
  rfl
theorem z_putR (C : CX p s m args meth c cc nL ret own G) {C0 : String} {T : u_T} {ci ln index a b : Nat} (ho : clOk ci C0 T) (ha : isC K a ci ln) (k : Nat) (hk : k < nfl ci) (hfk : fkOf (fty ci k) = 2) (hfin : (T k).2.2.2 = false) (hn : narrow (fty ci k) (.ref (G.1 + b)) = .ref (G.1 + b)) (hfit : fits (fty ci k) (.ref (G.1 + b)) = true) (hl : Cond.fieldLink own index (T k).1 (T k).2.1 (T k).2.2.1 ∈ GW) (hd : decode cc pc = .ok (.putfield index, 3)) (kk : Z p l e R s m args below meth c nL G Q (kSet K a k b) cells slots M (pc + 3) lv (st)) : Z p l e R s m args below meth c nL G Q K cells slots M pc lv (.ref (G.1 + b) :: .ref (G.1 + a) :: st) := fun H locs ls h1 h2 h3 => by
  have hts := C.2.2.2.2.1
  have hK := C.2.2.2.2.2.1
  obtain ⟨hc, hin, hty, hnm, hci⟩ := ho
  have hap := va_apart hts hin (fty ci) hty hnm hK hc (own := own)
  obtain ⟨r, e1, cell, q1, q2, q3, q4⟩ := h1.2 a _ (ws_obj ha hci)
  have hr : r = (C0, T, nfl ci) := Option.some.inj (e1.symm.trans hc)
  subst hr
  obtain ⟨hS, hfc, kC, hkC, hkind⟩ := hK.1 ci _ hc
  obtain ⟨cf, kf, fi, f, hi, hsl⟩ := hS k hk
  have hlay := hts _ (hin _ (u_in_lay hk))
  unfold u_lay at hlay
  rw [if_neg (by rw [hfin]; decide)] at hlay
  have hst := (u_facts hfc hkC (u_lays hts hin hk) hi).1
  have h6 := u_store hfc hkC hkind hlay hi (hty k hk) hn hfit
  refine W.putK C.1 C.2.1 (f := f) ⟨C.2.2.2.1, hts _ hl, ⟨_, _, _, hi⟩, hst⟩ (by rw [q2]; exact h6) q1 q3 (by rw [hsl]; exact k2_hasslot (q4 k hk)) rfl rfl hd fun H1 z1 z2 oq => ?_
  rw [hsl] at z1 ⊢
  have hE : kE G (kSet K a k b) M a = .inr (ci, ((List.range (nfl ci)).map (fval G K M a ci)).set k (.ref (G.1 + b))) := by
    rw [kE_obj (K := kSet K a k b) (ln := ln) ha hci, range_set (nfl ci) k (fval G K M a ci) (fval G (kSet K a k b) M a ci) (.ref (G.1 + b))]
    · simp only [fval, hfk, kSet, if_true]
      rfl
    · intro j hj
      simp [fval, gI, gL, kSet, hj]
  refine kk H1 _ ls ⟨z2.trans h1.1, ?_⟩ (h2.put z2 oq (Nat.le_add_right _ _)) h3
  have h9 := h1.2.set (ws_D G K M) (ws_at ha.1) (show va_at G.2.1 classes (G.1 + a, .inr (ci, ((List.range (nfl ci)).map (fval G K M a ci)).set k (.ref (G.1 + b)))) H1 from ⟨_, hc, t_OB.to (V := updV (vp_V ((List.range (nfl ci)).map (fval G K M a ci))) k (.ref (G.1 + b))) ⟨_, z1, q2, q3, t_set q4 hap hk (.ref (G.1 + b))⟩ (fun j _ => vp_updV_set (by rw [fs_len]; exact hk) (.ref (G.1 + b)) j)⟩) oq
  rwa [ws_set (K := K) (M := M) (M' := M) (K' := kSet K a k b) rfl ha.1 hE (fun c0 _ hc0 => kE_set_ne hc0)] at h9
theorem z_putRF (C : CX p s m args meth c cc nL ret own G) {C0 : String} {T : u_T} {ci ln index a b : Nat} (ho : clOk ci C0 T) (ha : isC K a ci ln) (k : Nat) (hk : k < nfl ci) (hfk : fkOf (fty ci k) = 2) (hfin : (T k).2.2.2 = true) (hin2 : meth.name = "<init>") (hdecl : (T k).1 = own) (hn : narrow (fty ci k) (.ref (G.1 + b)) = .ref (G.1 + b)) (hfit : fits (fty ci k) (.ref (G.1 + b)) = true) (hl : Cond.fieldLink own index (T k).1 (T k).2.1 (T k).2.2.1 ∈ GW) (hd : decode cc pc = .ok (.putfield index, 3)) (kk : Z p l e R s m args below meth c nL G Q (kSet K a k b) cells slots M (pc + 3) lv (st)) : Z p l e R s m args below meth c nL G Q K cells slots M pc lv (.ref (G.1 + b) :: .ref (G.1 + a) :: st) := fun H locs ls h1 h2 h3 => by
  have hts := C.2.2.2.2.1
  have hK := C.2.2.2.2.2.1
  obtain ⟨hc, hin, hty, hnm, hci⟩ := ho
  have hap := va_apart hts hin (fty ci) hty hnm hK hc (own := own)
  obtain ⟨r, e1, cell, q1, q2, q3, q4⟩ := h1.2 a _ (ws_obj ha hci)
  have hr : r = (C0, T, nfl ci) := Option.some.inj (e1.symm.trans hc)
  subst hr
  obtain ⟨hS, hfc, kC, hkC, hkind⟩ := hK.1 ci _ hc
  obtain ⟨cf, kf, fi, f, hi, hsl⟩ := hS k hk
  have hlay := hts _ (hin _ (u_in_lay hk))
  unfold u_lay at hlay
  rw [if_pos hfin] at hlay
  have hst := (u_facts hfc hkC (u_lays hts hin hk) hi).1
  have hcf : m.cls = cf := by
    obtain ⟨_, _, c', _, _, _, -, -, hf', -, -, -, hown2, -⟩ := Cond.laysFinal_spec hlay
    have e1 : c' = cf := by have := hi.symm.trans hf'; simp at this; exact this.1.symm
    rw [hdecl] at hown2
    rw [← e1]; exact Option.some.inj (C.2.2.2.1.symm.trans hown2)
  have h6 := u_fits hfc hkC hkind (Or.inr hlay) hi (hty k hk) hn hfit
  refine W.putFinK C.1 C.2.1 C.2.2.2.1 (hts _ hl) hi hst hcf hin2 (by rw [q2]; exact h6) q1 q3 (by rw [hsl]; exact k2_hasslot (q4 k hk)) rfl rfl hd fun H1 z1 z2 oq => ?_
  rw [hsl] at z1 ⊢
  have hE : kE G (kSet K a k b) M a = .inr (ci, ((List.range (nfl ci)).map (fval G K M a ci)).set k (.ref (G.1 + b))) := by
    rw [kE_obj (K := kSet K a k b) (ln := ln) ha hci, range_set (nfl ci) k (fval G K M a ci) (fval G (kSet K a k b) M a ci) (.ref (G.1 + b))]
    · simp only [fval, hfk, kSet, if_true]
      rfl
    · intro j hj
      simp [fval, gI, gL, kSet, hj]
  refine kk H1 _ ls ⟨z2.trans h1.1, ?_⟩ (h2.put z2 oq (Nat.le_add_right _ _)) h3
  have h9 := h1.2.set (ws_D G K M) (ws_at ha.1) (show va_at G.2.1 classes (G.1 + a, .inr (ci, ((List.range (nfl ci)).map (fval G K M a ci)).set k (.ref (G.1 + b)))) H1 from ⟨_, hc, t_OB.to (V := updV (vp_V ((List.range (nfl ci)).map (fval G K M a ci))) k (.ref (G.1 + b))) ⟨_, z1, q2, q3, t_set q4 hap hk (.ref (G.1 + b))⟩ (fun j _ => vp_updV_set (by rw [fs_len]; exact hk) (.ref (G.1 + b)) j)⟩) oq
  rwa [ws_set (K := K) (M := M) (M' := M) (K' := kSet K a k b) rfl ha.1 hE (fun c0 _ hc0 => kE_set_ne hc0)] at h9
theorem z_aast (C : CX p s m args meth c cc nL ret own G) {a b ln kd ci lb : Nat} {i : Int32} {r : vw_C} (t0 : Nat) (ha : isC K a kd ln) (hkd : 24 ≤ kd) (hb : isC K b ci lb) (hci : ci < 13) (hc : classes[ci]? = some r) (ht : (tysOf G)[t0]? = some (G.2.2.1 kd, .object r.1)) (hin : vp_in i ln) (hd : decode cc pc = .ok (.aastore, 1)) (kk : Z p l e R s m args below meth c nL G Q (kSet K a i.toNatClampNeg b) cells slots M (pc + 1) lv (st)) : Z p l e R s m args below meth c nL G Q K cells slots M pc lv (.ref (G.1 + b) :: .int i :: .ref (G.1 + a) :: st) := fun H locs ls h1 h2 h3 => by
  have hK := C.2.2.2.2.2.1
  have hlt : i.toNatClampNeg < ln := Nat.not_le.mp fun q => hin (Or.inr q)
  have h0 : ¬ i < 0 := fun q => hin (Or.inl q)
  have hat : va_at G.2.1 classes (G.1 + a, .inl (G.2.2.1 kd, ln, .inr (.inr (.inr (.inr (fun j => (K.2.2 a j).map (G.1 + ·))))))) H := by
    have h8 := h1.2 a _ (ws_arr ha (by omega))
    simp only [kA, if_neg (show ¬ kd = 21 by omega), if_pos hkd] at h8
    exact h8
  obtain ⟨r', hr', cellV, g1, g2, g3, -⟩ := h1.2 b _ (ws_obj hb hci)
  have hcls := (hK.1 ci r hc).2
  obtain ⟨kA0, comp, k1, k2, k3, -⟩ := (hK.2 t0 _ ht).2
  have hcomp : comp = G.2.1.1 ci := Option.some.inj (k3.symm.trans hcls.1)
  subst hcomp
  obtain ⟨kC, hkC, -⟩ := hcls.2
  refine W.aast C.1 C.2.1 hat (fun q h => by cases h) (fun h => by cases h) k1 k2 rfl hkC ⟨h0, by show _ < (arrV _ _ _).slots.size; rw [arrV_size]; exact hlt⟩ g1 (fun q h => by rw [g3] at h; cases h) (by rw [g2]; exact hkC) (by rw [g2]; exact va_assign hcls) rfl rfl hd fun H1 e1 z oq => ?_
  refine kk H1 _ ls ⟨z.trans h1.1, ?_⟩ (h2.put z oq (Nat.le_add_right _ _)) h3
  have h9 := h1.2.set (ws_D G K M) (ws_at ha.1) (show va_at G.2.1 classes (G.1 + a, kE G (kSet K a i.toNatClampNeg b) M a) H1 from ?_) oq
  · rwa [ws_set (K := K) (M := M) (M' := M) (K' := kSet K a i.toNatClampNeg b) rfl ha.1 rfl (fun c0 _ hc0 => kE_set_ne hc0)] at h9
  · rw [kE_arr (K := kSet K a i.toNatClampNeg b) (ln := ln) ha (by omega)]
    show H1[G.1 + a]? = some (vp_cell _ _)
    rw [e1, vp_cell_q, arrV_store]
    simp only [kA, if_neg (show ¬ kd = 21 by omega), if_pos hkd, vp_cell]
    congr 2
    funext q
    by_cases hq : q = i.toNatClampNeg
    · subst hq
      simp [updV, kSet, va_rf]
    · simp [updV, kSet, hq]
theorem z_objInit (C : CX p s m args meth c cc nL ret own G) {index a : Nat} (hl : Cond.methodLink own index objectInit ∈ GW) (hi : Cond.instanceMethod objectInit ∈ GW) (hc : Cond.code objectInit ⟨#[0xb1]⟩ 1 none ∈ GW) (hd : decode cc pc = .ok (.invokespecial index, 3)) (hfr : 1 ≤ R.frames) (hlo : (st.map fun v => v.category).sum + 12 ≤ R.locals) (k : Z p l e R s m args below meth c nL G Q K cells slots M (pc + 3) lv (st)) : Z p l e R s m args below meth c nL G Q K cells slots M pc lv (.ref a :: st) := fun H locs ls h1 h2 h3 => W.objInit C.1 C.2.1 C.2.2.2.1 (C.2.2.2.2.1 _ hl) (C.2.2.2.2.1 _ hi) (C.2.2.2.2.1 _ hc) rfl (by rw [C.2.2.1]; exact h3.1) rfl hd hfr (by show 2 * 0 + _ + 12 ≤ _; omega) (k H locs ls h1 h2 h3)
theorem z_widen {k n : Nat} (h1 : cells ≤ k) (h2 : slots ≤ n) (kk : Z p l e R s m args below meth c nL G Q K k n M pc lv (st)) : Z p l e R s m args below meth c nL G Q K cells slots M pc lv (st) := fun H locs ls g1 g2 g3 => W.widen h1 h2 (kk H locs ls g1 g2 g3)
/-! ===== words of the pure functions ===== -/
def bnd {α β : Type} (v : α) (f : α → β) : β := f v
theorem bnd_out {α β : Type} {v x : α} {f : α → β} {r : β} (h : x = v) (hf : bnd v f = r) : f x = r := by rw [h]; exact hf
def gd {α : Type} (b : Bool) (x : Option α) : Option α := if b = true then x else none
theorem gd_out {α : Type} {b : Bool} {x : Option α} {y : α} (h : gd b x = some y) : b = true ∧ x = some y := by
  unfold gd at h
  by_cases hb : b = true
  · rw [if_pos hb] at h; exact ⟨hb, h⟩
  · rw [if_neg hb] at h; cases h
theorem bd_out {α β : Type} {x : Option α} {f : α → Option β} {y : β} (h : x.bind f = some y) : ∃ a, x = some a ∧ f a = some y := Option.bind_eq_some_iff.mp h
theorem ite_t {α : Type} {q : Prop} [Decidable q] {A B x : α} (h : q) (hf : (if q then A else B) = x) : A = x := by rw [if_pos h] at hf; exact hf
theorem ite_f {α : Type} {q : Prop} [Decidable q] {A B x : α} (h : ¬ q) (hf : (if q then A else B) = x) : B = x := by rw [if_neg h] at hf; exact hf
def inb (i : Int32) (n : Nat) : Bool := decide (¬ (i < 0 ∨ n ≤ i.toNatClampNeg))
theorem inb_in {i : Int32} {n : Nat} (h : inb i n = true) : vp_in i n := of_decide_eq_true (p := ¬ (i < 0 ∨ n ≤ i.toNatClampNeg)) h
def nz (y : Int32) : Bool := decide (¬ y = 0)
theorem nz_ne {y : Int32} (h : nz y = true) : ¬ y = 0 := of_decide_eq_true h
def isb (v : Int32) : Bool := decide (v = 0 ∨ v = 1)
theorem isb_n {v : Int32} (h : isb v = true) : narrow .boolean (.int v) = .int v := by rcases of_decide_eq_true h with rfl | rfl <;> decide
theorem isb_f {v : Int32} (h : isb v = true) : fits .boolean (.int v) = true := by rcases of_decide_eq_true h with rfl | rfl <;> decide
abbrev ix (i : Int32) : Nat := i.toNatClampNeg
def fitB (M : MM) (a n : Nat) : Bool := (List.range n).all (fun i => fits .byte (.int (gI M a (0 + i))))
theorem fitB_at {M : MM} {a n : Nat} (h : fitB M a n = true) : ∀ i, i < n → fits .byte (.int (gI M a (0 + i))) = true := fun i hi => List.all_eq_true.mp h i (List.mem_range.mpr hi)
def FU : Nat := 5000
end ZROWS
