theorem nb0 : narrow .boolean (.int 0) = .int 0 := by decide
theorem nb1 : narrow .boolean (.int 1) = .int 1 := by decide
theorem nby0 : narrow .byte (.int 0) = .int 0 := by decide
theorem nby1 : narrow .byte (.int 1) = .int 1 := by decide
theorem ischr_n {v : Int32} (h : ischr v = true) : narrow .char (.int v) = .int v := of_decide_eq_true h
theorem tp_set {K : SK} : Tp (kSet K 41 6 39) := by simp [Tp, kSet]
theorem lay_set {K : SK} (h : Lay K) : Lay (kSet K 41 6 39) := by
  refine ⟨h.1, h.2.1, fun q hq => ?_⟩
  have hne : ¬ (q.1 = 41 ∧ q.2.1 = 6) := (show ∀ q ∈ refT, ¬ (q.1 = 41 ∧ q.2.1 = 6) by decide +kernel) q hq
  show (if q.1 = 41 then (fun j => if j = 6 then some 39 else K.2.2 41 j) else K.2.2 q.1) q.2.1 = some q.2.2
  by_cases h1 : q.1 = 41
  · rw [if_pos h1]
    show (if q.2.1 = 6 then some 39 else K.2.2 41 q.2.1) = some q.2.2
    rw [if_neg (fun e => hne ⟨h1, e⟩), ← h1]
    exact h.2.2 q hq
  · rw [if_neg h1]
    exact h.2.2 q hq
section
variable {p : Program} {l : Launch} {e : Env} {R : Room} {s : State} {m : MethodId} {args : Array Value} {below : List Frame} {meth : Method} {c : Code} {cc : ByteArray} {nL : Nat} {ret : Option FieldType} {own : String} {G : GG} {Q : State → Prop} {K : SK} {cells slots : Nat} {M : MM} {pc : Nat} {lv : List (Nat × Value)} {st : List Value}
theorem z_ifnullR (C : CX p s m args meth c cc nL ret own G) {x : Option Nat} {off : Int} (tgt : Nat) (hd : decode cc pc = .ok (.ifnull off, 3)) (ht : (pc : Int) + off = (tgt : Int)) (kt : x = none → Z p l e R s m args below meth c nL G Q K cells slots M tgt lv st) (kf : ¬ x = none → Z p l e R s m args below meth c nL G Q K cells slots M (pc + 3) lv st) : Z p l e R s m args below meth c nL G Q K cells slots M pc lv (rfv G x :: st) := z_ifnull C tgt hd ht (fun h => kt (by cases x with | none => rfl | some a => cases h)) (fun h => kf (fun q => h (by rw [q]; rfl)))
theorem z_ifnonnullR (C : CX p s m args meth c cc nL ret own G) {x : Option Nat} {off : Int} (tgt : Nat) (hd : decode cc pc = .ok (.ifnonnull off, 3)) (ht : (pc : Int) + off = (tgt : Int)) (kt : ¬ x = none → Z p l e R s m args below meth c nL G Q K cells slots M tgt lv st) (kf : x = none → Z p l e R s m args below meth c nL G Q K cells slots M (pc + 3) lv st) : Z p l e R s m args below meth c nL G Q K cells slots M pc lv (rfv G x :: st) := z_ifnonnull C tgt hd ht (fun h => kt (fun q => h (by rw [q]; rfl))) (fun h => kf (by cases x with | none => rfl | some a => cases h))
end
