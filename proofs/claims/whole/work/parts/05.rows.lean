def gtbl : List Cond := lw_tbl.filter goodWord
/-! my own rows over the kit's: one world hypothesis VW, one list of words gtbl for every method -/
abbrev classes : List vw_C := [(RX0, TX0, 15), (RX1, TX1, 5), (RX2, TX2, 11), (RX3, TX3, 12), (RX4, TX4, 7), (RX5, TX5, 6), (RX6, TX6, 7), (RX7, TX7, 2), (RX8, TX8, 6), (RX9, TX9, 5), (RX10, TX10, 4), (RX11, TX11, 16), (RX12, TX12, 68)]
def tyL (cs : Nat → ClassId) : List (ClassId × FieldType) := [(cs 0, .int), (cs 1, .byte), (cs 2, .long), (cs 3, .object "DyeVats$Recipe")]
abbrev WS (y : MethodName) (cc : ByteArray) (n : Nat) (r : Option FieldType) : List Cond := Cond.code y cc n r :: gtbl
theorem gt_good {w : Cond} (h : w ∈ gtbl) : goodWord w = true := (List.mem_filter.mp h).2
def nestM : List (String × Nat × MethodName × String) := [("DyeVats", 9, ⟨"DyeVats$Tape", "<init>", "()V"⟩, "DyeVats"), ("DyeVats", 29, ⟨"DyeVats$Recipe", "<init>", "()V"⟩, "DyeVats"), ("DyeVats", 36, ⟨"DyeVats$Spec", "<init>", "()V"⟩, "DyeVats"), ("DyeVats", 99, ⟨"DyeVats$Ledger", "<init>", "()V"⟩, "DyeVats"), ("DyeVats$Recipe", 51, ⟨"DyeVats", "within", "(III)Z"⟩, "DyeVats"), ("DyeVats$SpecReader", 59, ⟨"DyeVats", "within", "(III)Z"⟩, "DyeVats"), ("DyeVats$Course", 25, ⟨"DyeVats", "copyMeasures", "([I[I)V"⟩, "DyeVats"), ("DyeVats$Course", 93, ⟨"DyeVats", "within", "(III)Z"⟩, "DyeVats"), ("DyeVats$Tape", 19, ⟨"DyeVats", "within", "(III)Z"⟩, "DyeVats"), ("DyeVats$Paths", 108, ⟨"DyeVats", "copyMeasures", "([I[I)V"⟩, "DyeVats"), ("DyeVats$Paths", 122, ⟨"DyeVats", "within", "(III)Z"⟩, "DyeVats"), ("DyeVats$Ledger", 15, ⟨"DyeVats", "copyMeasures", "([I[I)V"⟩, "DyeVats")]
def NW (U : State) : Prop := ∀ q ∈ nestM, va_Nw (.methodLinkNest q.1 q.2.1 q.2.2.1 q.2.2.2) U
theorem NW.warm {s U : State} (hW : s.WarmedH U.vm) (h : NW s) : NW U := fun q hq => va_Nw.warmM hW (h q hq)
/-- the classes and array classes as the tables have them, and the nest's links -/
def KN (D : va_G) (cs : Nat → ClassId) (s : State) : Prop := va_K D classes (tyL cs) s ∧ NW s
theorem KN.warm {D : va_G} {cs : Nat → ClassId} {s U : State} (hW : s.WarmedH U.vm) (h : KN D cs s) : KN D cs U := ⟨va_K.moved hW.alike h.1, h.2.warm hW⟩
theorem gWS {y : MethodName} {cc : ByteArray} {n : Nat} {r : Option FieldType} (h : Cond.code y cc n r ∈ gtbl) : GoodIn gtbl (WS y cc n r) := by
  intro w hw
  have hm : w ∈ gtbl := by
    rcases List.mem_cons.mp hw with e | e
    · rw [e]; exact h
    · exact e
  exact ⟨hm, good_of_word (gt_good hm)⟩
/-- the world: what the cells hold, that they are apart, that nothing else has changed -/
def VW (D : va_G) (A : Nat → Prop) (H0 : Heap) (ws : va_W) (H : Heap) (locs : List Loc) : Prop := va_P D classes ws H ∧ va_D A ws ∧ va_S A H0 H locs
/-- a method's start -/
def PR (D : va_G) (cs : Nat → ClassId) (ws : va_W) (sz : Nat) : State → Prop := fun U => U.heap.size = sz ∧ va_P D classes ws U.heap ∧ KN D cs U ∧ va_D (fun _ => True) ws
/-- a method's end -/
def QI (D : va_G) (w1 : va_W) (A : Nat → Prop) (r : Int32) : Array Value → State → Outcome → State → Prop := va_Qi (fun (r' : Int32) (_ : Unit) => r' = r) (fun _ t => va_P D classes w1 t.heap ∧ va_D A w1) A
def QJ (D : va_G) (w1 : va_W) (A : Nat → Prop) (r : Int64) : Array Value → State → Outcome → State → Prop := va_Ql (fun (r' : Int64) (_ : Unit) => r' = r) (fun _ t => va_P D classes w1 t.heap ∧ va_D A w1) A
def QV (D : va_G) (w1 : va_W) (A : Nat → Prop) : Array Value → State → Outcome → State → Prop := va_Qv (fun (_ : Unit) => True) (fun _ t => va_P D classes w1 t.heap ∧ va_D A w1) A
theorem pr_blind {D : va_G} {cs : Nat → ClassId} {ws : va_W} {sz : Nat} {av : List Value} : FrameBlind (va_Pc av (PR D cs ws sz)) := by
  intro a U g mk q
  obtain ⟨q0, q1, qP, qK, qD⟩ := q
  exact ⟨q0, q1, qP, ⟨va_K.moved (u := U) (U := U.calling g mk a) (Vm.Alike.refl U.vm) qK.1, fun x hx => va_Nw.same (u := U) rfl rfl (qK.2 x hx)⟩, qD⟩
theorem met_of {l : Launch} {y : MethodName} {cc : ByteArray} {maxL : Nat} {ret : Option FieldType} {rm : Room} {av : List Value} {ws : va_W} {sz : Nat} {D : va_G} {cs : Nat → ClassId} {Qc : Array Value → State → Outcome → State → Prop} (own : String) (hyc : y.cls = own) (hy : plainName y.cls = true) (hlen : (lg_sl av).length ≤ maxL)
    (body : ∀ (p : Program) (e : Env) (s : State) (m : MethodId) (args : Array Value) (below : List Frame) (meth : Method) (c : Code), CallFix p m c cc maxL s args gtbl own → meth.sig.returnType = ret → meth.locks = false → KN D cs s → s.heap.size = sz → (∀ q : Nat, s.heap.size ≤ q → va_A ws sz q) → VW D (va_A ws sz) s.heap ws s.heap [] → ∀ ls : Array Slot, lv_has ls maxL (lv_args 0 av) → W p l e rm s m args below meth c s.heap [] 0 0 (MQ below Qc args s 0 0 (va_A ws sz)) (F0 m 0 ls [])) :
    Met l y (WS y cc maxL ret) rm (va_Pc av (PR D cs ws sz)) Qc 0 0 (va_A ws sz) := by
  refine Met.ofW (cc := cc) (maxL := maxL) (ret := ret) hy rfl ?_
  intro p e s m args below meth c s₁ B hml hv
  obtain ⟨rfl, hsz, hP, hK, hD0⟩ := hv
  have hts := atoms_spec (ws := WS y cc maxL ret) B.pre
  have hown : s.vm.findClass y.cls = some m.cls := findClass_of_methodNamed B.named
  rw [hyc] at hown
  rw [lg_entry_eq]
  exact body p e s m _ below meth c ⟨B.exec, B.bytes, hml, hown, fun w hw => hts w (List.mem_cons_of_mem _ hw)⟩ B.returns B.notSynchronized hK hsz (fun q h => Or.inr (by rw [← hsz]; exact h)) ⟨hP, hD0.self, va_S.rf⟩ _ (lv_entry av hlen)
/-- a field's link: own class and index, the number of the class, the place of the field -/
def FL (own : String) (idx ci k : Nat) (C : String) (T : u_T) (N : Nat) : Prop := classes[ci]? = some (C, T, N) ∧ k < N ∧ (∀ w ∈ u_ws C T N, w ∈ gtbl) ∧ Cond.fieldLink own idx (T k).1 (T k).2.1 (T k).2.2.1 ∈ gtbl
/-- what a put needs of a class -/
def PT (T : u_T) (N : Nat) (ty0 : Nat → FieldType) : Prop := (∀ k, k < N → parseFieldDescriptor (T k).2.2.1 = some (ty0 k)) ∧ ∀ a, a < N → ∀ b, b < N → a ≠ b → (T a).2.1 ≠ (T b).2.1
/-- a method's link from a class -/
def isB (v : Int32) : Prop := v = 0 ∨ v = 1
theorem narB {v : Int32} (h : isB v) : narrow .boolean (.int v) = .int v ∧ fits .boolean (.int v) = true := by
  rcases h with rfl | rfl <;> exact ⟨by decide +kernel, by decide +kernel⟩
section ROWS
variable {p : Program} {l : Launch} {e : Env} {R : Room} {s : State} {m : MethodId} {args : Array Value} {below : List Frame} {meth : Method} {c : Code} {H : Heap} {locs : List Loc} {Q : State → Prop}
variable {cc : ByteArray} {pc nL : Nat} {ls : Array Slot} {rest : List Value} {D : va_G} {A : Nat → Prop} {a : Nat} {cs : Nat → ClassId} {ws : va_W} {H0 : Heap} {own : String}
theorem q_get (hC : CallFix p m c cc nL s args gtbl own) (hK : KN D cs s) (hV : VW D A H0 ws H locs) {C : String} {T : u_T} {N ci index k : Nat} (hF : FL own index ci k C T N) (q0 : Nat) {fs : List Value} (he : ws[q0]? = some (a, .inr (ci, fs))) {v : Value} (hv : fs[k]? = some v) (hdg : decode cc pc = .ok (.getfield index, 3))
    (kk : W p l e R s m args below meth c H locs 0 0 Q (F0 m (pc + 3) ls (v :: rest))) : W p l e R s m args below meth c H locs 0 0 Q (F0 m pc ls (.ref a :: rest)) :=
  va_get hC.1 hC.2.1 hC.2.2.2.2 hF.2.2.1 hC.2.2.2.1 hK.1 hV.1 q0 he hF.1 k hF.2.1 (hC.2.2.2.2 _ hF.2.2.2) (fun _ h => h) hv hdg kk
theorem q_put {ty : FieldType} (hC : CallFix p m c cc nL s args gtbl own) (hK : KN D cs s) (hV : VW D A H0 ws H locs) {C : String} {T : u_T} {N ci index k : Nat} (hF : FL own index ci k C T N) {ty0 : Nat → FieldType} (hT : PT T N ty0) (hfin : (T k).2.2.2 = false) (hty : ty0 k = ty) (q0 : Nat) {fs : List Value} (he : ws[q0]? = some (a, .inr (ci, fs))) {v : Value} (hn : narrow ty v = v) (hfit : fits ty v = true) (hl : k < fs.length) {wn : va_W} (hw : ws.set q0 (a, .inr (ci, fs.set k v)) = wn) (hdg : decode cc pc = .ok (.putfield index, 3))
    (kk : ∀ (H1 : Heap) (locs1 : List Loc), VW D A H0 wn H1 locs1 → W p l e R s m args below meth c H1 locs1 0 0 Q (F0 m (pc + 3) ls rest)) : W p l e R s m args below meth c H locs 0 0 Q (F0 m pc ls (v :: .ref a :: rest)) := by
  subst hw
  subst hty
  exact va_put hC.1 hC.2.1 hC.2.2.2.2 hF.2.2.1 ty0 hT.1 hT.2 hC.2.2.2.1 hK.1 hV.1 hV.2.1 hV.2.2 q0 he hF.1 k hF.2.1 (hC.2.2.2.2 _ hF.2.2.2) (fun _ h => h) hfin (hT.1 k hF.2.1) hn hfit hl hdg (fun H1 locs1 a b c => kk H1 locs1 ⟨a, b, c⟩)
theorem q_puti (hC : CallFix p m c cc nL s args gtbl own) (hK : KN D cs s) (hV : VW D A H0 ws H locs) {C : String} {T : u_T} {N ci index k : Nat} (hF : FL own index ci k C T N) {ty0 : Nat → FieldType} (hT : PT T N ty0) (hfin : (T k).2.2.2 = false) (hty : ty0 k = .int) (q0 : Nat) {fs : List Value} (he : ws[q0]? = some (a, .inr (ci, fs))) {v : Int32} (hl : k < fs.length) {wn : va_W} (hw : ws.set q0 (a, .inr (ci, fs.set k (.int v))) = wn) (hdg : decode cc pc = .ok (.putfield index, 3))
    (kk : ∀ (H1 : Heap) (locs1 : List Loc), VW D A H0 wn H1 locs1 → W p l e R s m args below meth c H1 locs1 0 0 Q (F0 m (pc + 3) ls rest)) : W p l e R s m args below meth c H locs 0 0 Q (F0 m pc ls (.int v :: .ref a :: rest)) :=
  q_put hC hK hV hF hT hfin hty q0 he rfl rfl hl hw hdg kk
theorem q_putz (hC : CallFix p m c cc nL s args gtbl own) (hK : KN D cs s) (hV : VW D A H0 ws H locs) {C : String} {T : u_T} {N ci index k : Nat} (hF : FL own index ci k C T N) {ty0 : Nat → FieldType} (hT : PT T N ty0) (hfin : (T k).2.2.2 = false) (hty : ty0 k = .boolean) (q0 : Nat) {fs : List Value} (he : ws[q0]? = some (a, .inr (ci, fs))) {v : Int32} (hb : isB v) (hl : k < fs.length) {wn : va_W} (hw : ws.set q0 (a, .inr (ci, fs.set k (.int v))) = wn) (hdg : decode cc pc = .ok (.putfield index, 3))
    (kk : ∀ (H1 : Heap) (locs1 : List Loc), VW D A H0 wn H1 locs1 → W p l e R s m args below meth c H1 locs1 0 0 Q (F0 m (pc + 3) ls rest)) : W p l e R s m args below meth c H locs 0 0 Q (F0 m pc ls (.int v :: .ref a :: rest)) :=
  q_put hC hK hV hF hT hfin hty q0 he (narB hb).1 (narB hb).2 hl hw hdg kk
def vin (i : Int32) (n : Nat) : Bool := !(decide (i < 0) || decide (n ≤ i.toNatClampNeg))
theorem vin_in {i : Int32} {n : Nat} (h : vin i n = true) : vp_in i n := by
  intro h2
  unfold vin at h
  rcases h2 with h2 | h2 <;> simp [h2] at h
theorem q_iald (hC : CallFix p m c cc nL s args gtbl own) (hK : KN D cs s) (hV : VW D A H0 ws H locs) (q0 : Nat) {n : Nat} {f : Nat → Int32} (ha : ws[q0]? = some (a, .inl (cs 0, n, .inl f))) {i : Int32} (hin : vin i n = true) (hdg : decode cc pc = .ok (.iaload, 1))
    (kk : W p l e R s m args below meth c H locs 0 0 Q (F0 m (pc + 1) ls (.int (f i.toNatClampNeg) :: rest))) : W p l e R s m args below meth c H locs 0 0 Q (F0 m pc ls (.int i :: .ref a :: rest)) :=
  va_iald hC.1 hC.2.1 hK.1 hV.1 q0 0 ha rfl (vin_in hin) hdg kk
theorem q_bald (hC : CallFix p m c cc nL s args gtbl own) (hK : KN D cs s) (hV : VW D A H0 ws H locs) (q0 : Nat) {n : Nat} {f : Nat → Int32} (ha : ws[q0]? = some (a, .inl (cs 1, n, .inl f))) {i : Int32} (hin : vin i n = true) (hdg : decode cc pc = .ok (.baload, 1))
    (kk : W p l e R s m args below meth c H locs 0 0 Q (F0 m (pc + 1) ls (.int (f i.toNatClampNeg) :: rest))) : W p l e R s m args below meth c H locs 0 0 Q (F0 m pc ls (.int i :: .ref a :: rest)) :=
  va_bald hC.1 hC.2.1 hK.1 hV.1 q0 1 ha rfl (vin_in hin) hdg kk
theorem q_lald (hC : CallFix p m c cc nL s args gtbl own) (hK : KN D cs s) (hV : VW D A H0 ws H locs) (q0 : Nat) {n : Nat} {f : Nat → Int64} (ha : ws[q0]? = some (a, .inl (cs 2, n, .inr (.inl f)))) {i : Int32} (hin : vin i n = true) (hdg : decode cc pc = .ok (.laload, 1))
    (kk : W p l e R s m args below meth c H locs 0 0 Q (F0 m (pc + 1) ls (.long (f i.toNatClampNeg) :: rest))) : W p l e R s m args below meth c H locs 0 0 Q (F0 m pc ls (.int i :: .ref a :: rest)) :=
  va_lald hC.1 hC.2.1 hK.1 hV.1 q0 2 ha rfl (vin_in hin) hdg kk
theorem q_iast (hC : CallFix p m c cc nL s args gtbl own) (hK : KN D cs s) (hV : VW D A H0 ws H locs) (q0 : Nat) {n : Nat} {f : Nat → Int32} (ha : ws[q0]? = some (a, .inl (cs 0, n, .inl f))) {i x : Int32} (hin : vin i n = true) {wn : va_W} (hw : ws.set q0 (a, .inl (cs 0, n, .inl (upd f i.toNatClampNeg x))) = wn) (hdg : decode cc pc = .ok (.iastore, 1))
    (kk : ∀ (H1 : Heap) (locs1 : List Loc), VW D A H0 wn H1 locs1 → W p l e R s m args below meth c H1 locs1 0 0 Q (F0 m (pc + 1) ls rest)) : W p l e R s m args below meth c H locs 0 0 Q (F0 m pc ls (.int x :: .int i :: .ref a :: rest)) := by
  subst hw
  exact va_iast hC.1 hC.2.1 hK.1 hV.1 hV.2.1 hV.2.2 q0 0 ha rfl (vin_in hin) hdg (fun H1 locs1 a b c => kk H1 locs1 ⟨a, b, c⟩)
theorem q_bast (hC : CallFix p m c cc nL s args gtbl own) (hK : KN D cs s) (hV : VW D A H0 ws H locs) (q0 : Nat) {n : Nat} {f : Nat → Int32} (ha : ws[q0]? = some (a, .inl (cs 1, n, .inl f))) {i x : Int32} (hin : vin i n = true) {wn : va_W} (hw : ws.set q0 (a, .inl (cs 1, n, .inl (upd f i.toNatClampNeg (vp_nar .byte x)))) = wn) (hdg : decode cc pc = .ok (.bastore, 1))
    (kk : ∀ (H1 : Heap) (locs1 : List Loc), VW D A H0 wn H1 locs1 → W p l e R s m args below meth c H1 locs1 0 0 Q (F0 m (pc + 1) ls rest)) : W p l e R s m args below meth c H locs 0 0 Q (F0 m pc ls (.int x :: .int i :: .ref a :: rest)) := by
  subst hw
  exact va_bast hC.1 hC.2.1 hK.1 hV.1 hV.2.1 hV.2.2 q0 1 ha rfl (vin_in hin) hdg (fun H1 locs1 a b c => kk H1 locs1 ⟨a, b, c⟩)
theorem q_last (hC : CallFix p m c cc nL s args gtbl own) (hK : KN D cs s) (hV : VW D A H0 ws H locs) (q0 : Nat) {n : Nat} {f : Nat → Int64} (ha : ws[q0]? = some (a, .inl (cs 2, n, .inr (.inl f)))) {i : Int32} {x : Int64} (hin : vin i n = true) {wn : va_W} (hw : ws.set q0 (a, .inl (cs 2, n, .inr (.inl (vp_updL f i.toNatClampNeg x)))) = wn) (hdg : decode cc pc = .ok (.lastore, 1))
    (kk : ∀ (H1 : Heap) (locs1 : List Loc), VW D A H0 wn H1 locs1 → W p l e R s m args below meth c H1 locs1 0 0 Q (F0 m (pc + 1) ls rest)) : W p l e R s m args below meth c H locs 0 0 Q (F0 m pc ls (.long x :: .int i :: .ref a :: rest)) := by
  subst hw
  exact va_last hC.1 hC.2.1 hK.1 hV.1 hV.2.1 hV.2.2 q0 2 ha rfl (vin_in hin) hdg (fun H1 locs1 a b c => kk H1 locs1 ⟨a, b, c⟩)
theorem q_aleni (hC : CallFix p m c cc nL s args gtbl own) (hK : KN D cs s) (hV : VW D A H0 ws H locs) (q0 : Nat) {n : Nat} {f : Nat → Int32} (ha : ws[q0]? = some (a, .inl (cs 0, n, .inl f))) {v : Int32} (hv : Int32.ofNat n = v) (hdg : decode cc pc = .ok (.arraylength, 1))
    (kk : W p l e R s m args below meth c H locs 0 0 Q (F0 m (pc + 1) ls (.int v :: rest))) : W p l e R s m args below meth c H locs 0 0 Q (F0 m pc ls (.ref a :: rest)) :=
  va_alen hC.1 hC.2.1 hK.1 hV.1 q0 0 ha (ty := .int) rfl hv hdg kk
theorem q_copy (hC : CallFix p m c cc nL s args gtbl own) (hs : c.maxLocals = ls.size) (hK : KN D cs s) (hV : VW D A H0 ws H locs) {index : Nat} (hlink : Cond.methodLink own index arraycopyName ∈ gtbl) (hnat : Cond.native arraycopyName ∈ gtbl) (hstat : Cond.static arraycopyName ∈ gtbl) (hini : Cond.initialized "java/lang/System" ∈ gtbl) (q0 q1 : Nat) {a0 : Nat} {n0 n1 : Nat} {f g : Nat → Int32} (ha0 : ws[q0]? = some (a0, .inl (cs 0, n0, .inl f))) (ha1 : ws[q1]? = some (a, .inl (cs 0, n1, .inl g))) {sp dp n : Int32} (h1 : ¬ sp < 0) (h2 : ¬ dp < 0) (h3 : ¬ n < 0) (h4 : sp.toNatClampNeg + n.toNatClampNeg ≤ n0) (h5 : dp.toNatClampNeg + n.toNatClampNeg ≤ n1)
    (hframes : 1 ≤ R.frames) (hlocals : (rest.map fun v => v.category).sum + (nativeFrameWords "java/lang/System" "arraycopy" 5 + 11) ≤ R.locals) {wn : va_W} (hw : ws.set q1 (a, .inl (cs 0, n1, .inl (va_cpy f g sp.toNatClampNeg dp.toNatClampNeg n.toNatClampNeg))) = wn) (hdg : decode cc pc = .ok (.invokestatic index, 3))
    (kk : ∀ (H1 : Heap) (locs1 : List Loc), VW D A H0 wn H1 locs1 → W p l e R s m args below meth c H1 locs1 0 0 Q (F0 m (pc + 3) ls rest)) : W p l e R s m args below meth c H locs 0 0 Q (F0 m pc ls (.int n :: .int dp :: .ref a :: .int sp :: .ref a0 :: rest)) := by
  subst hw
  exact va_copyi hC.1 hC.2.1 hs hC.2.2.2.1 (hC.2.2.2.2 _ hlink) (hC.2.2.2.2 _ hnat) (hC.2.2.2.2 _ hstat) (hC.2.2.2.2 _ hini) hK.1 hV.1 hV.2.1 hV.2.2 q0 q1 0 0 ha0 ha1 (ty := .int) rfl rfl rfl h1 h2 h3 h4 h5 (fun i _ => rfl) hframes hlocals hdg (fun H1 locs1 a b c => kk H1 locs1 ⟨a, b, c⟩)
theorem q_ret (hC : CallFix p m c cc nL s args gtbl own) (hr : meth.sig.returnType = some .int) (hlocks : meth.locks = false) (hV : VW D A s.heap ws H locs) {v : Int32} (hdg : decode cc pc = .ok (.ireturn, 1)) : W p l e R s m args below meth c H locs 0 0 (MQ below (QI D ws A v) args s 0 0 A) (F0 m pc ls [.int v]) :=
  W.iret hC.1 hC.2.1 hr (fun t ht hW => ⟨⟨v, (), rfl, rfl, by rw [ht]; exact hV.1, hV.2.1⟩, hV.2.2.F ht⟩) hV.2.2.2.2 hdg hlocks
theorem q_retz (hC : CallFix p m c cc nL s args gtbl own) (hr : meth.sig.returnType = some .boolean) (hlocks : meth.locks = false) (hV : VW D A s.heap ws H locs) {v : Int32} (hv : isB v) (hdg : decode cc pc = .ok (.ireturn, 1)) : W p l e R s m args below meth c H locs 0 0 (MQ below (QI D ws A v) args s 0 0 A) (F0 m pc ls [.int v]) :=
  W.zret hC.1 hC.2.1 hr (narB hv).1 (fun t ht hW => ⟨⟨v, (), rfl, rfl, by rw [ht]; exact hV.1, hV.2.1⟩, hV.2.2.F ht⟩) hV.2.2.2.2 hdg hlocks
theorem q_retv (hC : CallFix p m c cc nL s args gtbl own) (hr : meth.sig.returnType = none) (hlocks : meth.locks = false) (hV : VW D A s.heap ws H locs) (hdg : decode cc pc = .ok (.return_, 1)) {st : List Value} : W p l e R s m args below meth c H locs 0 0 (MQ below (QV D ws A) args s 0 0 A) (F0 m pc ls []) :=
  W.vret hC.1 hC.2.1 hr (fun t ht hW => ⟨⟨(), rfl, trivial, by rw [ht]; exact hV.1, hV.2.1⟩, hV.2.2.F ht⟩) hV.2.2.2.2 hdg hlocks
theorem q_retl (hC : CallFix p m c cc nL s args gtbl own) (hr : meth.sig.returnType = some .long) (hlocks : meth.locks = false) (hV : VW D A s.heap ws H locs) {v : Int64} (hdg : decode cc pc = .ok (.lreturn, 1)) : W p l e R s m args below meth c H locs 0 0 (MQ below (QJ D ws A v) args s 0 0 A) (F0 m pc ls [.long v]) :=
  W.lret hC.1 hC.2.1 hr (fun t ht hW => ⟨⟨v, (), rfl, rfl, by rw [ht]; exact hV.1, hV.2.1⟩, hV.2.2.F ht⟩) hV.2.2.2.2 hdg hlocks
end ROWS
section CALLS
variable {p : Program} {l : Launch} {e : Env} {R : Room} {s : State} {m : MethodId} {args : Array Value} {below : List Frame} {meth : Method} {c : Code} {H : Heap} {locs : List Loc} {Q : State → Prop}
variable {cc : ByteArray} {pc nL : Nat} {ls : Array Slot} {rest st0 : List Value} {D : va_G} {A : Nat → Prop} {a : Array Value} {cs : Nat → ClassId} {ws wc wr w1 wn : va_W} {H0 : Heap} {own : String}
/-- the frame rule, by places: callee's cells, the rest, the new order -/
theorem fr_join (hV : VW D A H0 ws H locs) (hA : ∀ q, H0.size ≤ q → A q) (isC isR isN : List Nat) (hC : isC.map (fun i => ws[i]?) = wc.map some) (hR : isR.map (fun i => ws[i]?) = wr.map some) (hn : va_nd isR = true) (hdis : ∀ i ∈ isR, i ∉ isC) (hN : isN.map (fun i => (wr ++ w1)[i]?) = wn.map some) (hnn : va_nd isN = true)
    (H1 : Heap) (locs1 : List Loc) (hk : ∀ q : Nat, q < H.size → ¬ va_A wc H.size q → H1[q]? = H[q]?) (hP1 : va_P D classes w1 H1) (hD1 : va_D (va_A wc H.size) w1) (hS1 : va_S A H0 H1 locs1) : VW D A H0 wn H1 locs1 := by
  obtain ⟨hP, hD, hS⟩ := hV
  obtain ⟨h1, h2⟩ := va_join hP hD isC isR hC hR hn hdis hk (va_free hD hS hA isC hC) hP1 hD1
  refine ⟨?_, h2.sub isN hnn hN, hS1⟩
  intro k q hq
  have h3 : (isN.map (fun i => (wr ++ w1)[i]?))[k]? = some (some q) := by rw [hN, List.getElem?_map, hq]; rfl
  rw [List.getElem?_map] at h3
  cases hi : isN[k]? with
  | none => rw [hi] at h3; cases h3
  | some i => rw [hi] at h3; exact h1 i q (Option.some.inj h3)
theorem fr_pre (hK : KN D cs s) (hV : VW D A H0 ws H locs) (isC : List Nat) (hC : isC.map (fun i => ws[i]?) = wc.map some) (hnd : va_nd isC = true) {av : List Value} : ∀ U : State, U.heap = H → s.WarmedH U.vm → va_Pc av (PR D cs wc H.size) av.toArray U := by
  intro U hU hW
  refine ⟨rfl, by rw [hU], ?_, hK.warm hW, (hV.2.1.sub isC hnd hC).weaken (fun _ _ _ _ => trivial)⟩
  rw [hU]
  intro k q hq
  have h3 : (isC.map (fun i => ws[i]?))[k]? = some (some q) := by rw [hC, List.getElem?_map, hq]; rfl
  rw [List.getElem?_map] at h3
  cases hi : isC[k]? with
  | none => rw [hi] at h3; cases h3
  | some i => rw [hi] at h3; exact hV.1 i q (Option.some.inj h3)
variable {y : MethodName} {bytes : ByteArray} {maxL n index : Nat} {ret : Option FieldType} {rm : Room} {Qc : Array Value → State → Outcome → State → Prop} {b : Addr} {As : List Value}
/-- the words of a call -/
def CD (y : MethodName) (bytes : ByteArray) (maxL : Nat) (ret : Option FieldType) (n : Nat) : Prop := Cond.code y bytes maxL ret ∈ gtbl ∧ Cond.initialized y.cls ∈ gtbl ∧ y.cls ≠ "java/lang/invoke/MethodHandle" ∧ y.cls ≠ "java/lang/invoke/VarHandle" ∧ (parseMethodDescriptor y.desc).map (fun d => d.parameters.length) = some n
def CV (y : MethodName) : Prop := Cond.instanceMethod y ∈ gtbl ∧ Cond.selects y.cls y y ∈ gtbl
theorem cb_of (hC : CallFix p m c cc nL s args gtbl own) (hd : CD y bytes maxL ret n) (hl : Cond.methodLink own index y ∈ gtbl) (h0 : rm.cells = 0) (h1 : rm.slots = 0) (hR : rm.frames + 1 ≤ R.frames ∧ 8 + (maxL + 11) + rm.locals ≤ R.locals) : CallB R s args own index y bytes maxL ret (WS y bytes maxL ret) rm 0 0 n :=
  callB_of n hC.2.2.2.2 (gWS hd.1) rfl h0 h1 (hC.2.2.2.2 _ hd.2.1) (hC.2.2.2.2 _ hl) hd.2.2 hR
theorem fr_pre0 (hK : KN D cs s) (hV : VW D A H0 ws H locs) {av : List Value} : ∀ U : State, U.heap = H → s.WarmedH U.vm → va_Pc av (PR D cs ws H.size) av.toArray U := by
  intro U hU hW
  refine ⟨rfl, by rw [hU], ?_, hK.warm hW, hV.2.1.weaken (fun _ _ _ _ => trivial)⟩
  rw [hU]
  exact hV.1
theorem fr_free0 (hV : VW D A H0 ws H locs) (hA : ∀ q, H0.size ≤ q → A q) : ∀ q, va_A ws H.size q → A q := by
  intro q h
  rcases h with ⟨k, e, h⟩ | h
  · exact hV.2.1.2 k (q, e) h
  · exact hA q (Nat.le_trans hV.2.2.1 h)
theorem fr_join0 (hV : VW D A H0 ws H locs) (hA : ∀ q, H0.size ≤ q → A q) : ∀ (H1 : Heap) (locs1 : List Loc), (∀ q : Nat, q < H.size → ¬ va_A ws H.size q → H1[q]? = H[q]?) → va_P D classes w1 H1 → va_D (va_A ws H.size) w1 → va_S A H0 H1 locs1 → VW D A H0 w1 H1 locs1 :=
  fun H1 locs1 hk hP1 hD1 hS1 => ⟨hP1, hD1.weaken (fun _ q _ h => fr_free0 hV hA q.1 h), hS1⟩
theorem run_v (hC : CallFix p m c cc nL s args gtbl own) (hM : Met l y (WS y bytes maxL ret) rm (va_Pc (.ref b :: As) (PR D cs wc H.size)) Qc 0 0 (va_A wc H.size)) (hd : CD y bytes maxL ret n) (hv : CV y) (hl : Cond.methodLink own index y ∈ gtbl) (h0 : rm.cells = 0) (h1 : rm.slots = 0) (hR : rm.frames + 1 ≤ R.frames ∧ 8 + (maxL + 11) + rm.locals ≤ R.locals) (hK : KN D cs s) (hV : VW D A H0 ws H locs) (hpre : ∀ U : State, U.heap = H → s.WarmedH U.vm → va_Pc (.ref b :: As) (PR D cs wc H.size) (Value.ref b :: As).toArray U) {q0 ci : Nat} {fs : List Value} {r : vw_C} (hrc : classes[ci]? = some r) (hrn : r.1 = y.cls) (hre : ws[q0]? = some (b, .inr (ci, fs))) (hn : As.length = n) (hls : ls.size = nL) (hst : st0 = As.reverse ++ .ref b :: rest) (hrm : (rest.map fun v => v.category).sum ≤ 8) (hdg : decode cc pc = .ok (.invokevirtual index, 3)) :
    va_Run p l e R s m args below meth c H locs 0 0 0 0 (F0 m pc ls st0) rest (Qc (Value.ref b :: As).toArray) (va_A wc H.size) :=
  va_runV (C := y.cls) hC hM ⟨cb_of hC hd hl h0 h1 hR, hC.2.2.2.2 _ hv.1, hC.2.2.2.2 _ hv.2⟩ ⟨pr_blind, by rw [← hrn]; exact va_recv hK.1 hV.1 hrc hre, hpre⟩ rfl hn hls hst (lv_room hrm) hdg ⟨Nat.zero_le _, Nat.zero_le _⟩
theorem run_s (hC : CallFix p m c cc nL s args gtbl own) (hM : Met l y (WS y bytes maxL ret) rm (va_Pc As (PR D cs wc H.size)) Qc 0 0 (va_A wc H.size)) (hd : CD y bytes maxL ret n) (hv : Cond.static y ∈ gtbl) (hl : Cond.methodLink own index y ∈ gtbl) (h0 : rm.cells = 0) (h1 : rm.slots = 0) (hR : rm.frames + 1 ≤ R.frames ∧ 8 + (maxL + 11) + rm.locals ≤ R.locals) (hpre : ∀ U : State, U.heap = H → s.WarmedH U.vm → va_Pc As (PR D cs wc H.size) As.toArray U) (hn : As.length = n) (hls : ls.size = nL) (hst : st0 = As.reverse ++ rest) (hrm : (rest.map fun v => v.category).sum ≤ 8) (hdg : decode cc pc = .ok (.invokestatic index, 3)) :
    va_Run p l e R s m args below meth c H locs 0 0 0 0 (F0 m pc ls st0) rest (Qc As.toArray) (va_A wc H.size) :=
  va_runS hC hM ⟨cb_of hC hd hl h0 h1 hR, hC.2.2.2.2 _ hv⟩ ⟨pr_blind, hpre⟩ rfl hn hls hst (lv_room hrm) hdg ⟨Nat.zero_le _, Nat.zero_le _⟩
theorem run_sn {host : String} (hC : CallFix p m c cc nL s args gtbl own) (hM : Met l y (WS y bytes maxL ret) rm (va_Pc As (PR D cs wc H.size)) Qc 0 0 (va_A wc H.size)) (hd : CD y bytes maxL ret n) (hv : Cond.static y ∈ gtbl) (hl : (own, index, y, host) ∈ nestM) (hK : KN D cs s) (h0 : rm.cells = 0) (h1 : rm.slots = 0) (hR : rm.frames + 1 ≤ R.frames ∧ 8 + (maxL + 11) + rm.locals ≤ R.locals) (hpre : ∀ U : State, U.heap = H → s.WarmedH U.vm → va_Pc As (PR D cs wc H.size) As.toArray U) (hn : As.length = n) (hls : ls.size = nL) (hst : st0 = As.reverse ++ rest) (hrm : (rest.map fun v => v.category).sum ≤ 8) (hdg : decode cc pc = .ok (.invokestatic index, 3)) :
    va_Run p l e R s m args below meth c H locs 0 0 0 0 (F0 m pc ls st0) rest (Qc As.toArray) (va_A wc H.size) :=
  va_runSN hC hM ⟨va_cnB n hC.2.2.2.2 (gWS hd.1) rfl h0 h1 (hK.2 _ hl) (hC.2.2.2.2 _ hd.2.1) hd.2.2 hR, hC.2.2.2.2 _ hv, trivial⟩ ⟨pr_blind, hpre⟩ rfl hn hls hst (lv_room hrm) hdg ⟨Nat.zero_le _, Nat.zero_le _⟩
theorem aft_i {r : Int32} (hr : va_Run p l e R s m args below meth c H locs 0 0 0 0 (F0 m pc ls st0) rest (QI D w1 (va_A wc H.size) r a) (va_A wc H.size)) (hV : VW D A H0 ws H locs) (hf : ∀ q, va_A wc H.size q → A q) (hj : ∀ (H1 : Heap) (locs1 : List Loc), (∀ q : Nat, q < H.size → ¬ va_A wc H.size q → H1[q]? = H[q]?) → va_P D classes w1 H1 → va_D (va_A wc H.size) w1 → va_S A H0 H1 locs1 → VW D A H0 wn H1 locs1)
    (kk : ∀ (H1 : Heap) (locs1 : List Loc), VW D A H0 wn H1 locs1 → W p l e R s m args below meth c H1 locs1 0 0 Q (F0 m (pc + 3) ls (.int r :: rest))) : W p l e R s m args below meth c H locs 0 0 Q (F0 m pc ls st0) := by
  refine va_calli hr hV.2.2 (fun q _ h => hf q h) hf (fun r' u t H1 locs1 ht hvm hw hB hz1 hk1 hS1 => ?_)
  subst hw
  obtain ⟨hP1, hD1⟩ := hB
  rw [ht] at hP1
  exact kk H1 locs1 (hj H1 locs1 hk1 hP1 hD1 hS1)
theorem aft_l {r : Int64} (hr : va_Run p l e R s m args below meth c H locs 0 0 0 0 (F0 m pc ls st0) rest (QJ D w1 (va_A wc H.size) r a) (va_A wc H.size)) (hV : VW D A H0 ws H locs) (hf : ∀ q, va_A wc H.size q → A q) (hj : ∀ (H1 : Heap) (locs1 : List Loc), (∀ q : Nat, q < H.size → ¬ va_A wc H.size q → H1[q]? = H[q]?) → va_P D classes w1 H1 → va_D (va_A wc H.size) w1 → va_S A H0 H1 locs1 → VW D A H0 wn H1 locs1)
    (kk : ∀ (H1 : Heap) (locs1 : List Loc), VW D A H0 wn H1 locs1 → W p l e R s m args below meth c H1 locs1 0 0 Q (F0 m (pc + 3) ls (.long r :: rest))) : W p l e R s m args below meth c H locs 0 0 Q (F0 m pc ls st0) := by
  refine va_calll hr hV.2.2 (fun q _ h => hf q h) hf (fun r' u t H1 locs1 ht hvm hw hB hz1 hk1 hS1 => ?_)
  subst hw
  obtain ⟨hP1, hD1⟩ := hB
  rw [ht] at hP1
  exact kk H1 locs1 (hj H1 locs1 hk1 hP1 hD1 hS1)
theorem aft_v (hr : va_Run p l e R s m args below meth c H locs 0 0 0 0 (F0 m pc ls st0) rest (QV D w1 (va_A wc H.size) a) (va_A wc H.size)) (hV : VW D A H0 ws H locs) (hf : ∀ q, va_A wc H.size q → A q) (hj : ∀ (H1 : Heap) (locs1 : List Loc), (∀ q : Nat, q < H.size → ¬ va_A wc H.size q → H1[q]? = H[q]?) → va_P D classes w1 H1 → va_D (va_A wc H.size) w1 → va_S A H0 H1 locs1 → VW D A H0 wn H1 locs1)
    (kk : ∀ (H1 : Heap) (locs1 : List Loc), VW D A H0 wn H1 locs1 → W p l e R s m args below meth c H1 locs1 0 0 Q (F0 m (pc + 3) ls (rest))) : W p l e R s m args below meth c H locs 0 0 Q (F0 m pc ls st0) := by
  refine va_callv hr hV.2.2 (fun q _ h => hf q h) hf (fun u t H1 locs1 ht hvm hw hB hz1 hk1 hS1 => ?_)
  obtain ⟨hP1, hD1⟩ := hB
  rw [ht] at hP1
  exact kk H1 locs1 (hj H1 locs1 hk1 hP1 hD1 hS1)
end CALLS
/-! small rows for the pure side's hypothesis -/
theorem hf_if {α : Type} {b : Bool} {k : Option α} {u : α} (h : (if b = true then k else none) = some u) : b = true ∧ k = some u := by
  by_cases hb : b = true
  · rw [if_pos hb] at h; exact ⟨hb, h⟩
  · rw [if_neg hb] at h; cases h
theorem hf_t {α : Type} {c : Prop} [inst : Decidable c] {x y : α} {z : α} (h : (if c then x else y) = z) (hc : c) : x = z := by rw [if_pos hc] at h; exact h
theorem hf_f {α : Type} {c : Prop} [inst : Decidable c] {x y : α} {z : α} (h : (if c then x else y) = z) (hc : ¬ c) : y = z := by rw [if_neg hc] at h; exact h
theorem hf_nz {α : Type} {y : Int32} {k : Option α} {u : α} (h : (if y = 0 then none else k) = some u) : ¬ y = 0 ∧ k = some u := by
  by_cases hb : y = 0
  · rw [if_pos hb] at h; cases h
  · rw [if_neg hb] at h; exact ⟨hb, h⟩
def zB (v : Int32) : Bool := decide (v = 0) || decide (v = 1)
theorem zB_is {v : Int32} (h : zB v = true) : isB v := by
  unfold zB at h
  rcases (Bool.or_eq_true _ _).mp h with h | h
  · exact Or.inl (of_decide_eq_true h)
  · exact Or.inr (of_decide_eq_true h)
theorem hf_b {α β : Type} {o : Option α} {k : α → Option β} {u : β} (h : o.bind k = some u) : ∃ x, o = some x ∧ k x = some u := Option.bind_eq_some_iff.mp h
def FU : Nat := 1000000

/-! a switch's other ways -/
theorem tni {x v : Int32} {z : Int} (h : ¬ x = v) (hz : v.toInt = z) : x.toInt ≠ z := fun e => h (Int32.toInt_inj.mp (e.trans hz.symm))
theorem tn_nil {x : Int32} : ∀ z ∈ ([] : List Int), x.toInt ≠ z := fun _ h => absurd h List.not_mem_nil
theorem tn_cons {x : Int32} {z : Int} {L : List Int} (h : x.toInt ≠ z) (hL : ∀ z ∈ L, x.toInt ≠ z) : ∀ z' ∈ z :: L, x.toInt ≠ z' := List.forall_mem_cons.mpr ⟨h, hL⟩
theorem q_tswD {p : Program} {l : Launch} {e : Env} {R : Room} {s : State} {m : MethodId} {args : Array Value} {below : List Frame} {meth : Method} {c : Code} {H : Heap} {locs : List Loc} {Q : State → Prop} {cc : ByteArray} {pc : Nat} {ls : Array Slot} {rest : List Value} (hx : p.tables.exec = Jvm.exec) (hb : c.code = cc) {dflt lo hi : Int} {offs : Array Int} {len : Nat} {x : Int32} {tgt : Nat} (hdg : decode cc pc = .ok (.tableswitch dflt lo hi offs, len)) (hsz : (offs.size : Int) = hi - lo + 1) (L : List Int) (hL : ∀ k : Fin offs.size, offs[k.val]? = some dflt ∨ (lo + (k.val : Int)) ∈ L) (hxL : ∀ z ∈ L, x.toInt ≠ z) (ht : (pc : Int) + dflt = (tgt : Int)) (k : W p l e R s m args below meth c H locs 0 0 Q (F0 m tgt ls rest)) : W p l e R s m args below meth c H locs 0 0 Q (F0 m pc ls (.int x :: rest)) := by
  by_cases h1 : x.toInt < lo
  · exact lv_tableOut hx hb hdg (Or.inl h1) ht k
  by_cases h2 : hi < x.toInt
  · exact lv_tableOut hx hb hdg (Or.inr h2) ht k
  have hk : (x.toInt - lo).toNat < offs.size := by omega
  rcases hL ⟨(x.toInt - lo).toNat, hk⟩ with h3 | h3
  · exact lv_tableIn hx hb hdg h1 h2 h3 ht k
  · exact absurd (show x.toInt = lo + (((x.toInt - lo).toNat : Nat) : Int) by omega) (hxL _ h3)
def cpk (sp dp n : Int32) (n0 n1 : Nat) : Bool := decide (¬ sp < 0) && (decide (¬ dp < 0) && (decide (¬ n < 0) && (decide (sp.toNatClampNeg + n.toNatClampNeg ≤ n0) && decide (dp.toNatClampNeg + n.toNatClampNeg ≤ n1))))
theorem cpk_is {sp dp n : Int32} {n0 n1 : Nat} (h : cpk sp dp n n0 n1 = true) : ¬ sp < 0 ∧ ¬ dp < 0 ∧ ¬ n < 0 ∧ sp.toNatClampNeg + n.toNatClampNeg ≤ n0 ∧ dp.toNatClampNeg + n.toNatClampNeg ≤ n1 := by
  unfold cpk at h
  simp only [Bool.and_eq_true, decide_eq_true_eq] at h
  exact h
