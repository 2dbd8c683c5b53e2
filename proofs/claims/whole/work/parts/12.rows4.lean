section ROWSC
variable {p : Program} {l : Launch} {e : Env} {R : Room} {s : State} {m : MethodId} {args : Array Value} {below : List Frame} {meth : Method} {c : Code} {H : Heap} {locs : List Loc} {cells slots : Nat} {Q : State → Prop}
variable {cc : ByteArray} {pc nL : Nat} {ls : Array Slot} {rest : List Value} {D : va_G} {A : Nat → Prop} {a : Nat} {cs : Nat → ClassId} {ws : va_W} {H0 : Heap} {own : String}
theorem c_get (hC : CallFix p m c cc nL s args gtbl own) (hK : KN D cs s) (hV : VW D A H0 ws H locs) {C : String} {T : u_T} {N ci index k : Nat} (hF : FL own index ci k C T N) (q0 : Nat) {fs : List Value} (he : ws[q0]? = some (a, .inr (ci, fs))) {v : Value} (hv : fs[k]? = some v) (hdg : decode cc pc = .ok (.getfield index, 3))
    (kk : W p l e R s m args below meth c H locs cells slots Q (F0 m (pc + 3) ls (v :: rest))) : W p l e R s m args below meth c H locs cells slots Q (F0 m pc ls (.ref a :: rest)) :=
  va_get hC.1 hC.2.1 hC.2.2.2.2 hF.2.2.1 hC.2.2.2.1 hK.1 hV.1 q0 he hF.1 k hF.2.1 (hC.2.2.2.2 _ hF.2.2.2) (fun _ h => h) hv hdg kk
theorem c_put {ty : FieldType} (hC : CallFix p m c cc nL s args gtbl own) (hK : KN D cs s) (hV : VW D A H0 ws H locs) {C : String} {T : u_T} {N ci index k : Nat} (hF : FL own index ci k C T N) {ty0 : Nat → FieldType} (hT : PT T N ty0) (hfin : (T k).2.2.2 = false) (hty : ty0 k = ty) (q0 : Nat) {fs : List Value} (he : ws[q0]? = some (a, .inr (ci, fs))) {v : Value} (hn : narrow ty v = v) (hfit : fits ty v = true) (hl : k < fs.length) {wn : va_W} (hw : ws.set q0 (a, .inr (ci, fs.set k v)) = wn) (hdg : decode cc pc = .ok (.putfield index, 3))
    (kk : ∀ (H1 : Heap) (locs1 : List Loc), VW D A H0 wn H1 locs1 → W p l e R s m args below meth c H1 locs1 cells slots Q (F0 m (pc + 3) ls rest)) : W p l e R s m args below meth c H locs cells slots Q (F0 m pc ls (v :: .ref a :: rest)) := by
  subst hw
  subst hty
  exact va_put hC.1 hC.2.1 hC.2.2.2.2 hF.2.2.1 ty0 hT.1 hT.2 hC.2.2.2.1 hK.1 hV.1 hV.2.1 hV.2.2 q0 he hF.1 k hF.2.1 (hC.2.2.2.2 _ hF.2.2.2) (fun _ h => h) hfin (hT.1 k hF.2.1) hn hfit hl hdg (fun H1 locs1 a b c => kk H1 locs1 ⟨a, b, c⟩)
theorem c_puti (hC : CallFix p m c cc nL s args gtbl own) (hK : KN D cs s) (hV : VW D A H0 ws H locs) {C : String} {T : u_T} {N ci index k : Nat} (hF : FL own index ci k C T N) {ty0 : Nat → FieldType} (hT : PT T N ty0) (hfin : (T k).2.2.2 = false) (hty : ty0 k = .int) (q0 : Nat) {fs : List Value} (he : ws[q0]? = some (a, .inr (ci, fs))) {v : Int32} (hl : k < fs.length) {wn : va_W} (hw : ws.set q0 (a, .inr (ci, fs.set k (.int v))) = wn) (hdg : decode cc pc = .ok (.putfield index, 3))
    (kk : ∀ (H1 : Heap) (locs1 : List Loc), VW D A H0 wn H1 locs1 → W p l e R s m args below meth c H1 locs1 cells slots Q (F0 m (pc + 3) ls rest)) : W p l e R s m args below meth c H locs cells slots Q (F0 m pc ls (.int v :: .ref a :: rest)) :=
  c_put hC hK hV hF hT hfin hty q0 he rfl rfl hl hw hdg kk
theorem c_putz (hC : CallFix p m c cc nL s args gtbl own) (hK : KN D cs s) (hV : VW D A H0 ws H locs) {C : String} {T : u_T} {N ci index k : Nat} (hF : FL own index ci k C T N) {ty0 : Nat → FieldType} (hT : PT T N ty0) (hfin : (T k).2.2.2 = false) (hty : ty0 k = .boolean) (q0 : Nat) {fs : List Value} (he : ws[q0]? = some (a, .inr (ci, fs))) {v : Int32} (hb : isB v) (hl : k < fs.length) {wn : va_W} (hw : ws.set q0 (a, .inr (ci, fs.set k (.int v))) = wn) (hdg : decode cc pc = .ok (.putfield index, 3))
    (kk : ∀ (H1 : Heap) (locs1 : List Loc), VW D A H0 wn H1 locs1 → W p l e R s m args below meth c H1 locs1 cells slots Q (F0 m (pc + 3) ls rest)) : W p l e R s m args below meth c H locs cells slots Q (F0 m pc ls (.int v :: .ref a :: rest)) :=
  c_put hC hK hV hF hT hfin hty q0 he (narB hb).1 (narB hb).2 hl hw hdg kk
theorem c_iald (hC : CallFix p m c cc nL s args gtbl own) (hK : KN D cs s) (hV : VW D A H0 ws H locs) (q0 : Nat) {n : Nat} {f : Nat → Int32} (ha : ws[q0]? = some (a, .inl (cs 0, n, .inl f))) {i : Int32} (hin : vin i n = true) (hdg : decode cc pc = .ok (.iaload, 1))
    (kk : W p l e R s m args below meth c H locs cells slots Q (F0 m (pc + 1) ls (.int (f i.toNatClampNeg) :: rest))) : W p l e R s m args below meth c H locs cells slots Q (F0 m pc ls (.int i :: .ref a :: rest)) :=
  va_iald hC.1 hC.2.1 hK.1 hV.1 q0 0 ha rfl (vin_in hin) hdg kk
theorem c_bald (hC : CallFix p m c cc nL s args gtbl own) (hK : KN D cs s) (hV : VW D A H0 ws H locs) (q0 : Nat) {n : Nat} {f : Nat → Int32} (ha : ws[q0]? = some (a, .inl (cs 1, n, .inl f))) {i : Int32} (hin : vin i n = true) (hdg : decode cc pc = .ok (.baload, 1))
    (kk : W p l e R s m args below meth c H locs cells slots Q (F0 m (pc + 1) ls (.int (f i.toNatClampNeg) :: rest))) : W p l e R s m args below meth c H locs cells slots Q (F0 m pc ls (.int i :: .ref a :: rest)) :=
  va_bald hC.1 hC.2.1 hK.1 hV.1 q0 1 ha rfl (vin_in hin) hdg kk
theorem c_lald (hC : CallFix p m c cc nL s args gtbl own) (hK : KN D cs s) (hV : VW D A H0 ws H locs) (q0 : Nat) {n : Nat} {f : Nat → Int64} (ha : ws[q0]? = some (a, .inl (cs 2, n, .inr (.inl f)))) {i : Int32} (hin : vin i n = true) (hdg : decode cc pc = .ok (.laload, 1))
    (kk : W p l e R s m args below meth c H locs cells slots Q (F0 m (pc + 1) ls (.long (f i.toNatClampNeg) :: rest))) : W p l e R s m args below meth c H locs cells slots Q (F0 m pc ls (.int i :: .ref a :: rest)) :=
  va_lald hC.1 hC.2.1 hK.1 hV.1 q0 2 ha rfl (vin_in hin) hdg kk
theorem c_iast (hC : CallFix p m c cc nL s args gtbl own) (hK : KN D cs s) (hV : VW D A H0 ws H locs) (q0 : Nat) {n : Nat} {f : Nat → Int32} (ha : ws[q0]? = some (a, .inl (cs 0, n, .inl f))) {i x : Int32} (hin : vin i n = true) {wn : va_W} (hw : ws.set q0 (a, .inl (cs 0, n, .inl (upd f i.toNatClampNeg x))) = wn) (hdg : decode cc pc = .ok (.iastore, 1))
    (kk : ∀ (H1 : Heap) (locs1 : List Loc), VW D A H0 wn H1 locs1 → W p l e R s m args below meth c H1 locs1 cells slots Q (F0 m (pc + 1) ls rest)) : W p l e R s m args below meth c H locs cells slots Q (F0 m pc ls (.int x :: .int i :: .ref a :: rest)) := by
  subst hw
  exact va_iast hC.1 hC.2.1 hK.1 hV.1 hV.2.1 hV.2.2 q0 0 ha rfl (vin_in hin) hdg (fun H1 locs1 a b c => kk H1 locs1 ⟨a, b, c⟩)
theorem c_bast (hC : CallFix p m c cc nL s args gtbl own) (hK : KN D cs s) (hV : VW D A H0 ws H locs) (q0 : Nat) {n : Nat} {f : Nat → Int32} (ha : ws[q0]? = some (a, .inl (cs 1, n, .inl f))) {i x : Int32} (hin : vin i n = true) {wn : va_W} (hw : ws.set q0 (a, .inl (cs 1, n, .inl (upd f i.toNatClampNeg (vp_nar .byte x)))) = wn) (hdg : decode cc pc = .ok (.bastore, 1))
    (kk : ∀ (H1 : Heap) (locs1 : List Loc), VW D A H0 wn H1 locs1 → W p l e R s m args below meth c H1 locs1 cells slots Q (F0 m (pc + 1) ls rest)) : W p l e R s m args below meth c H locs cells slots Q (F0 m pc ls (.int x :: .int i :: .ref a :: rest)) := by
  subst hw
  exact va_bast hC.1 hC.2.1 hK.1 hV.1 hV.2.1 hV.2.2 q0 1 ha rfl (vin_in hin) hdg (fun H1 locs1 a b c => kk H1 locs1 ⟨a, b, c⟩)
theorem c_last (hC : CallFix p m c cc nL s args gtbl own) (hK : KN D cs s) (hV : VW D A H0 ws H locs) (q0 : Nat) {n : Nat} {f : Nat → Int64} (ha : ws[q0]? = some (a, .inl (cs 2, n, .inr (.inl f)))) {i : Int32} {x : Int64} (hin : vin i n = true) {wn : va_W} (hw : ws.set q0 (a, .inl (cs 2, n, .inr (.inl (vp_updL f i.toNatClampNeg x)))) = wn) (hdg : decode cc pc = .ok (.lastore, 1))
    (kk : ∀ (H1 : Heap) (locs1 : List Loc), VW D A H0 wn H1 locs1 → W p l e R s m args below meth c H1 locs1 cells slots Q (F0 m (pc + 1) ls rest)) : W p l e R s m args below meth c H locs cells slots Q (F0 m pc ls (.long x :: .int i :: .ref a :: rest)) := by
  subst hw
  exact va_last hC.1 hC.2.1 hK.1 hV.1 hV.2.1 hV.2.2 q0 2 ha rfl (vin_in hin) hdg (fun H1 locs1 a b c => kk H1 locs1 ⟨a, b, c⟩)
theorem c_aleni (hC : CallFix p m c cc nL s args gtbl own) (hK : KN D cs s) (hV : VW D A H0 ws H locs) (q0 : Nat) {n : Nat} {f : Nat → Int32} (ha : ws[q0]? = some (a, .inl (cs 0, n, .inl f))) {v : Int32} (hv : Int32.ofNat n = v) (hdg : decode cc pc = .ok (.arraylength, 1))
    (kk : W p l e R s m args below meth c H locs cells slots Q (F0 m (pc + 1) ls (.int v :: rest))) : W p l e R s m args below meth c H locs cells slots Q (F0 m pc ls (.ref a :: rest)) :=
  va_alen hC.1 hC.2.1 hK.1 hV.1 q0 0 ha (ty := .int) rfl hv hdg kk
theorem c_copy (hC : CallFix p m c cc nL s args gtbl own) (hs : c.maxLocals = ls.size) (hK : KN D cs s) (hV : VW D A H0 ws H locs) {index : Nat} (hlink : Cond.methodLink own index arraycopyName ∈ gtbl) (hnat : Cond.native arraycopyName ∈ gtbl) (hstat : Cond.static arraycopyName ∈ gtbl) (hini : Cond.initialized "java/lang/System" ∈ gtbl) (q0 q1 : Nat) {a0 : Nat} {n0 n1 : Nat} {f g : Nat → Int32} (ha0 : ws[q0]? = some (a0, .inl (cs 0, n0, .inl f))) (ha1 : ws[q1]? = some (a, .inl (cs 0, n1, .inl g))) {sp dp n : Int32} (h1 : ¬ sp < 0) (h2 : ¬ dp < 0) (h3 : ¬ n < 0) (h4 : sp.toNatClampNeg + n.toNatClampNeg ≤ n0) (h5 : dp.toNatClampNeg + n.toNatClampNeg ≤ n1)
    (hframes : 1 ≤ R.frames) (hlocals : (rest.map fun v => v.category).sum + (nativeFrameWords "java/lang/System" "arraycopy" 5 + 11) ≤ R.locals) {wn : va_W} (hw : ws.set q1 (a, .inl (cs 0, n1, .inl (va_cpy f g sp.toNatClampNeg dp.toNatClampNeg n.toNatClampNeg))) = wn) (hdg : decode cc pc = .ok (.invokestatic index, 3))
    (kk : ∀ (H1 : Heap) (locs1 : List Loc), VW D A H0 wn H1 locs1 → W p l e R s m args below meth c H1 locs1 cells slots Q (F0 m (pc + 3) ls rest)) : W p l e R s m args below meth c H locs cells slots Q (F0 m pc ls (.int n :: .int dp :: .ref a :: .int sp :: .ref a0 :: rest)) := by
  subst hw
  exact va_copyi hC.1 hC.2.1 hs hC.2.2.2.1 (hC.2.2.2.2 _ hlink) (hC.2.2.2.2 _ hnat) (hC.2.2.2.2 _ hstat) (hC.2.2.2.2 _ hini) hK.1 hV.1 hV.2.1 hV.2.2 q0 q1 0 0 ha0 ha1 (ty := .int) rfl rfl rfl h1 h2 h3 h4 h5 (fun i _ => rfl) hframes hlocals hdg (fun H1 locs1 a b c => kk H1 locs1 ⟨a, b, c⟩)
theorem c_ret (hC : CallFix p m c cc nL s args gtbl own) (hr : meth.sig.returnType = some .int) (hlocks : meth.locks = false) (hV : VW D A s.heap ws H locs) {v : Int32} (hdg : decode cc pc = .ok (.ireturn, 1)) : W p l e R s m args below meth c H locs cells slots (MQ below (QI D ws A v) args s cells slots A) (F0 m pc ls [.int v]) :=
  W.iret hC.1 hC.2.1 hr (fun t ht hW => ⟨⟨v, (), rfl, rfl, by rw [ht]; exact hV.1, hV.2.1⟩, hV.2.2.F ht⟩) hV.2.2.2.2 hdg hlocks
theorem c_retz (hC : CallFix p m c cc nL s args gtbl own) (hr : meth.sig.returnType = some .boolean) (hlocks : meth.locks = false) (hV : VW D A s.heap ws H locs) {v : Int32} (hv : isB v) (hdg : decode cc pc = .ok (.ireturn, 1)) : W p l e R s m args below meth c H locs cells slots (MQ below (QI D ws A v) args s cells slots A) (F0 m pc ls [.int v]) :=
  W.zret hC.1 hC.2.1 hr (narB hv).1 (fun t ht hW => ⟨⟨v, (), rfl, rfl, by rw [ht]; exact hV.1, hV.2.1⟩, hV.2.2.F ht⟩) hV.2.2.2.2 hdg hlocks
theorem c_retv (hC : CallFix p m c cc nL s args gtbl own) (hr : meth.sig.returnType = none) (hlocks : meth.locks = false) (hV : VW D A s.heap ws H locs) (hdg : decode cc pc = .ok (.return_, 1)) {st : List Value} : W p l e R s m args below meth c H locs cells slots (MQ below (QV D ws A) args s cells slots A) (F0 m pc ls []) :=
  W.vret hC.1 hC.2.1 hr (fun t ht hW => ⟨⟨(), rfl, trivial, by rw [ht]; exact hV.1, hV.2.1⟩, hV.2.2.F ht⟩) hV.2.2.2.2 hdg hlocks
theorem c_retl (hC : CallFix p m c cc nL s args gtbl own) (hr : meth.sig.returnType = some .long) (hlocks : meth.locks = false) (hV : VW D A s.heap ws H locs) {v : Int64} (hdg : decode cc pc = .ok (.lreturn, 1)) : W p l e R s m args below meth c H locs cells slots (MQ below (QJ D ws A v) args s cells slots A) (F0 m pc ls [.long v]) :=
  W.lret hC.1 hC.2.1 hr (fun t ht hW => ⟨⟨v, (), rfl, rfl, by rw [ht]; exact hV.1, hV.2.1⟩, hV.2.2.F ht⟩) hV.2.2.2.2 hdg hlocks

end ROWSC
section CALLSC
variable {p : Program} {l : Launch} {e : Env} {R : Room} {s : State} {m : MethodId} {args : Array Value} {below : List Frame} {meth : Method} {c : Code} {H : Heap} {locs : List Loc} {cells slots : Nat} {Q : State → Prop}
variable {cc : ByteArray} {pc nL : Nat} {ls : Array Slot} {rest st0 : List Value} {D : va_G} {A : Nat → Prop} {a : Array Value} {cs : Nat → ClassId} {ws wc wr w1 wn : va_W} {H0 : Heap} {own : String}
variable {y : MethodName} {bytes : ByteArray} {maxL n index : Nat} {ret : Option FieldType} {rm : Room} {Qc : Array Value → State → Outcome → State → Prop} {b : Addr} {As : List Value}
theorem crun_v (hC : CallFix p m c cc nL s args gtbl own) (hM : Met l y (WS y bytes maxL ret) rm (va_Pc (.ref b :: As) (PR D cs wc H.size)) Qc 0 0 (va_A wc H.size)) (hd : CD y bytes maxL ret n) (hv : CV y) (hl : Cond.methodLink own index y ∈ gtbl) (h0 : rm.cells = 0) (h1 : rm.slots = 0) (hR : rm.frames + 1 ≤ R.frames ∧ 8 + (maxL + 11) + rm.locals ≤ R.locals) (hK : KN D cs s) (hV : VW D A H0 ws H locs) (hpre : ∀ U : State, U.heap = H → s.WarmedH U.vm → va_Pc (.ref b :: As) (PR D cs wc H.size) (Value.ref b :: As).toArray U) {q0 ci : Nat} {fs : List Value} {r : vw_C} (hrc : classes[ci]? = some r) (hrn : r.1 = y.cls) (hre : ws[q0]? = some (b, .inr (ci, fs))) (hn : As.length = n) (hls : ls.size = nL) (hst : st0 = As.reverse ++ .ref b :: rest) (hrm : (rest.map fun v => v.category).sum ≤ 8) (hcs : cells ≤ R.cells ∧ slots ≤ R.slots) (hdg : decode cc pc = .ok (.invokevirtual index, 3)) :
    va_Run p l e R s m args below meth c H locs cells slots 0 0 (F0 m pc ls st0) rest (Qc (Value.ref b :: As).toArray) (va_A wc H.size) :=
  va_runV (C := y.cls) hC hM ⟨cb_of hC hd hl h0 h1 hR, hC.2.2.2.2 _ hv.1, hC.2.2.2.2 _ hv.2⟩ ⟨pr_blind, by rw [← hrn]; exact va_recv hK.1 hV.1 hrc hre, hpre⟩ rfl hn hls hst (lv_room hrm) hdg hcs
theorem crun_s (hC : CallFix p m c cc nL s args gtbl own) (hM : Met l y (WS y bytes maxL ret) rm (va_Pc As (PR D cs wc H.size)) Qc 0 0 (va_A wc H.size)) (hd : CD y bytes maxL ret n) (hv : Cond.static y ∈ gtbl) (hl : Cond.methodLink own index y ∈ gtbl) (h0 : rm.cells = 0) (h1 : rm.slots = 0) (hR : rm.frames + 1 ≤ R.frames ∧ 8 + (maxL + 11) + rm.locals ≤ R.locals) (hpre : ∀ U : State, U.heap = H → s.WarmedH U.vm → va_Pc As (PR D cs wc H.size) As.toArray U) (hn : As.length = n) (hls : ls.size = nL) (hst : st0 = As.reverse ++ rest) (hrm : (rest.map fun v => v.category).sum ≤ 8) (hcs : cells ≤ R.cells ∧ slots ≤ R.slots) (hdg : decode cc pc = .ok (.invokestatic index, 3)) :
    va_Run p l e R s m args below meth c H locs cells slots 0 0 (F0 m pc ls st0) rest (Qc As.toArray) (va_A wc H.size) :=
  va_runS hC hM ⟨cb_of hC hd hl h0 h1 hR, hC.2.2.2.2 _ hv⟩ ⟨pr_blind, hpre⟩ rfl hn hls hst (lv_room hrm) hdg hcs
theorem crun_sn {host : String} (hC : CallFix p m c cc nL s args gtbl own) (hM : Met l y (WS y bytes maxL ret) rm (va_Pc As (PR D cs wc H.size)) Qc 0 0 (va_A wc H.size)) (hd : CD y bytes maxL ret n) (hv : Cond.static y ∈ gtbl) (hl : (own, index, y, host) ∈ nestM) (hK : KN D cs s) (h0 : rm.cells = 0) (h1 : rm.slots = 0) (hR : rm.frames + 1 ≤ R.frames ∧ 8 + (maxL + 11) + rm.locals ≤ R.locals) (hpre : ∀ U : State, U.heap = H → s.WarmedH U.vm → va_Pc As (PR D cs wc H.size) As.toArray U) (hn : As.length = n) (hls : ls.size = nL) (hst : st0 = As.reverse ++ rest) (hrm : (rest.map fun v => v.category).sum ≤ 8) (hcs : cells ≤ R.cells ∧ slots ≤ R.slots) (hdg : decode cc pc = .ok (.invokestatic index, 3)) :
    va_Run p l e R s m args below meth c H locs cells slots 0 0 (F0 m pc ls st0) rest (Qc As.toArray) (va_A wc H.size) :=
  va_runSN hC hM ⟨va_cnB n hC.2.2.2.2 (gWS hd.1) rfl h0 h1 (hK.2 _ hl) (hC.2.2.2.2 _ hd.2.1) hd.2.2 hR, hC.2.2.2.2 _ hv, trivial⟩ ⟨pr_blind, hpre⟩ rfl hn hls hst (lv_room hrm) hdg hcs
theorem caft_i {r : Int32} (hr : va_Run p l e R s m args below meth c H locs cells slots 0 0 (F0 m pc ls st0) rest (QI D w1 (va_A wc H.size) r a) (va_A wc H.size)) (hV : VW D A H0 ws H locs) (hf : ∀ q, va_A wc H.size q → A q) (hj : ∀ (H1 : Heap) (locs1 : List Loc), (∀ q : Nat, q < H.size → ¬ va_A wc H.size q → H1[q]? = H[q]?) → va_P D classes w1 H1 → va_D (va_A wc H.size) w1 → va_S A H0 H1 locs1 → VW D A H0 wn H1 locs1)
    (kk : ∀ (H1 : Heap) (locs1 : List Loc), VW D A H0 wn H1 locs1 → W p l e R s m args below meth c H1 locs1 cells slots Q (F0 m (pc + 3) ls (.int r :: rest))) : W p l e R s m args below meth c H locs cells slots Q (F0 m pc ls st0) := by
  refine va_calli hr hV.2.2 (fun q _ h => hf q h) hf (fun r' u t H1 locs1 ht hvm hw hB hz1 hk1 hS1 => ?_)
  subst hw
  obtain ⟨hP1, hD1⟩ := hB
  rw [ht] at hP1
  exact kk H1 locs1 (hj H1 locs1 hk1 hP1 hD1 hS1)
theorem caft_l {r : Int64} (hr : va_Run p l e R s m args below meth c H locs cells slots 0 0 (F0 m pc ls st0) rest (QJ D w1 (va_A wc H.size) r a) (va_A wc H.size)) (hV : VW D A H0 ws H locs) (hf : ∀ q, va_A wc H.size q → A q) (hj : ∀ (H1 : Heap) (locs1 : List Loc), (∀ q : Nat, q < H.size → ¬ va_A wc H.size q → H1[q]? = H[q]?) → va_P D classes w1 H1 → va_D (va_A wc H.size) w1 → va_S A H0 H1 locs1 → VW D A H0 wn H1 locs1)
    (kk : ∀ (H1 : Heap) (locs1 : List Loc), VW D A H0 wn H1 locs1 → W p l e R s m args below meth c H1 locs1 cells slots Q (F0 m (pc + 3) ls (.long r :: rest))) : W p l e R s m args below meth c H locs cells slots Q (F0 m pc ls st0) := by
  refine va_calll hr hV.2.2 (fun q _ h => hf q h) hf (fun r' u t H1 locs1 ht hvm hw hB hz1 hk1 hS1 => ?_)
  subst hw
  obtain ⟨hP1, hD1⟩ := hB
  rw [ht] at hP1
  exact kk H1 locs1 (hj H1 locs1 hk1 hP1 hD1 hS1)
theorem caft_v (hr : va_Run p l e R s m args below meth c H locs cells slots 0 0 (F0 m pc ls st0) rest (QV D w1 (va_A wc H.size) a) (va_A wc H.size)) (hV : VW D A H0 ws H locs) (hf : ∀ q, va_A wc H.size q → A q) (hj : ∀ (H1 : Heap) (locs1 : List Loc), (∀ q : Nat, q < H.size → ¬ va_A wc H.size q → H1[q]? = H[q]?) → va_P D classes w1 H1 → va_D (va_A wc H.size) w1 → va_S A H0 H1 locs1 → VW D A H0 wn H1 locs1)
    (kk : ∀ (H1 : Heap) (locs1 : List Loc), VW D A H0 wn H1 locs1 → W p l e R s m args below meth c H1 locs1 cells slots Q (F0 m (pc + 3) ls (rest))) : W p l e R s m args below meth c H locs cells slots Q (F0 m pc ls st0) := by
  refine va_callv hr hV.2.2 (fun q _ h => hf q h) hf (fun u t H1 locs1 ht hvm hw hB hz1 hk1 hS1 => ?_)
  obtain ⟨hP1, hD1⟩ := hB
  rw [ht] at hP1
  exact kk H1 locs1 (hj H1 locs1 hk1 hP1 hD1 hS1)

end CALLSC
theorem ki_object : Cond.instanceMethod objectInit ∈ gtbl := gt_of (gt1 (List.mem_of_getElem? (i := 24) rfl)) rfl
theorem kc_object : Cond.code objectInit ⟨#[0xb1]⟩ 1 none ∈ gtbl := gt_of (gt1 (List.mem_of_getElem? (i := 25) rfl)) rfl
theorem ka_int : Cond.arrayClass .int ∈ gtbl := gt_of (gt1 (List.mem_of_getElem? (i := 85) rfl)) rfl
theorem ka_byte : Cond.arrayClass .byte ∈ gtbl := gt_of (gt1 (List.mem_of_getElem? (i := 50) rfl)) rfl
theorem ka_long : Cond.arrayClass .long ∈ gtbl := gt_of (gt5 (List.mem_of_getElem? (i := 237) rfl)) rfl
theorem kl_L_7 : Cond.classLink RL 7 "DyeVats" ∈ gtbl := gt_of (gt1 (List.mem_of_getElem? (i := 18) rfl)) rfl
theorem kl_X11_7 : Cond.classLink RX11 7 "DyeVats$Tape" ∈ gtbl := gt_of (gt1 (List.mem_of_getElem? (i := 26) rfl)) rfl
theorem kl_X11_16 : Cond.classLink RX11 16 "DyeVats$Vats" ∈ gtbl := gt_of (gt1 (List.mem_of_getElem? (i := 51) rfl)) rfl
theorem kl_X11_23 : Cond.classLink RX11 23 "DyeVats$Recipe" ∈ gtbl := gt_of (gt1 (List.mem_of_getElem? (i := 86) rfl)) rfl
theorem kl_X11_34 : Cond.classLink RX11 34 "DyeVats$Spec" ∈ gtbl := gt_of (gt1 (List.mem_of_getElem? (i := 122) rfl)) rfl
theorem kl_X11_44 : Cond.classLink RX11 44 "DyeVats$SpecReader" ∈ gtbl := gt_of (gt1 (List.mem_of_getElem? (i := 152) rfl)) rfl
theorem kl_X11_53 : Cond.classLink RX11 53 "DyeVats$Course" ∈ gtbl := gt_of (gt1 (List.mem_of_getElem? (i := 165) rfl)) rfl
theorem kl_X11_65 : Cond.classLink RX11 65 "DyeVats$Survey" ∈ gtbl := gt_of (gt1 (List.mem_of_getElem? (i := 229) rfl)) rfl
theorem kl_X11_74 : Cond.classLink RX11 74 "DyeVats$Ring" ∈ gtbl := gt_of (gt2 (List.mem_of_getElem? (i := 14) rfl)) rfl
theorem kl_X11_81 : Cond.classLink RX11 81 "DyeVats$Paths" ∈ gtbl := gt_of (gt2 (List.mem_of_getElem? (i := 42) rfl)) rfl
theorem kl_X11_90 : Cond.classLink RX11 90 "DyeVats$Market" ∈ gtbl := gt_of (gt2 (List.mem_of_getElem? (i := 90) rfl)) rfl
theorem kl_X11_97 : Cond.classLink RX11 97 "DyeVats$Ledger" ∈ gtbl := gt_of (gt2 (List.mem_of_getElem? (i := 134) rfl)) rfl
theorem kl_L_10 : Cond.classLink RL 10 "DyeVatsModel" ∈ gtbl := gt_of (gt5 (List.mem_of_getElem? (i := 26) rfl)) rfl
theorem kb_X11 : Cond.instantiable RX11 16 ∈ gtbl := gt_of (gt1 (List.mem_of_getElem? (i := 19) rfl)) rfl
theorem ki_X11 : Cond.initialized RX11 ∈ gtbl := gt_of (gt1 (List.mem_of_getElem? (i := 1) rfl)) rfl
theorem kb_X9 : Cond.instantiable RX9 5 ∈ gtbl := gt_of (gt1 (List.mem_of_getElem? (i := 27) rfl)) rfl
theorem ki_X9 : Cond.initialized RX9 ∈ gtbl := gt_of (gt1 (List.mem_of_getElem? (i := 2) rfl)) rfl
theorem kb_X10 : Cond.instantiable RX10 4 ∈ gtbl := gt_of (gt1 (List.mem_of_getElem? (i := 52) rfl)) rfl
theorem ki_X10 : Cond.initialized RX10 ∈ gtbl := gt_of (gt1 (List.mem_of_getElem? (i := 3) rfl)) rfl
theorem kb_X4 : Cond.instantiable RX4 7 ∈ gtbl := gt_of (gt1 (List.mem_of_getElem? (i := 88) rfl)) rfl
theorem ki_X4 : Cond.initialized RX4 ∈ gtbl := gt_of (gt1 (List.mem_of_getElem? (i := 5) rfl)) rfl
theorem kb_X6 : Cond.instantiable RX6 7 ∈ gtbl := gt_of (gt1 (List.mem_of_getElem? (i := 123) rfl)) rfl
theorem ki_X6 : Cond.initialized RX6 ∈ gtbl := gt_of (gt1 (List.mem_of_getElem? (i := 6) rfl)) rfl
theorem kb_X7 : Cond.instantiable RX7 2 ∈ gtbl := gt_of (gt1 (List.mem_of_getElem? (i := 153) rfl)) rfl
theorem ki_X7 : Cond.initialized RX7 ∈ gtbl := gt_of (gt1 (List.mem_of_getElem? (i := 7) rfl)) rfl
theorem kb_X0 : Cond.instantiable RX0 15 ∈ gtbl := gt_of (gt1 (List.mem_of_getElem? (i := 166) rfl)) rfl
theorem ki_X0 : Cond.initialized RX0 ∈ gtbl := gt_of (gt1 (List.mem_of_getElem? (i := 8) rfl)) rfl
theorem kb_X8 : Cond.instantiable RX8 6 ∈ gtbl := gt_of (gt1 (List.mem_of_getElem? (i := 230) rfl)) rfl
theorem ki_X8 : Cond.initialized RX8 ∈ gtbl := gt_of (gt1 (List.mem_of_getElem? (i := 9) rfl)) rfl
theorem kb_X5 : Cond.instantiable RX5 6 ∈ gtbl := gt_of (gt2 (List.mem_of_getElem? (i := 15) rfl)) rfl
theorem ki_X5 : Cond.initialized RX5 ∈ gtbl := gt_of (gt1 (List.mem_of_getElem? (i := 10) rfl)) rfl
theorem kb_X3 : Cond.instantiable RX3 12 ∈ gtbl := gt_of (gt2 (List.mem_of_getElem? (i := 43) rfl)) rfl
theorem ki_X3 : Cond.initialized RX3 ∈ gtbl := gt_of (gt1 (List.mem_of_getElem? (i := 11) rfl)) rfl
theorem kb_X2 : Cond.instantiable RX2 11 ∈ gtbl := gt_of (gt2 (List.mem_of_getElem? (i := 91) rfl)) rfl
theorem ki_X2 : Cond.initialized RX2 ∈ gtbl := gt_of (gt1 (List.mem_of_getElem? (i := 13) rfl)) rfl
theorem kb_X1 : Cond.instantiable RX1 5 ∈ gtbl := gt_of (gt2 (List.mem_of_getElem? (i := 135) rfl)) rfl
theorem ki_X1 : Cond.initialized RX1 ∈ gtbl := gt_of (gt1 (List.mem_of_getElem? (i := 14) rfl)) rfl
theorem kb_X12 : Cond.instantiable RX12 68 ∈ gtbl := gt_of (gt5 (List.mem_of_getElem? (i := 27) rfl)) rfl
theorem ki_X12 : Cond.initialized RX12 ∈ gtbl := gt_of (gt1 (List.mem_of_getElem? (i := 15) rfl)) rfl
theorem cm_X0_init : Cond.instanceMethod yX0_init ∈ gtbl := gt_of (gt1 (List.mem_of_getElem? (i := 168) rfl)) rfl
theorem cm_X1_init : Cond.instanceMethod yX1_init ∈ gtbl := gt_of (gt2 (List.mem_of_getElem? (i := 137) rfl)) rfl
theorem cm_X2_init : Cond.instanceMethod yX2_init ∈ gtbl := gt_of (gt2 (List.mem_of_getElem? (i := 93) rfl)) rfl
theorem cm_X3_init : Cond.instanceMethod yX3_init ∈ gtbl := gt_of (gt2 (List.mem_of_getElem? (i := 45) rfl)) rfl
theorem cm_X4_init : Cond.instanceMethod yX4_init ∈ gtbl := gt_of (gt1 (List.mem_of_getElem? (i := 90) rfl)) rfl
theorem cm_X5_init : Cond.instanceMethod yX5_init ∈ gtbl := gt_of (gt2 (List.mem_of_getElem? (i := 17) rfl)) rfl
theorem cm_X6_init : Cond.instanceMethod yX6_init ∈ gtbl := gt_of (gt1 (List.mem_of_getElem? (i := 125) rfl)) rfl
theorem cm_X7_init : Cond.instanceMethod yX7_init ∈ gtbl := gt_of (gt1 (List.mem_of_getElem? (i := 155) rfl)) rfl
theorem cm_X8_init : Cond.instanceMethod yX8_init ∈ gtbl := gt_of (gt1 (List.mem_of_getElem? (i := 232) rfl)) rfl
theorem cm_X9_init : Cond.instanceMethod yX9_init ∈ gtbl := gt_of (gt1 (List.mem_of_getElem? (i := 29) rfl)) rfl
theorem cm_X10_init : Cond.instanceMethod yX10_init ∈ gtbl := gt_of (gt1 (List.mem_of_getElem? (i := 54) rfl)) rfl
theorem cm_X11_init : Cond.instanceMethod yX11_init ∈ gtbl := gt_of (gt1 (List.mem_of_getElem? (i := 21) rfl)) rfl
theorem cm_X12_init : Cond.instanceMethod yX12_init ∈ gtbl := gt_of (gt5 (List.mem_of_getElem? (i := 29) rfl)) rfl
theorem met_ofC {l : Launch} {y : MethodName} {cc : ByteArray} {maxL : Nat} {rm : Room} {av : List Value} {ws : va_W} {sz mc ms : Nat} {D : va_G} {cs : Nat → ClassId} {Qc : Array Value → State → Outcome → State → Prop} (own : String) (hyc : y.cls = own) (hyn : y.name = "<init>") (hy : plainName y.cls = true) (hlen : (lg_sl av).length ≤ maxL)
    (body : ∀ (p : Program) (e : Env) (s : State) (m : MethodId) (args : Array Value) (below : List Frame) (meth : Method) (c : Code), CallFix p m c cc maxL s args gtbl own → meth.sig.returnType = none → meth.locks = false → meth.name = "<init>" → KN D cs s → s.heap.size = sz → (∀ q : Nat, s.heap.size ≤ q → va_A ws sz q) → VW D (va_A ws sz) s.heap ws s.heap [] → ∀ ls : Array Slot, lv_has ls maxL (lv_args 0 av) → W p l e rm s m args below meth c s.heap [] 0 0 (MQ below Qc args s mc ms (va_A ws sz)) (F0 m 0 ls [])) :
    Met l y (WS y cc maxL none) rm (va_Pc av (PR D cs ws sz)) Qc mc ms (va_A ws sz) := by
  refine Met.ofW (cc := cc) (maxL := maxL) (ret := none) hy rfl ?_
  intro p e s m args below meth c s₁ B hml hv
  obtain ⟨rfl, hsz, hP, hK, hD0⟩ := hv
  have hts := atoms_spec (ws := WS y cc maxL none) B.pre
  have hown : s.vm.findClass y.cls = some m.cls := findClass_of_methodNamed B.named
  have hin : meth.name = "<init>" := ((name_of_methodNamed B.named B.method).1).trans hyn
  rw [hyc] at hown
  rw [lg_entry_eq]
  exact body p e s m _ below meth c ⟨B.exec, B.bytes, hml, hown, fun w hw => hts w (List.mem_cons_of_mem _ hw)⟩ B.returns B.notSynchronized hin hK hsz (fun q h => Or.inr (by rw [← hsz]; exact h)) ⟨hP, hD0.self, va_S.rf⟩ _ (lv_entry av hlen)
section CTORS
variable {p : Program} {l : Launch} {e : Env} {R : Room} {s : State} {m : MethodId} {args : Array Value} {below : List Frame} {meth : Method} {c : Code} {H : Heap} {locs : List Loc} {cells slots : Nat} {Q : State → Prop}
variable {cc : ByteArray} {pc nL : Nat} {ls : Array Slot} {rest : List Value} {D : va_G} {A : Nat → Prop} {a : Nat} {cs : Nat → ClassId} {ws : va_W} {H0 : Heap} {own : String}
theorem c_obj (hC : CallFix p m c cc nL s args gtbl own) {idx : Nat} (hl : Cond.methodLink own idx objectInit ∈ gtbl) (hsize : ls.size = nL) (hframes : 1 ≤ R.frames) (hlocals : (rest.map fun v => v.category).sum + 12 ≤ R.locals) (hdg : decode cc pc = .ok (.invokespecial idx, 3))
    (kk : W p l e R s m args below meth c H locs cells slots Q (F0 m (pc + 3) ls rest)) : W p l e R s m args below meth c H locs cells slots Q (F0 m pc ls (.ref a :: rest)) :=
  W.objInit hC.1 hC.2.1 hC.2.2.2.1 (hC.2.2.2.2 _ hl) (hC.2.2.2.2 _ ki_object) (hC.2.2.2.2 _ kc_object) rfl (hsize.trans hC.2.2.1.symm) rfl hdg hframes (by show 2 * 0 + _ + 12 ≤ _; omega) kk
theorem c_newi {ty : FieldType} {atype : ArrayType} (k : Nat) (hC : CallFix p m c cc nL s args gtbl own) (hK : KN D cs s) (hV : VW D A H0 ws H locs) (hA : ∀ q, H0.size ≤ q → A q) (hty : newarray.typeOf atype = ty) (hw : Cond.arrayClass ty ∈ gtbl) (hk : (tyL cs)[k]? = some (cs k, ty)) (hra : ∀ x : ClassId, va_RA s x ty → s.vm.findClass ("[" ++ ty.toString) = some x) {n : Int32} {N' : Nat} {a0 : vp_A} (ha : ∀ cA : ClassId, vp_cell cA a0 = arrV cA N' (fun _ => defaultValue ty)) (hn : ¬ n < 0) (hN : n.toNatClampNeg = N') (hbytes : N' * componentBytes ty ≤ 536870912) (hcells : cells + 1 ≤ R.cells) (hslots : slots + N' ≤ R.slots) (hdg : decode cc pc = .ok (.newarray atype, 2))
    (kk : ∀ (q : Nat) (H1 : Heap), VW D A H0 (ws ++ [(q, .inl (cs k, a0))]) H1 locs → W p l e R s m args below meth c H1 locs (cells + 1) (slots + N') Q (F0 m (pc + 2) ls (.ref q :: rest))) : W p l e R s m args below meth c H locs cells slots Q (F0 m pc ls (.int n :: rest)) := by
  refine va_newa hC.1 hC.2.1 (by rw [hty]; exact hC.2.2.2.2 _ hw) hty hK.1 hV.1 hV.2.1 hV.2.2 hA ha hn hN hbytes hcells hslots hdg (fun q cA H1 hK1 hP1 hD1 hS1 => ?_)
  have e1 := hra _ (hK1.2 4 (cA, ty) (by rfl)).2
  have e2 := hra _ (hK.1.2 k (cs k, ty) hk).2
  have e3 : cA = cs k := Option.some.inj (e1.symm.trans e2)
  subst e3
  exact kk q H1 ⟨hP1, hD1, hS1⟩
theorem c_putF {ty : FieldType} (hC : CallFix p m c cc nL s args gtbl own) (hin : meth.name = "<init>") (hK : KN D cs s) (hV : VW D A H0 ws H locs) {C : String} {T : u_T} {N ci index k : Nat} (hF : FL own index ci k C T N) {ty0 : Nat → FieldType} (hT : PT T N ty0) (hfin : (T k).2.2.2 = true) (hdecl : (T k).1 = own) (hty : ty0 k = ty) (q0 : Nat) {fs : List Value} (he : ws[q0]? = some (a, .inr (ci, fs))) {v : Value} (hn : narrow ty v = v) (hfit : fits ty v = true) (hl : k < fs.length) {wn : va_W} (hw : ws.set q0 (a, .inr (ci, fs.set k v)) = wn) (hdg : decode cc pc = .ok (.putfield index, 3))
    (kk : ∀ (H1 : Heap) (locs1 : List Loc), VW D A H0 wn H1 locs1 → W p l e R s m args below meth c H1 locs1 cells slots Q (F0 m (pc + 3) ls rest)) : W p l e R s m args below meth c H locs cells slots Q (F0 m pc ls (v :: .ref a :: rest)) := by
  subst hw
  subst hty
  exact va_putF hC.1 hC.2.1 hC.2.2.2.2 hF.2.2.1 ty0 hT.1 hT.2 hC.2.2.2.1 hK.1 hV.1 hV.2.1 hV.2.2 q0 he hF.1 k hF.2.1 (hC.2.2.2.2 _ hF.2.2.2) (fun _ h => h) hfin hin hdecl (hT.1 k hF.2.1) hn hfit hl hdg (fun H1 locs1 a b c => kk H1 locs1 ⟨a, b, c⟩)
theorem c_new {C : String} {T : u_T} {N ci index : Nat} {ty0 : Nat → FieldType} {fs : List Value} (hC : CallFix p m c cc nL s args gtbl own) (hK : KN D cs s) (hV : VW D A H0 ws H locs) (hA : ∀ q, H0.size ≤ q → A q) (hin : ∀ w ∈ u_ws C T N, w ∈ gtbl) (hT : PT T N ty0) (hcl : Cond.classLink own index C ∈ gtbl) (hib : Cond.instantiable C N ∈ gtbl) (hini : Cond.initialized C ∈ gtbl) (hc : classes[ci]? = some (C, T, N)) (hfs : ∀ j, j < N → defaultValue (ty0 j) = vp_V fs j) (hcells : cells + 1 ≤ R.cells) (hslots : slots + N ≤ R.slots) (hdg : decode cc pc = .ok (.new index, 3))
    (kk : ∀ (q : Nat) (H1 : Heap), VW D A H0 (ws ++ [(q, .inr (ci, fs))]) H1 locs → W p l e R s m args below meth c H1 locs (cells + 1) (slots + N) Q (F0 m (pc + 3) ls (.ref q :: rest))) : W p l e R s m args below meth c H locs cells slots Q (F0 m pc ls rest) :=
  va_new hC.1 hC.2.1 hC.2.2.2.2 hin ty0 hT.1 hC.2.2.2.1 (hC.2.2.2.2 _ hcl) (hC.2.2.2.2 _ hib) (hC.2.2.2.2 _ hini) hK.1 hV.1 hV.2.1 hV.2.2 hA hc hfs hcells hslots hdg (fun q H1 a b c => kk q H1 ⟨a, b, c⟩)
end CTORS
theorem ra_int {s : State} : ∀ x : ClassId, va_RA s x .int → s.vm.findClass ("[" ++ (FieldType.int).toString) = some x := fun _ h => h
theorem ra_byte {s : State} : ∀ x : ClassId, va_RA s x .byte → s.vm.findClass ("[" ++ (FieldType.byte).toString) = some x := fun _ h => h
theorem ra_long {s : State} : ∀ x : ClassId, va_RA s x .long → s.vm.findClass ("[" ++ (FieldType.long).toString) = some x := fun _ h => h
theorem arr_i (N : Nat) (cA : ClassId) : vp_cell cA (N, .inl (fun _ => 0)) = arrV cA N (fun _ => defaultValue .int) := rfl
theorem arr_b (N : Nat) (cA : ClassId) : vp_cell cA (N, .inl (fun _ => 0)) = arrV cA N (fun _ => defaultValue .byte) := rfl
theorem arr_j (N : Nat) (cA : ClassId) : vp_cell cA (N, .inr (.inl (fun _ => 0))) = arrV cA N (fun _ => defaultValue .long) := rfl
