theorem hf_no {α : Type} {u : α} {P : Prop} (h : (none : Option α) = some u) : P := by cases h
theorem fm_some {ws : va_W} : ∀ (is : List Nat), is.all (fun i => decide (i < ws.length)) = true → is.map (fun i => ws[i]?) = (is.filterMap (fun i => ws[i]?)).map some
  | [], _ => rfl
  | i :: is, h => by
    rw [List.all_cons, Bool.and_eq_true] at h
    have hi : i < ws.length := of_decide_eq_true h.1
    have e : ws[i]? = some ws[i] := List.getElem?_eq_getElem hi
    rw [List.map_cons, List.filterMap_cons, e, List.map_cons, fm_some is h.2]
theorem fr_jn {s : State} {H : Heap} {locs : List Loc} {D : va_G} {A : Nat → Prop} {ws wc w1 wn : va_W} {H0 : Heap} (hV : VW D A H0 ws H locs) (hA : ∀ q, H0.size ≤ q → A q) (isC isR isN : List Nat) (hC : isC.map (fun i => ws[i]?) = wc.map some) (hR : isR.all (fun i => decide (i < ws.length)) = true) (hn : va_nd isR = true) (hdis : ∀ i ∈ isR, i ∉ isC) (hN : isN.map (fun i => (isR.filterMap (fun j => ws[j]?) ++ w1)[i]?) = wn.map some) (hnn : va_nd isN = true)
    (H1 : Heap) (locs1 : List Loc) (hk : ∀ q : Nat, q < H.size → ¬ va_A wc H.size q → H1[q]? = H[q]?) (hP1 : va_P D classes w1 H1) (hD1 : va_D (va_A wc H.size) w1) (hS1 : va_S A H0 H1 locs1) : VW D A H0 wn H1 locs1 :=
  fr_join hV hA isC isR isN hC (fm_some isR hR) hn hdis hN hnn H1 locs1 hk hP1 hD1 hS1
/-- as Met.ofW, by the method's own name -/
theorem met_wf {l : Launch} {y : MethodName} {ws ws' : List Cond} {rm : Room} {Pc : Array Value → State → Prop} {Qc : Array Value → State → Outcome → State → Prop} {mc ms : Nat} {free : Addr → Prop} {cc : ByteArray} {maxL : Nat} {ret : Option FieldType}
    (hy : plainFor y = true) (hw : ws = Cond.code y cc maxL ret :: ws')
    (body : ∀ p e s m args below meth c s₁, BodyLoose p l y (headSpec ws rm) cc maxL ret e s m args below meth c s₁ → c.maxLocals = maxL → Pc args s →
      W p l e (headSpec ws rm).room s m args below meth c s.heap [] 0 0 (MQ below Qc args s mc ms free) (entryFrame m args maxL)) : Met l y ws rm Pc Qc mc ms free := by
  refine MetFree.of_bodySF (code := cc) (maxLocals := maxL) (ret := ret) hy ?_ ?_
  · intro args s m h hn
    obtain ⟨meth, c, h1, h2, h3, h4, h5, h6, -, -⟩ := Cond.code_spec hn (atoms_spec (ws := ws) h _ (by rw [hw]; exact List.mem_cons_self))
    exact ⟨meth, c, h1, h2, h3, h4, h5, h6⟩
  · intro p e s m args below meth c s₁ B hml hP _
    have hh0 : s₁.heap = s.heap := by rw [B.state]; rfl
    obtain ⟨t, a1, o, b1, b2, b3⟩ := body p e s m args below meth c s₁ B hml hP s₁ hh0 (Stand.of_body B)
    exact ⟨t, o, a1, b1, b2, ⟨b3.1, b3.2⟩⟩
theorem met_off {l : Launch} {y : MethodName} {cc : ByteArray} {maxL : Nat} {ret : Option FieldType} {rm : Room} {av : List Value} {ws : va_W} {sz : Nat} {D : va_G} {cs : Nat → ClassId} {Qc : Array Value → State → Outcome → State → Prop} (own : String) (hyc : y.cls = own) (hy : plainFor y = true) (hlen : (lg_sl av).length ≤ maxL)
    (body : ∀ (p : Program) (e : Env) (s : State) (m : MethodId) (args : Array Value) (below : List Frame) (meth : Method) (c : Code), CallFix p m c cc maxL s args gtbl own → meth.sig.returnType = ret → meth.locks = false → KN D cs s → s.heap.size = sz → (∀ q : Nat, s.heap.size ≤ q → va_A ws sz q) → VW D (va_A ws sz) s.heap ws s.heap [] → ∀ ls : Array Slot, lv_has ls maxL (lv_args 0 av) → W p l e rm s m args below meth c s.heap [] 0 0 (MQ below Qc args s 0 0 (va_A ws sz)) (F0 m 0 ls [])) :
    Met l y (WS y cc maxL ret) rm (va_Pc av (PR D cs ws sz)) Qc 0 0 (va_A ws sz) := by
  refine met_wf (cc := cc) (maxL := maxL) (ret := ret) hy rfl ?_
  intro p e s m args below meth c s₁ B hml hv
  obtain ⟨rfl, hsz, hP, hK, hD0⟩ := hv
  have hts := atoms_spec (ws := WS y cc maxL ret) B.pre
  have hown : s.vm.findClass y.cls = some m.cls := findClass_of_methodNamed B.named
  rw [hyc] at hown
  rw [lg_entry_eq]
  exact body p e s m _ below meth c ⟨B.exec, B.bytes, hml, hown, fun w hw => hts w (List.mem_cons_of_mem _ hw)⟩ B.returns B.notSynchronized hK hsz (fun q h => Or.inr (by rw [← hsz]; exact h)) ⟨hP, hD0.self, va_S.rf⟩ _ (lv_entry av hlen)
