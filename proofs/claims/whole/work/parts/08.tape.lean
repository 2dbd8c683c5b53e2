def rm_X11_within : Room := { frames := 0, cells := 0, slots := 0, locals := 0 }
set_option maxHeartbeats 4000000 in
set_option maxRecDepth 100000 in
theorem b_X11_within_0 {p : Program} {l : Launch} {e : Env} {s : State} {m : MethodId} {args : Array Value} {below : List Frame} {meth : Method} {c : Code} {D : va_G} {cs : Nat → ClassId} {A : Nat → Prop} (hC : CallFix p m c cX11_within 3 s args gtbl RX11) (hr : meth.sig.returnType = (some .boolean)) (hlocks : meth.locks = false) (hK : KN D cs s) (hA : ∀ q : Nat, s.heap.size ≤ q → A q) (u : Int32) : ∀ (v0 v1 v2 : Int32) (H : Heap) (locs : List Loc) (ls : Array Slot), g_X11_within_0 v0 v1 v2 = some u → lv_has ls 3 [(0, .int v0), (1, .int v1), (2, .int v2)] → VW D A s.heap ([]) H locs → W p l e rm_X11_within s m args below meth c H locs 0 0 (MQ below (QI D ([]) A u) args s 0 0 A) (F0 m 0 ls []) := by
  have hx := hC.1
  have hb := hC.2.1
  have hown := hC.2.2.2.1
  have hts := hC.2.2.2.2
  intro v0 v1 v2 H locs ls hf hl hV
  refine lv_iload_n hx hb dX11_within_0 rfl (lv_at hl 0 rfl) ?_
  refine lv_iload_n hx hb dX11_within_1 rfl (lv_at hl 1 rfl) ?_
  refine lv_icmp_lt (tgt := 14) hx hb dX11_within_2 (by decide) (fun hc => ?_) (fun hc => ?_)
  · have hf := hf_t hf hc
    refine lv_iconst (v := 0) hx hb dX11_within_14 (by decide) ?_
    obtain rfl := Option.some.inj hf
    exact q_retz hC hr hlocks hV (Or.inl rfl) dX11_within_15
  · have hf := hf_f hf hc
    refine lv_iload_n hx hb dX11_within_5 rfl (lv_at hl 0 rfl) ?_
    refine lv_iload_n hx hb dX11_within_6 rfl (lv_at hl 2 rfl) ?_
    refine lv_icmp_gt (tgt := 14) hx hb dX11_within_7 (by decide) (fun hc => ?_) (fun hc => ?_)
    · have hf := hf_t hf hc
      refine lv_iconst (v := 0) hx hb dX11_within_14 (by decide) ?_
      obtain rfl := Option.some.inj hf
      exact q_retz hC hr hlocks hV (Or.inl rfl) dX11_within_15
    · have hf := hf_f hf hc
      refine lv_iconst (v := 1) hx hb dX11_within_10 (by decide) ?_
      refine lv_goto (tgt := 15) hx hb dX11_within_11 (by decide) ?_
      obtain rfl := Option.some.inj hf
      exact q_retz hC hr hlocks hV (Or.inr rfl) dX11_within_15
set_option maxRecDepth 100000 in
theorem k_X11_within (l : Launch) (D : va_G) (cs : Nat → ClassId) (v0 v1 v2 : Int32) (u : Int32) (sz : Nat) (hf : f_X11_within v0 v1 v2 = some u) : Met l yX11_within (WS yX11_within cX11_within 3 (some .boolean)) rm_X11_within (va_Pc [.int v0, .int v1, .int v2] (PR D cs ([]) sz)) (QI D ([]) (va_A ([]) sz) u) 0 0 (va_A ([]) sz) := by
  refine met_of RX11 rfl (by decide) (Nat.le_of_ble_eq_true rfl) ?_
  intro p e s m args below meth c hC hr hlocks hK hsz hA hV ls hl
  exact b_X11_within_0 hC hr hlocks hK hA u v0 v1 v2 s.heap [] ls hf (lv_sub hl [0, 1, 2] rfl) hV
def rm_X9_hasRoom : Room := { frames := 0, cells := 0, slots := 0, locals := 0 }
set_option maxHeartbeats 4000000 in
set_option maxRecDepth 100000 in
theorem b_X9_hasRoom_0 {p : Program} {l : Launch} {e : Env} {s : State} {m : MethodId} {args : Array Value} {below : List Frame} {meth : Method} {c : Code} {D : va_G} {cs : Nat → ClassId} {A : Nat → Prop} (hC : CallFix p m c cX9_hasRoom 1 s args gtbl RX9) (hr : meth.sig.returnType = (some .boolean)) (hlocks : meth.locks = false) (hK : KN D cs s) (hA : ∀ q : Nat, s.heap.size ≤ q → A q) (h0 : Nat) (ra0 : Nat → Nat) (y0_0 : Nat → Int32) (x0_2 x0_3 x0_4 : Int32) (u : Int32) : ∀ (x0_1 : Int32) (H : Heap) (locs : List Loc) (ls : Array Slot), g_X9_hasRoom_0 x0_1 = some u → lv_has ls 1 [(0, .ref h0)] → VW D A s.heap (wX9 cs h0 ra0 y0_0 x0_1 x0_2 x0_3 x0_4) H locs → W p l e rm_X9_hasRoom s m args below meth c H locs 0 0 (MQ below (QI D (wX9 cs h0 ra0 y0_0 x0_1 x0_2 x0_3 x0_4) A u) args s 0 0 A) (F0 m 0 ls []) := by
  have hx := hC.1
  have hb := hC.2.1
  have hown := hC.2.2.2.1
  have hts := hC.2.2.2.2
  intro x0_1 H locs ls hf hl hV
  refine lv_aload_n hx hb dX9_hasRoom_0 rfl (lv_at hl 0 rfl) ?_
  refine q_get (v := .int x0_1) hC hK hV fl_X9_15 0 rfl rfl dX9_hasRoom_1 ?_
  refine lv_bipush (v := 20) hx hb dX9_hasRoom_4 (by decide) ?_
  refine lv_iadd hx hb dX9_hasRoom_6 ?_
  refine lv_sipush (v := 160) hx hb dX9_hasRoom_7 (by decide) ?_
  refine lv_icmp_gt (tgt := 17) hx hb dX9_hasRoom_10 (by decide) (fun hc => ?_) (fun hc => ?_)
  · have hf := hf_t hf hc
    refine lv_iconst (v := 0) hx hb dX9_hasRoom_17 (by decide) ?_
    obtain rfl := Option.some.inj hf
    exact q_retz hC hr hlocks hV (Or.inl rfl) dX9_hasRoom_18
  · have hf := hf_f hf hc
    refine lv_iconst (v := 1) hx hb dX9_hasRoom_13 (by decide) ?_
    refine lv_goto (tgt := 18) hx hb dX9_hasRoom_14 (by decide) ?_
    obtain rfl := Option.some.inj hf
    exact q_retz hC hr hlocks hV (Or.inr rfl) dX9_hasRoom_18
set_option maxRecDepth 100000 in
theorem k_X9_hasRoom (l : Launch) (D : va_G) (cs : Nat → ClassId) (h0 : Nat) (ra0 : Nat → Nat) (y0_0 : Nat → Int32) (x0_1 x0_2 x0_3 x0_4 : Int32) (u : Int32) (sz : Nat) (hf : f_X9_hasRoom x0_1 = some u) : Met l yX9_hasRoom (WS yX9_hasRoom cX9_hasRoom 1 (some .boolean)) rm_X9_hasRoom (va_Pc [.ref h0] (PR D cs (wX9 cs h0 ra0 y0_0 x0_1 x0_2 x0_3 x0_4) sz)) (QI D (wX9 cs h0 ra0 y0_0 x0_1 x0_2 x0_3 x0_4) (va_A (wX9 cs h0 ra0 y0_0 x0_1 x0_2 x0_3 x0_4) sz) u) 0 0 (va_A (wX9 cs h0 ra0 y0_0 x0_1 x0_2 x0_3 x0_4) sz) := by
  refine met_of RX9 rfl (by decide) (Nat.le_of_ble_eq_true rfl) ?_
  intro p e s m args below meth c hC hr hlocks hK hsz hA hV ls hl
  exact b_X9_hasRoom_0 hC hr hlocks hK hA h0 ra0 y0_0 x0_2 x0_3 x0_4 u x0_1 s.heap [] ls hf (lv_sub hl [0] rfl) hV
def rm_X9_add : Room := { frames := 0, cells := 0, slots := 0, locals := 0 }
set_option maxHeartbeats 4000000 in
set_option maxRecDepth 100000 in
theorem b_X9_add_3 {p : Program} {l : Launch} {e : Env} {s : State} {m : MethodId} {args : Array Value} {below : List Frame} {meth : Method} {c : Code} {D : va_G} {cs : Nat → ClassId} {A : Nat → Prop} (hC : CallFix p m c cX9_add 3 s args gtbl RX9) (hr : meth.sig.returnType = none) (hlocks : meth.locks = false) (hK : KN D cs s) (hA : ∀ q : Nat, s.heap.size ≤ q → A q) (h0 : Nat) (ra0 : Nat → Nat) (x0_2 x0_3 x0_4 : Int32) (u : (Nat → Int32) × Int32) : ∀ (n : Nat), ∀ (v1 v2 : Int32) (y0_0 : Nat → Int32) (x0_1 : Int32) (H : Heap) (locs : List Loc) (ls : Array Slot), g_X9_add_3 n v1 v2 y0_0 x0_1 = some u → lv_has ls 3 [(0, .ref h0), (1, .int v1), (2, .int v2)] → VW D A s.heap (wX9 cs h0 ra0 y0_0 x0_1 x0_2 x0_3 x0_4) H locs → W p l e rm_X9_add s m args below meth c H locs 0 0 (MQ below (QV D (wX9 cs h0 ra0 u.1 u.2 x0_2 x0_3 x0_4) A) args s 0 0 A) (F0 m 3 ls []) := by
  have hx := hC.1
  have hb := hC.2.1
  have hown := hC.2.2.2.1
  have hts := hC.2.2.2.2
  intro n
  induction n with
  | zero =>
    intro v1 v2 y0_0 x0_1 H locs ls hf hl hV
    exact hf_no (show (none : Option ((Nat → Int32) × Int32)) = some u from hf)
  | succ n ih =>
    intro v1 v2 y0_0 x0_1 H locs ls hf hl hV
    refine lv_iload_n hx hb dX9_add_3 rfl (lv_at hl 2 rfl) ?_
    refine lv_if_lt (tgt := 46) hx hb dX9_add_4 (by decide) (fun hc => ?_) (fun hc => ?_)
    · have hf := hf_t hf hc
      obtain rfl := Option.some.inj hf
      exact q_retv hC hr hlocks hV dX9_add_46 (st := [])
    · have hf := hf_f hf hc
      refine lv_aload_n hx hb dX9_add_7 rfl (lv_at hl 0 rfl) ?_
      refine q_get (v := .int x0_1) hC hK hV fl_X9_15 0 rfl rfl dX9_add_8 ?_
      refine lv_sipush (v := 160) hx hb dX9_add_11 (by decide) ?_
      refine lv_icmp_ge (tgt := 46) hx hb dX9_add_14 (by decide) (fun hc => ?_) (fun hc => ?_)
      · have hf := hf_t hf hc
        obtain rfl := Option.some.inj hf
        exact q_retv hC hr hlocks hV dX9_add_46 (st := [])
      · have hf := hf_f hf hc
        refine lv_aload_n hx hb dX9_add_17 rfl (lv_at hl 0 rfl) ?_
        refine q_get (v := .ref (ra0 0)) hC hK hV fl_X9_11 0 rfl rfl dX9_add_18 ?_
        refine lv_aload_n hx hb dX9_add_21 rfl (lv_at hl 0 rfl) ?_
        refine q_get (v := .int x0_1) hC hK hV fl_X9_15 0 rfl rfl dX9_add_22 ?_
        refine lv_iload_n hx hb dX9_add_25 rfl (lv_at hl 1 rfl) ?_
        refine lv_iload_n hx hb dX9_add_26 rfl (lv_at hl 2 rfl) ?_
        refine lv_ishr hx hb dX9_add_27 ?_
        refine lv_i2b (v := ((v1 >>> (v2 &&& 31)).toInt8.toInt32)) hx hb dX9_add_28 rfl ?_
        obtain ⟨hi1, hf⟩ := hf_if hf
        refine q_bast (wn := wX9 cs h0 ra0 (upd y0_0 x0_1.toNatClampNeg (vp_nar .byte ((v1 >>> (v2 &&& 31)).toInt8.toInt32))) x0_1 x0_2 x0_3 x0_4) hC hK hV 1 rfl hi1 rfl dX9_add_29 (fun H locs hV => ?_)
        refine lv_aload_n hx hb dX9_add_30 rfl (lv_at hl 0 rfl) ?_
        refine lv_dup hx hb dX9_add_31 rfl ?_
        refine q_get (v := .int x0_1) hC hK hV fl_X9_15 0 rfl rfl dX9_add_32 ?_
        refine lv_iconst (v := 1) hx hb dX9_add_35 (by decide) ?_
        refine lv_iadd hx hb dX9_add_36 ?_
        refine q_puti (wn := wX9 cs h0 ra0 (upd y0_0 x0_1.toNatClampNeg (vp_nar .byte ((v1 >>> (v2 &&& 31)).toInt8.toInt32))) (x0_1 + 1) x0_2 x0_3 x0_4) hC hK hV fl_X9_15 ptX9 rfl rfl 0 rfl (Nat.le_of_ble_eq_true rfl) rfl dX9_add_37 (fun H locs hV => ?_)
        refine lv_iinc (v := (v2 + (-8))) (lv' := [(2, .int (v2 + (-8))), (0, .ref h0), (1, .int v1)]) hx hb dX9_add_40 hl (k := 2) rfl (by rfl) (by decide) rfl (fun ls hl => ?_)
        refine lv_goto (tgt := 3) hx hb dX9_add_43 (by decide) ?_
        exact ih v1 (v2 + (-8)) (upd y0_0 x0_1.toNatClampNeg (vp_nar .byte ((v1 >>> (v2 &&& 31)).toInt8.toInt32))) (x0_1 + 1) H locs ls hf (lv_sub hl [1, 2, 0] rfl) hV
set_option maxHeartbeats 4000000 in
set_option maxRecDepth 100000 in
theorem b_X9_add_0 {p : Program} {l : Launch} {e : Env} {s : State} {m : MethodId} {args : Array Value} {below : List Frame} {meth : Method} {c : Code} {D : va_G} {cs : Nat → ClassId} {A : Nat → Prop} (hC : CallFix p m c cX9_add 3 s args gtbl RX9) (hr : meth.sig.returnType = none) (hlocks : meth.locks = false) (hK : KN D cs s) (hA : ∀ q : Nat, s.heap.size ≤ q → A q) (h0 : Nat) (ra0 : Nat → Nat) (x0_2 x0_3 x0_4 : Int32) (u : (Nat → Int32) × Int32) : ∀ (v1 : Int32) (y0_0 : Nat → Int32) (x0_1 : Int32) (H : Heap) (locs : List Loc) (ls : Array Slot), g_X9_add_0 v1 y0_0 x0_1 = some u → lv_has ls 3 [(0, .ref h0), (1, .int v1)] → VW D A s.heap (wX9 cs h0 ra0 y0_0 x0_1 x0_2 x0_3 x0_4) H locs → W p l e rm_X9_add s m args below meth c H locs 0 0 (MQ below (QV D (wX9 cs h0 ra0 u.1 u.2 x0_2 x0_3 x0_4) A) args s 0 0 A) (F0 m 0 ls []) := by
  have hx := hC.1
  have hb := hC.2.1
  have hown := hC.2.2.2.1
  have hts := hC.2.2.2.2
  intro v1 y0_0 x0_1 H locs ls hf hl hV
  refine lv_bipush (v := 24) hx hb dX9_add_0 (by decide) ?_
  refine lv_istore_n (lv' := [(2, .int 24), (0, .ref h0), (1, .int v1)]) hx hb dX9_add_2 rfl hl (by decide) rfl (fun ls hl => ?_)
  exact b_X9_add_3 hC hr hlocks hK hA h0 ra0 x0_2 x0_3 x0_4 u FU v1 24 y0_0 x0_1 H locs ls hf (lv_sub hl [1, 2, 0] rfl) hV
set_option maxRecDepth 100000 in
theorem k_X9_add (l : Launch) (D : va_G) (cs : Nat → ClassId) (h0 : Nat) (ra0 : Nat → Nat) (y0_0 : Nat → Int32) (x0_1 x0_2 x0_3 x0_4 : Int32) (v1 : Int32) (u : (Nat → Int32) × Int32) (sz : Nat) (hf : f_X9_add v1 y0_0 x0_1 = some u) : Met l yX9_add (WS yX9_add cX9_add 3 none) rm_X9_add (va_Pc [.ref h0, .int v1] (PR D cs (wX9 cs h0 ra0 y0_0 x0_1 x0_2 x0_3 x0_4) sz)) (QV D (wX9 cs h0 ra0 u.1 u.2 x0_2 x0_3 x0_4) (va_A (wX9 cs h0 ra0 y0_0 x0_1 x0_2 x0_3 x0_4) sz)) 0 0 (va_A (wX9 cs h0 ra0 y0_0 x0_1 x0_2 x0_3 x0_4) sz) := by
  refine met_of RX9 rfl (by decide) (Nat.le_of_ble_eq_true rfl) ?_
  intro p e s m args below meth c hC hr hlocks hK hsz hA hV ls hl
  exact b_X9_add_0 hC hr hlocks hK hA h0 ra0 x0_2 x0_3 x0_4 u v1 y0_0 x0_1 s.heap [] ls hf (lv_sub hl [0, 1] rfl) hV
def rm_X9_clear : Room := { frames := 0, cells := 0, slots := 0, locals := 0 }
set_option maxHeartbeats 4000000 in
set_option maxRecDepth 100000 in
theorem b_X9_clear_0 {p : Program} {l : Launch} {e : Env} {s : State} {m : MethodId} {args : Array Value} {below : List Frame} {meth : Method} {c : Code} {D : va_G} {cs : Nat → ClassId} {A : Nat → Prop} (hC : CallFix p m c cX9_clear 1 s args gtbl RX9) (hr : meth.sig.returnType = none) (hlocks : meth.locks = false) (hK : KN D cs s) (hA : ∀ q : Nat, s.heap.size ≤ q → A q) (h0 : Nat) (ra0 : Nat → Nat) (y0_0 : Nat → Int32) (x0_2 x0_3 x0_4 : Int32) (u : Int32) : ∀ (x0_1 : Int32) (H : Heap) (locs : List Loc) (ls : Array Slot), g_X9_clear_0 x0_1 = some u → lv_has ls 1 [(0, .ref h0)] → VW D A s.heap (wX9 cs h0 ra0 y0_0 x0_1 x0_2 x0_3 x0_4) H locs → W p l e rm_X9_clear s m args below meth c H locs 0 0 (MQ below (QV D (wX9 cs h0 ra0 y0_0 u x0_2 x0_3 x0_4) A) args s 0 0 A) (F0 m 0 ls []) := by
  have hx := hC.1
  have hb := hC.2.1
  have hown := hC.2.2.2.1
  have hts := hC.2.2.2.2
  intro x0_1 H locs ls hf hl hV
  refine lv_aload_n hx hb dX9_clear_0 rfl (lv_at hl 0 rfl) ?_
  refine lv_iconst (v := 0) hx hb dX9_clear_1 (by decide) ?_
  refine q_puti (wn := wX9 cs h0 ra0 y0_0 0 x0_2 x0_3 x0_4) hC hK hV fl_X9_15 ptX9 rfl rfl 0 rfl (Nat.le_of_ble_eq_true rfl) rfl dX9_clear_2 (fun H locs hV => ?_)
  obtain rfl := Option.some.inj hf
  exact q_retv hC hr hlocks hV dX9_clear_5 (st := [])
set_option maxRecDepth 100000 in
theorem k_X9_clear (l : Launch) (D : va_G) (cs : Nat → ClassId) (h0 : Nat) (ra0 : Nat → Nat) (y0_0 : Nat → Int32) (x0_1 x0_2 x0_3 x0_4 : Int32) (u : Int32) (sz : Nat) (hf : f_X9_clear x0_1 = some u) : Met l yX9_clear (WS yX9_clear cX9_clear 1 none) rm_X9_clear (va_Pc [.ref h0] (PR D cs (wX9 cs h0 ra0 y0_0 x0_1 x0_2 x0_3 x0_4) sz)) (QV D (wX9 cs h0 ra0 y0_0 u x0_2 x0_3 x0_4) (va_A (wX9 cs h0 ra0 y0_0 x0_1 x0_2 x0_3 x0_4) sz)) 0 0 (va_A (wX9 cs h0 ra0 y0_0 x0_1 x0_2 x0_3 x0_4) sz) := by
  refine met_of RX9 rfl (by decide) (Nat.le_of_ble_eq_true rfl) ?_
  intro p e s m args below meth c hC hr hlocks hK hsz hA hV ls hl
  exact b_X9_clear_0 hC hr hlocks hK hA h0 ra0 y0_0 x0_2 x0_3 x0_4 u x0_1 s.heap [] ls hf (lv_sub hl [0] rfl) hV
def rm_X9_at : Room := { frames := 1, cells := 0, slots := 0, locals := 22 }
set_option maxHeartbeats 4000000 in
set_option maxRecDepth 100000 in
theorem b_X9_at_0 {p : Program} {l : Launch} {e : Env} {s : State} {m : MethodId} {args : Array Value} {below : List Frame} {meth : Method} {c : Code} {D : va_G} {cs : Nat → ClassId} {A : Nat → Prop} (hC : CallFix p m c cX9_at 2 s args gtbl RX9) (hr : meth.sig.returnType = (some .int)) (hlocks : meth.locks = false) (hK : KN D cs s) (hA : ∀ q : Nat, s.heap.size ≤ q → A q) (h0 : Nat) (ra0 : Nat → Nat) (x0_1 x0_2 x0_3 x0_4 : Int32) (u : Int32) : ∀ (v1 : Int32) (y0_0 : Nat → Int32) (H : Heap) (locs : List Loc) (ls : Array Slot), g_X9_at_0 v1 y0_0 = some u → lv_has ls 2 [(0, .ref h0), (1, .int v1)] → VW D A s.heap (wX9 cs h0 ra0 y0_0 x0_1 x0_2 x0_3 x0_4) H locs → W p l e rm_X9_at s m args below meth c H locs 0 0 (MQ below (QI D (wX9 cs h0 ra0 y0_0 x0_1 x0_2 x0_3 x0_4) A u) args s 0 0 A) (F0 m 0 ls []) := by
  have hx := hC.1
  have hb := hC.2.1
  have hown := hC.2.2.2.1
  have hts := hC.2.2.2.2
  intro v1 y0_0 H locs ls hf hl hV
  refine lv_iload_n hx hb dX9_at_0 rfl (lv_at hl 1 rfl) ?_
  refine lv_iconst (v := 0) hx hb dX9_at_1 (by decide) ?_
  refine lv_sipush (v := 159) hx hb dX9_at_2 (by decide) ?_
  obtain ⟨u1, hc1, hf⟩ := hf_b hf
  refine aft_i (run_sn hC (k_X11_within l D cs v1 0 159 u1 H.size hc1) cd_X11_within st_X11_within ml_X9_19 hK rfl rfl ⟨by decide, by decide⟩ (fr_pre hK hV [] rfl (by decide)) rfl hl.1 rfl (Nat.le_of_ble_eq_true rfl) dX9_at_5) hV (va_free hV.2.1 hV.2.2 hA [] rfl) (fr_jn (s := s) (wn := wX9 cs h0 ra0 y0_0 x0_1 x0_2 x0_3 x0_4) hV hA [] [0, 1] [0, 1] rfl rfl (by decide) (by decide) rfl (by decide)) (fun H locs hV => ?_)
  refine lv_if_eq (tgt := 24) hx hb dX9_at_8 (by decide) (fun hc => ?_) (fun hc => ?_)
  · have hf := hf_t hf hc
    refine lv_iconst (v := (-1)) hx hb dX9_at_24 (by decide) ?_
    obtain rfl := Option.some.inj hf
    exact q_ret hC hr hlocks hV dX9_at_25
  · have hf := hf_f hf hc
    refine lv_aload_n hx hb dX9_at_11 rfl (lv_at hl 0 rfl) ?_
    refine q_get (v := .ref (ra0 0)) hC hK hV fl_X9_11 0 rfl rfl dX9_at_12 ?_
    refine lv_iload_n hx hb dX9_at_15 rfl (lv_at hl 1 rfl) ?_
    obtain ⟨hi2, hf⟩ := hf_if hf
    refine q_bald hC hK hV 1 rfl hi2 dX9_at_16 ?_
    refine lv_sipush (v := 255) hx hb dX9_at_17 (by decide) ?_
    refine lv_iand hx hb dX9_at_20 ?_
    refine lv_goto (tgt := 25) hx hb dX9_at_21 (by decide) ?_
    obtain rfl := Option.some.inj hf
    exact q_ret hC hr hlocks hV dX9_at_25
set_option maxRecDepth 100000 in
theorem k_X9_at (l : Launch) (D : va_G) (cs : Nat → ClassId) (h0 : Nat) (ra0 : Nat → Nat) (y0_0 : Nat → Int32) (x0_1 x0_2 x0_3 x0_4 : Int32) (v1 : Int32) (u : Int32) (sz : Nat) (hf : f_X9_at v1 y0_0 = some u) : Met l yX9_at (WS yX9_at cX9_at 2 (some .int)) rm_X9_at (va_Pc [.ref h0, .int v1] (PR D cs (wX9 cs h0 ra0 y0_0 x0_1 x0_2 x0_3 x0_4) sz)) (QI D (wX9 cs h0 ra0 y0_0 x0_1 x0_2 x0_3 x0_4) (va_A (wX9 cs h0 ra0 y0_0 x0_1 x0_2 x0_3 x0_4) sz) u) 0 0 (va_A (wX9 cs h0 ra0 y0_0 x0_1 x0_2 x0_3 x0_4) sz) := by
  refine met_of RX9 rfl (by decide) (Nat.le_of_ble_eq_true rfl) ?_
  intro p e s m args below meth c hC hr hlocks hK hsz hA hV ls hl
  exact b_X9_at_0 hC hr hlocks hK hA h0 ra0 x0_1 x0_2 x0_3 x0_4 u v1 y0_0 s.heap [] ls hf (lv_sub hl [0, 1] rfl) hV
def rm_X9_number : Room := { frames := 2, cells := 0, slots := 0, locals := 43 }
set_option maxHeartbeats 4000000 in
set_option maxRecDepth 100000 in
theorem b_X9_number_4 {p : Program} {l : Launch} {e : Env} {s : State} {m : MethodId} {args : Array Value} {below : List Frame} {meth : Method} {c : Code} {D : va_G} {cs : Nat → ClassId} {A : Nat → Prop} (hC : CallFix p m c cX9_number 4 s args gtbl RX9) (hr : meth.sig.returnType = (some .int)) (hlocks : meth.locks = false) (hK : KN D cs s) (hA : ∀ q : Nat, s.heap.size ≤ q → A q) (h0 : Nat) (ra0 : Nat → Nat) (x0_1 x0_2 x0_3 x0_4 : Int32) (u : Int32) : ∀ (n : Nat), ∀ (v1 v2 v3 : Int32) (y0_0 : Nat → Int32) (H : Heap) (locs : List Loc) (ls : Array Slot), g_X9_number_4 n v1 v2 v3 y0_0 = some u → lv_has ls 4 [(0, .ref h0), (1, .int v1), (2, .int v2), (3, .int v3)] → VW D A s.heap (wX9 cs h0 ra0 y0_0 x0_1 x0_2 x0_3 x0_4) H locs → W p l e rm_X9_number s m args below meth c H locs 0 0 (MQ below (QI D (wX9 cs h0 ra0 y0_0 x0_1 x0_2 x0_3 x0_4) A u) args s 0 0 A) (F0 m 4 ls []) := by
  have hx := hC.1
  have hb := hC.2.1
  have hown := hC.2.2.2.1
  have hts := hC.2.2.2.2
  intro n
  induction n with
  | zero =>
    intro v1 v2 v3 y0_0 H locs ls hf hl hV
    exact hf_no (show (none : Option (Int32)) = some u from hf)
  | succ n ih =>
    intro v1 v2 v3 y0_0 H locs ls hf hl hV
    refine lv_iload_n hx hb dX9_number_4 rfl (lv_at hl 3 rfl) ?_
    refine lv_iconst (v := 4) hx hb dX9_number_5 (by decide) ?_
    refine lv_icmp_ge (tgt := 34) hx hb dX9_number_6 (by decide) (fun hc => ?_) (fun hc => ?_)
    · have hf := hf_t hf hc
      refine lv_iload_n hx hb dX9_number_34 rfl (lv_at hl 2 rfl) ?_
      obtain rfl := Option.some.inj hf
      exact q_ret hC hr hlocks hV dX9_number_35
    · have hf := hf_f hf hc
      refine lv_iload_n hx hb dX9_number_9 rfl (lv_at hl 2 rfl) ?_
      refine lv_bipush (v := 8) hx hb dX9_number_10 (by decide) ?_
      refine lv_ishl hx hb dX9_number_12 ?_
      refine lv_aload_n hx hb dX9_number_13 rfl (lv_at hl 0 rfl) ?_
      refine lv_iconst (v := 4) hx hb dX9_number_14 (by decide) ?_
      refine lv_iload_n hx hb dX9_number_15 rfl (lv_at hl 1 rfl) ?_
      refine lv_imul hx hb dX9_number_16 ?_
      refine lv_iload_n hx hb dX9_number_17 rfl (lv_at hl 3 rfl) ?_
      refine lv_iadd hx hb dX9_number_18 ?_
      obtain ⟨u1, hc1, hf⟩ := hf_b hf
      refine aft_i (run_v hC (k_X9_at l D cs h0 ra0 y0_0 x0_1 x0_2 x0_3 x0_4 ((4 * v1) + v3) u1 H.size hc1) cd_X9_at cv_X9_at ml_X9_23 rfl rfl ⟨by decide, by decide⟩ hK hV (fr_pre0 hK hV) (ci := 9) (q0 := 0) rfl rfl rfl rfl hl.1 rfl (Nat.le_of_ble_eq_true rfl) dX9_number_19) hV (fr_free0 hV hA) (fr_join0 hV hA) (fun H locs hV => ?_)
      refine lv_sipush (v := 255) hx hb dX9_number_22 (by decide) ?_
      refine lv_iand hx hb dX9_number_25 ?_
      refine lv_ior hx hb dX9_number_26 ?_
      refine lv_istore_n (lv' := [(2, .int ((v2 <<< (8 &&& 31)) ||| (u1 &&& 255))), (0, .ref h0), (1, .int v1), (3, .int v3)]) hx hb dX9_number_27 rfl hl (by decide) rfl (fun ls hl => ?_)
      refine lv_iinc (v := (v3 + 1)) (lv' := [(3, .int (v3 + 1)), (2, .int ((v2 <<< (8 &&& 31)) ||| (u1 &&& 255))), (0, .ref h0), (1, .int v1)]) hx hb dX9_number_28 hl (k := 3) rfl (by rfl) (by decide) rfl (fun ls hl => ?_)
      refine lv_goto (tgt := 4) hx hb dX9_number_31 (by decide) ?_
      exact ih v1 ((v2 <<< (8 &&& 31)) ||| (u1 &&& 255)) (v3 + 1) y0_0 H locs ls hf (lv_sub hl [2, 3, 1, 0] rfl) hV
set_option maxHeartbeats 4000000 in
set_option maxRecDepth 100000 in
theorem b_X9_number_0 {p : Program} {l : Launch} {e : Env} {s : State} {m : MethodId} {args : Array Value} {below : List Frame} {meth : Method} {c : Code} {D : va_G} {cs : Nat → ClassId} {A : Nat → Prop} (hC : CallFix p m c cX9_number 4 s args gtbl RX9) (hr : meth.sig.returnType = (some .int)) (hlocks : meth.locks = false) (hK : KN D cs s) (hA : ∀ q : Nat, s.heap.size ≤ q → A q) (h0 : Nat) (ra0 : Nat → Nat) (x0_1 x0_2 x0_3 x0_4 : Int32) (u : Int32) : ∀ (v1 : Int32) (y0_0 : Nat → Int32) (H : Heap) (locs : List Loc) (ls : Array Slot), g_X9_number_0 v1 y0_0 = some u → lv_has ls 4 [(0, .ref h0), (1, .int v1)] → VW D A s.heap (wX9 cs h0 ra0 y0_0 x0_1 x0_2 x0_3 x0_4) H locs → W p l e rm_X9_number s m args below meth c H locs 0 0 (MQ below (QI D (wX9 cs h0 ra0 y0_0 x0_1 x0_2 x0_3 x0_4) A u) args s 0 0 A) (F0 m 0 ls []) := by
  have hx := hC.1
  have hb := hC.2.1
  have hown := hC.2.2.2.1
  have hts := hC.2.2.2.2
  intro v1 y0_0 H locs ls hf hl hV
  refine lv_iconst (v := 0) hx hb dX9_number_0 (by decide) ?_
  refine lv_istore_n (lv' := [(2, .int 0), (0, .ref h0), (1, .int v1)]) hx hb dX9_number_1 rfl hl (by decide) rfl (fun ls hl => ?_)
  refine lv_iconst (v := 0) hx hb dX9_number_2 (by decide) ?_
  refine lv_istore_n (lv' := [(3, .int 0), (2, .int 0), (0, .ref h0), (1, .int v1)]) hx hb dX9_number_3 rfl hl (by decide) rfl (fun ls hl => ?_)
  exact b_X9_number_4 hC hr hlocks hK hA h0 ra0 x0_1 x0_2 x0_3 x0_4 u FU v1 0 0 y0_0 H locs ls hf (lv_sub hl [2, 3, 1, 0] rfl) hV
set_option maxRecDepth 100000 in
theorem k_X9_number (l : Launch) (D : va_G) (cs : Nat → ClassId) (h0 : Nat) (ra0 : Nat → Nat) (y0_0 : Nat → Int32) (x0_1 x0_2 x0_3 x0_4 : Int32) (v1 : Int32) (u : Int32) (sz : Nat) (hf : f_X9_number v1 y0_0 = some u) : Met l yX9_number (WS yX9_number cX9_number 4 (some .int)) rm_X9_number (va_Pc [.ref h0, .int v1] (PR D cs (wX9 cs h0 ra0 y0_0 x0_1 x0_2 x0_3 x0_4) sz)) (QI D (wX9 cs h0 ra0 y0_0 x0_1 x0_2 x0_3 x0_4) (va_A (wX9 cs h0 ra0 y0_0 x0_1 x0_2 x0_3 x0_4) sz) u) 0 0 (va_A (wX9 cs h0 ra0 y0_0 x0_1 x0_2 x0_3 x0_4) sz) := by
  refine met_of RX9 rfl (by decide) (Nat.le_of_ble_eq_true rfl) ?_
  intro p e s m args below meth c hC hr hlocks hK hsz hA hV ls hl
  exact b_X9_number_0 hC hr hlocks hK hA h0 ra0 x0_1 x0_2 x0_3 x0_4 u v1 y0_0 s.heap [] ls hf (lv_sub hl [0, 1] rfl) hV
def rm_X9_takeMeasures : Room := { frames := 2, cells := 0, slots := 0, locals := 43 }
set_option maxHeartbeats 4000000 in
set_option maxRecDepth 100000 in
theorem b_X9_takeMeasures_2 {p : Program} {l : Launch} {e : Env} {s : State} {m : MethodId} {args : Array Value} {below : List Frame} {meth : Method} {c : Code} {D : va_G} {cs : Nat → ClassId} {A : Nat → Prop} (hC : CallFix p m c cX9_takeMeasures 3 s args gtbl RX9) (hr : meth.sig.returnType = none) (hlocks : meth.locks = false) (hK : KN D cs s) (hA : ∀ q : Nat, s.heap.size ≤ q → A q) (h0 : Nat) (ra0 : Nat → Nat) (h1 : Nat) (x0_1 x0_2 x0_3 x0_4 : Int32) (u : (Nat → Int32)) : ∀ (n : Nat), ∀ (v2 : Int32) (y0_0 y1 : Nat → Int32) (H : Heap) (locs : List Loc) (ls : Array Slot), g_X9_takeMeasures_2 n v2 y0_0 y1 = some u → lv_has ls 3 [(0, .ref h0), (1, .ref h1), (2, .int v2)] → VW D A s.heap (wX9 cs h0 ra0 y0_0 x0_1 x0_2 x0_3 x0_4 ++ (wA cs 6 h1 y1)) H locs → W p l e rm_X9_takeMeasures s m args below meth c H locs 0 0 (MQ below (QV D (wX9 cs h0 ra0 y0_0 x0_1 x0_2 x0_3 x0_4 ++ (wA cs 6 h1 u)) A) args s 0 0 A) (F0 m 2 ls []) := by
  have hx := hC.1
  have hb := hC.2.1
  have hown := hC.2.2.2.1
  have hts := hC.2.2.2.2
  intro n
  induction n with
  | zero =>
    intro v2 y0_0 y1 H locs ls hf hl hV
    exact hf_no (show (none : Option ((Nat → Int32))) = some u from hf)
  | succ n ih =>
    intro v2 y0_0 y1 H locs ls hf hl hV
    refine lv_iload_n hx hb dX9_takeMeasures_2 rfl (lv_at hl 2 rfl) ?_
    refine lv_bipush (v := 6) hx hb dX9_takeMeasures_3 (by decide) ?_
    refine lv_icmp_ge (tgt := 28) hx hb dX9_takeMeasures_5 (by decide) (fun hc => ?_) (fun hc => ?_)
    · have hf := hf_t hf hc
      obtain rfl := Option.some.inj hf
      exact q_retv hC hr hlocks hV dX9_takeMeasures_28 (st := [])
    · have hf := hf_f hf hc
      refine lv_iload_n hx hb dX9_takeMeasures_8 rfl (lv_at hl 2 rfl) ?_
      refine lv_aload_n hx hb dX9_takeMeasures_9 rfl (lv_at hl 1 rfl) ?_
      refine q_aleni (v := 6) hC hK hV 2 rfl (by decide) dX9_takeMeasures_10 ?_
      refine lv_icmp_ge (tgt := 28) hx hb dX9_takeMeasures_11 (by decide) (fun hc => ?_) (fun hc => ?_)
      · have hf := hf_t hf hc
        obtain rfl := Option.some.inj hf
        exact q_retv hC hr hlocks hV dX9_takeMeasures_28 (st := [])
      · have hf := hf_f hf hc
        refine lv_aload_n hx hb dX9_takeMeasures_14 rfl (lv_at hl 1 rfl) ?_
        refine lv_iload_n hx hb dX9_takeMeasures_15 rfl (lv_at hl 2 rfl) ?_
        refine lv_aload_n hx hb dX9_takeMeasures_16 rfl (lv_at hl 0 rfl) ?_
        refine lv_iload_n hx hb dX9_takeMeasures_17 rfl (lv_at hl 2 rfl) ?_
        obtain ⟨u1, hc1, hf⟩ := hf_b hf
        refine aft_i (run_v hC (k_X9_at l D cs h0 ra0 y0_0 x0_1 x0_2 x0_3 x0_4 v2 u1 H.size hc1) cd_X9_at cv_X9_at ml_X9_23 rfl rfl ⟨by decide, by decide⟩ hK hV (fr_pre hK hV [0, 1] rfl (by decide)) (ci := 9) (q0 := 0) rfl rfl rfl rfl hl.1 rfl (Nat.le_of_ble_eq_true rfl) dX9_takeMeasures_18) hV (va_free hV.2.1 hV.2.2 hA [0, 1] rfl) (fr_jn (s := s) (wn := wX9 cs h0 ra0 y0_0 x0_1 x0_2 x0_3 x0_4 ++ (wA cs 6 h1 y1)) hV hA [0, 1] [2] [1, 2, 0] rfl rfl (by decide) (by decide) rfl (by decide)) (fun H locs hV => ?_)
        obtain ⟨hi2, hf⟩ := hf_if hf
        refine q_iast (wn := wX9 cs h0 ra0 y0_0 x0_1 x0_2 x0_3 x0_4 ++ (wA cs 6 h1 (upd y1 v2.toNatClampNeg u1))) hC hK hV 2 rfl hi2 rfl dX9_takeMeasures_21 (fun H locs hV => ?_)
        refine lv_iinc (v := (v2 + 1)) (lv' := [(2, .int (v2 + 1)), (0, .ref h0), (1, .ref h1)]) hx hb dX9_takeMeasures_22 hl (k := 2) rfl (by rfl) (by decide) rfl (fun ls hl => ?_)
        refine lv_goto (tgt := 2) hx hb dX9_takeMeasures_25 (by decide) ?_
        exact ih (v2 + 1) y0_0 (upd y1 v2.toNatClampNeg u1) H locs ls hf (lv_sub hl [1, 2, 0] rfl) hV
set_option maxHeartbeats 4000000 in
set_option maxRecDepth 100000 in
theorem b_X9_takeMeasures_0 {p : Program} {l : Launch} {e : Env} {s : State} {m : MethodId} {args : Array Value} {below : List Frame} {meth : Method} {c : Code} {D : va_G} {cs : Nat → ClassId} {A : Nat → Prop} (hC : CallFix p m c cX9_takeMeasures 3 s args gtbl RX9) (hr : meth.sig.returnType = none) (hlocks : meth.locks = false) (hK : KN D cs s) (hA : ∀ q : Nat, s.heap.size ≤ q → A q) (h0 : Nat) (ra0 : Nat → Nat) (h1 : Nat) (x0_1 x0_2 x0_3 x0_4 : Int32) (u : (Nat → Int32)) : ∀ (y0_0 y1 : Nat → Int32) (H : Heap) (locs : List Loc) (ls : Array Slot), g_X9_takeMeasures_0 y0_0 y1 = some u → lv_has ls 3 [(0, .ref h0), (1, .ref h1)] → VW D A s.heap (wX9 cs h0 ra0 y0_0 x0_1 x0_2 x0_3 x0_4 ++ (wA cs 6 h1 y1)) H locs → W p l e rm_X9_takeMeasures s m args below meth c H locs 0 0 (MQ below (QV D (wX9 cs h0 ra0 y0_0 x0_1 x0_2 x0_3 x0_4 ++ (wA cs 6 h1 u)) A) args s 0 0 A) (F0 m 0 ls []) := by
  have hx := hC.1
  have hb := hC.2.1
  have hown := hC.2.2.2.1
  have hts := hC.2.2.2.2
  intro y0_0 y1 H locs ls hf hl hV
  refine lv_iconst (v := 0) hx hb dX9_takeMeasures_0 (by decide) ?_
  refine lv_istore_n (lv' := [(2, .int 0), (0, .ref h0), (1, .ref h1)]) hx hb dX9_takeMeasures_1 rfl hl (by decide) rfl (fun ls hl => ?_)
  exact b_X9_takeMeasures_2 hC hr hlocks hK hA h0 ra0 h1 x0_1 x0_2 x0_3 x0_4 u FU 0 y0_0 y1 H locs ls hf (lv_sub hl [1, 2, 0] rfl) hV
set_option maxRecDepth 100000 in
theorem k_X9_takeMeasures (l : Launch) (D : va_G) (cs : Nat → ClassId) (h0 : Nat) (ra0 : Nat → Nat) (h1 : Nat) (y0_0 : Nat → Int32) (x0_1 x0_2 x0_3 x0_4 : Int32) (y1 : Nat → Int32) (u : (Nat → Int32)) (sz : Nat) (hf : f_X9_takeMeasures y0_0 y1 = some u) : Met l yX9_takeMeasures (WS yX9_takeMeasures cX9_takeMeasures 3 none) rm_X9_takeMeasures (va_Pc [.ref h0, .ref h1] (PR D cs (wX9 cs h0 ra0 y0_0 x0_1 x0_2 x0_3 x0_4 ++ (wA cs 6 h1 y1)) sz)) (QV D (wX9 cs h0 ra0 y0_0 x0_1 x0_2 x0_3 x0_4 ++ (wA cs 6 h1 u)) (va_A (wX9 cs h0 ra0 y0_0 x0_1 x0_2 x0_3 x0_4 ++ (wA cs 6 h1 y1)) sz)) 0 0 (va_A (wX9 cs h0 ra0 y0_0 x0_1 x0_2 x0_3 x0_4 ++ (wA cs 6 h1 y1)) sz) := by
  refine met_of RX9 rfl (by decide) (Nat.le_of_ble_eq_true rfl) ?_
  intro p e s m args below meth c hC hr hlocks hK hsz hA hV ls hl
  exact b_X9_takeMeasures_0 hC hr hlocks hK hA h0 ra0 h1 x0_1 x0_2 x0_3 x0_4 u y0_0 y1 s.heap [] ls hf (lv_sub hl [0, 1] rfl) hV
def rm_X9_open : Room := { frames := 0, cells := 0, slots := 0, locals := 0 }
set_option maxHeartbeats 4000000 in
set_option maxRecDepth 100000 in
theorem b_X9_open_0 {p : Program} {l : Launch} {e : Env} {s : State} {m : MethodId} {args : Array Value} {below : List Frame} {meth : Method} {c : Code} {D : va_G} {cs : Nat → ClassId} {A : Nat → Prop} (hC : CallFix p m c cX9_open 2 s args gtbl RX9) (hr : meth.sig.returnType = none) (hlocks : meth.locks = false) (hK : KN D cs s) (hA : ∀ q : Nat, s.heap.size ≤ q → A q) (h0 : Nat) (ra0 : Nat → Nat) (y0_0 : Nat → Int32) (x0_1 : Int32) (u : Int32 × Int32 × Int32) : ∀ (v1 x0_2 x0_3 x0_4 : Int32) (H : Heap) (locs : List Loc) (ls : Array Slot), g_X9_open_0 v1 x0_2 x0_3 x0_4 = some u → lv_has ls 2 [(0, .ref h0), (1, .int v1)] → VW D A s.heap (wX9 cs h0 ra0 y0_0 x0_1 x0_2 x0_3 x0_4) H locs → W p l e rm_X9_open s m args below meth c H locs 0 0 (MQ below (QV D (wX9 cs h0 ra0 y0_0 x0_1 u.1 u.2.1 u.2.2) A) args s 0 0 A) (F0 m 0 ls []) := by
  have hx := hC.1
  have hb := hC.2.1
  have hown := hC.2.2.2.1
  have hts := hC.2.2.2.2
  intro v1 x0_2 x0_3 x0_4 H locs ls hf hl hV
  refine lv_aload_n hx hb dX9_open_0 rfl (lv_at hl 0 rfl) ?_
  refine lv_iconst (v := 0) hx hb dX9_open_1 (by decide) ?_
  refine q_puti (wn := wX9 cs h0 ra0 y0_0 x0_1 0 x0_3 x0_4) hC hK hV fl_X9_27 ptX9 rfl rfl 0 rfl (Nat.le_of_ble_eq_true rfl) rfl dX9_open_2 (fun H locs hV => ?_)
  refine lv_aload_n hx hb dX9_open_5 rfl (lv_at hl 0 rfl) ?_
  refine lv_iload_n hx hb dX9_open_6 rfl (lv_at hl 1 rfl) ?_
  refine q_puti (wn := wX9 cs h0 ra0 y0_0 x0_1 0 v1 x0_4) hC hK hV fl_X9_30 ptX9 rfl rfl 0 rfl (Nat.le_of_ble_eq_true rfl) rfl dX9_open_7 (fun H locs hV => ?_)
  refine lv_aload_n hx hb dX9_open_10 rfl (lv_at hl 0 rfl) ?_
  refine lv_iconst (v := 0) hx hb dX9_open_11 (by decide) ?_
  refine q_puti (wn := wX9 cs h0 ra0 y0_0 x0_1 0 v1 0) hC hK hV fl_X9_33 ptX9 rfl rfl 0 rfl (Nat.le_of_ble_eq_true rfl) rfl dX9_open_12 (fun H locs hV => ?_)
  obtain rfl := Option.some.inj hf
  exact q_retv hC hr hlocks hV dX9_open_15 (st := [])
set_option maxRecDepth 100000 in
theorem k_X9_open (l : Launch) (D : va_G) (cs : Nat → ClassId) (h0 : Nat) (ra0 : Nat → Nat) (y0_0 : Nat → Int32) (x0_1 x0_2 x0_3 x0_4 : Int32) (v1 : Int32) (u : Int32 × Int32 × Int32) (sz : Nat) (hf : f_X9_open v1 x0_2 x0_3 x0_4 = some u) : Met l yX9_open (WS yX9_open cX9_open 2 none) rm_X9_open (va_Pc [.ref h0, .int v1] (PR D cs (wX9 cs h0 ra0 y0_0 x0_1 x0_2 x0_3 x0_4) sz)) (QV D (wX9 cs h0 ra0 y0_0 x0_1 u.1 u.2.1 u.2.2) (va_A (wX9 cs h0 ra0 y0_0 x0_1 x0_2 x0_3 x0_4) sz)) 0 0 (va_A (wX9 cs h0 ra0 y0_0 x0_1 x0_2 x0_3 x0_4) sz) := by
  refine met_of RX9 rfl (by decide) (Nat.le_of_ble_eq_true rfl) ?_
  intro p e s m args below meth c hC hr hlocks hK hsz hA hV ls hl
  exact b_X9_open_0 hC hr hlocks hK hA h0 ra0 y0_0 x0_1 u v1 x0_2 x0_3 x0_4 s.heap [] ls hf (lv_sub hl [0, 1] rfl) hV
def rm_X9_sign : Room := { frames := 0, cells := 0, slots := 0, locals := 0 }
set_option maxHeartbeats 4000000 in
set_option maxRecDepth 100000 in
theorem b_X9_sign_0 {p : Program} {l : Launch} {e : Env} {s : State} {m : MethodId} {args : Array Value} {below : List Frame} {meth : Method} {c : Code} {D : va_G} {cs : Nat → ClassId} {A : Nat → Prop} (hC : CallFix p m c cX9_sign 1 s args gtbl RX9) (hr : meth.sig.returnType = (some .int)) (hlocks : meth.locks = false) (hK : KN D cs s) (hA : ∀ q : Nat, s.heap.size ≤ q → A q) (h0 : Nat) (ra0 : Nat → Nat) (x0_1 x0_4 : Int32) (u : Int32) : ∀ (y0_0 : Nat → Int32) (x0_2 x0_3 : Int32) (H : Heap) (locs : List Loc) (ls : Array Slot), g_X9_sign_0 y0_0 x0_2 x0_3 = some u → lv_has ls 1 [(0, .ref h0)] → VW D A s.heap (wX9 cs h0 ra0 y0_0 x0_1 x0_2 x0_3 x0_4) H locs → W p l e rm_X9_sign s m args below meth c H locs 0 0 (MQ below (QI D (wX9 cs h0 ra0 y0_0 x0_1 x0_2 x0_3 x0_4) A u) args s 0 0 A) (F0 m 0 ls []) := by
  have hx := hC.1
  have hb := hC.2.1
  have hown := hC.2.2.2.1
  have hts := hC.2.2.2.2
  intro y0_0 x0_2 x0_3 H locs ls hf hl hV
  refine lv_aload_n hx hb dX9_sign_0 rfl (lv_at hl 0 rfl) ?_
  refine q_get (v := .int x0_2) hC hK hV fl_X9_27 0 rfl rfl dX9_sign_1 ?_
  refine lv_aload_n hx hb dX9_sign_4 rfl (lv_at hl 0 rfl) ?_
  refine q_get (v := .int x0_3) hC hK hV fl_X9_30 0 rfl rfl dX9_sign_5 ?_
  refine lv_icmp_ge (tgt := 37) hx hb dX9_sign_8 (by decide) (fun hc => ?_) (fun hc => ?_)
  · have hf := hf_t hf hc
    refine lv_iconst (v := (-1)) hx hb dX9_sign_37 (by decide) ?_
    obtain rfl := Option.some.inj hf
    exact q_ret hC hr hlocks hV dX9_sign_38
  · have hf := hf_f hf hc
    refine lv_aload_n hx hb dX9_sign_11 rfl (lv_at hl 0 rfl) ?_
    refine q_get (v := .int x0_2) hC hK hV fl_X9_27 0 rfl rfl dX9_sign_12 ?_
    refine lv_sipush (v := 160) hx hb dX9_sign_15 (by decide) ?_
    refine lv_icmp_ge (tgt := 37) hx hb dX9_sign_18 (by decide) (fun hc => ?_) (fun hc => ?_)
    · have hf := hf_t hf hc
      refine lv_iconst (v := (-1)) hx hb dX9_sign_37 (by decide) ?_
      obtain rfl := Option.some.inj hf
      exact q_ret hC hr hlocks hV dX9_sign_38
    · have hf := hf_f hf hc
      refine lv_aload_n hx hb dX9_sign_21 rfl (lv_at hl 0 rfl) ?_
      refine q_get (v := .ref (ra0 0)) hC hK hV fl_X9_11 0 rfl rfl dX9_sign_22 ?_
      refine lv_aload_n hx hb dX9_sign_25 rfl (lv_at hl 0 rfl) ?_
      refine q_get (v := .int x0_2) hC hK hV fl_X9_27 0 rfl rfl dX9_sign_26 ?_
      obtain ⟨hi1, hf⟩ := hf_if hf
      refine q_bald hC hK hV 1 rfl hi1 dX9_sign_29 ?_
      refine lv_sipush (v := 255) hx hb dX9_sign_30 (by decide) ?_
      refine lv_iand hx hb dX9_sign_33 ?_
      refine lv_goto (tgt := 38) hx hb dX9_sign_34 (by decide) ?_
      obtain rfl := Option.some.inj hf
      exact q_ret hC hr hlocks hV dX9_sign_38
set_option maxRecDepth 100000 in
theorem k_X9_sign (l : Launch) (D : va_G) (cs : Nat → ClassId) (h0 : Nat) (ra0 : Nat → Nat) (y0_0 : Nat → Int32) (x0_1 x0_2 x0_3 x0_4 : Int32) (u : Int32) (sz : Nat) (hf : f_X9_sign y0_0 x0_2 x0_3 = some u) : Met l yX9_sign (WS yX9_sign cX9_sign 1 (some .int)) rm_X9_sign (va_Pc [.ref h0] (PR D cs (wX9 cs h0 ra0 y0_0 x0_1 x0_2 x0_3 x0_4) sz)) (QI D (wX9 cs h0 ra0 y0_0 x0_1 x0_2 x0_3 x0_4) (va_A (wX9 cs h0 ra0 y0_0 x0_1 x0_2 x0_3 x0_4) sz) u) 0 0 (va_A (wX9 cs h0 ra0 y0_0 x0_1 x0_2 x0_3 x0_4) sz) := by
  refine met_of RX9 rfl (by decide) (Nat.le_of_ble_eq_true rfl) ?_
  intro p e s m args below meth c hC hr hlocks hK hsz hA hV ls hl
  exact b_X9_sign_0 hC hr hlocks hK hA h0 ra0 x0_1 x0_4 u y0_0 x0_2 x0_3 s.heap [] ls hf (lv_sub hl [0] rfl) hV
def rm_X9_skip : Room := { frames := 0, cells := 0, slots := 0, locals := 0 }
set_option maxHeartbeats 4000000 in
set_option maxRecDepth 100000 in
theorem b_X9_skip_0 {p : Program} {l : Launch} {e : Env} {s : State} {m : MethodId} {args : Array Value} {below : List Frame} {meth : Method} {c : Code} {D : va_G} {cs : Nat → ClassId} {A : Nat → Prop} (hC : CallFix p m c cX9_skip 1 s args gtbl RX9) (hr : meth.sig.returnType = none) (hlocks : meth.locks = false) (hK : KN D cs s) (hA : ∀ q : Nat, s.heap.size ≤ q → A q) (h0 : Nat) (ra0 : Nat → Nat) (y0_0 : Nat → Int32) (x0_1 x0_3 x0_4 : Int32) (u : Int32) : ∀ (x0_2 : Int32) (H : Heap) (locs : List Loc) (ls : Array Slot), g_X9_skip_0 x0_2 = some u → lv_has ls 1 [(0, .ref h0)] → VW D A s.heap (wX9 cs h0 ra0 y0_0 x0_1 x0_2 x0_3 x0_4) H locs → W p l e rm_X9_skip s m args below meth c H locs 0 0 (MQ below (QV D (wX9 cs h0 ra0 y0_0 x0_1 u x0_3 x0_4) A) args s 0 0 A) (F0 m 0 ls []) := by
  have hx := hC.1
  have hb := hC.2.1
  have hown := hC.2.2.2.1
  have hts := hC.2.2.2.2
  intro x0_2 H locs ls hf hl hV
  refine lv_aload_n hx hb dX9_skip_0 rfl (lv_at hl 0 rfl) ?_
  refine lv_dup hx hb dX9_skip_1 rfl ?_
  refine q_get (v := .int x0_2) hC hK hV fl_X9_27 0 rfl rfl dX9_skip_2 ?_
  refine lv_iconst (v := 1) hx hb dX9_skip_5 (by decide) ?_
  refine lv_iadd hx hb dX9_skip_6 ?_
  refine q_puti (wn := wX9 cs h0 ra0 y0_0 x0_1 (x0_2 + 1) x0_3 x0_4) hC hK hV fl_X9_27 ptX9 rfl rfl 0 rfl (Nat.le_of_ble_eq_true rfl) rfl dX9_skip_7 (fun H locs hV => ?_)
  obtain rfl := Option.some.inj hf
  exact q_retv hC hr hlocks hV dX9_skip_10 (st := [])
set_option maxRecDepth 100000 in
theorem k_X9_skip (l : Launch) (D : va_G) (cs : Nat → ClassId) (h0 : Nat) (ra0 : Nat → Nat) (y0_0 : Nat → Int32) (x0_1 x0_2 x0_3 x0_4 : Int32) (u : Int32) (sz : Nat) (hf : f_X9_skip x0_2 = some u) : Met l yX9_skip (WS yX9_skip cX9_skip 1 none) rm_X9_skip (va_Pc [.ref h0] (PR D cs (wX9 cs h0 ra0 y0_0 x0_1 x0_2 x0_3 x0_4) sz)) (QV D (wX9 cs h0 ra0 y0_0 x0_1 u x0_3 x0_4) (va_A (wX9 cs h0 ra0 y0_0 x0_1 x0_2 x0_3 x0_4) sz)) 0 0 (va_A (wX9 cs h0 ra0 y0_0 x0_1 x0_2 x0_3 x0_4) sz) := by
  refine met_of RX9 rfl (by decide) (Nat.le_of_ble_eq_true rfl) ?_
  intro p e s m args below meth c hC hr hlocks hK hsz hA hV ls hl
  exact b_X9_skip_0 hC hr hlocks hK hA h0 ra0 y0_0 x0_1 x0_3 x0_4 u x0_2 s.heap [] ls hf (lv_sub hl [0] rfl) hV
def rm_X9_refuse : Room := { frames := 0, cells := 0, slots := 0, locals := 0 }
set_option maxHeartbeats 4000000 in
set_option maxRecDepth 100000 in
theorem b_X9_refuse_0 {p : Program} {l : Launch} {e : Env} {s : State} {m : MethodId} {args : Array Value} {below : List Frame} {meth : Method} {c : Code} {D : va_G} {cs : Nat → ClassId} {A : Nat → Prop} (hC : CallFix p m c cX9_refuse 2 s args gtbl RX9) (hr : meth.sig.returnType = (some .boolean)) (hlocks : meth.locks = false) (hK : KN D cs s) (hA : ∀ q : Nat, s.heap.size ≤ q → A q) (h0 : Nat) (ra0 : Nat → Nat) (y0_0 : Nat → Int32) (x0_1 x0_3 : Int32) (u : Int32 × Int32) : ∀ (v1 x0_2 x0_4 : Int32) (H : Heap) (locs : List Loc) (ls : Array Slot), g_X9_refuse_0 v1 x0_2 x0_4 = some u → lv_has ls 2 [(0, .ref h0), (1, .int v1)] → VW D A s.heap (wX9 cs h0 ra0 y0_0 x0_1 x0_2 x0_3 x0_4) H locs → W p l e rm_X9_refuse s m args below meth c H locs 0 0 (MQ below (QI D (wX9 cs h0 ra0 y0_0 x0_1 x0_2 x0_3 u.2) A u.1) args s 0 0 A) (F0 m 0 ls []) := by
  have hx := hC.1
  have hb := hC.2.1
  have hown := hC.2.2.2.1
  have hts := hC.2.2.2.2
  intro v1 x0_2 x0_4 H locs ls hf hl hV
  refine lv_aload_n hx hb dX9_refuse_0 rfl (lv_at hl 0 rfl) ?_
  refine lv_sipush (v := (-1000)) hx hb dX9_refuse_1 (by decide) ?_
  refine lv_iload_n hx hb dX9_refuse_4 rfl (lv_at hl 1 rfl) ?_
  refine lv_imul hx hb dX9_refuse_5 ?_
  refine lv_aload_n hx hb dX9_refuse_6 rfl (lv_at hl 0 rfl) ?_
  refine q_get (v := .int x0_2) hC hK hV fl_X9_27 0 rfl rfl dX9_refuse_7 ?_
  refine lv_isub hx hb dX9_refuse_10 ?_
  refine q_puti (wn := wX9 cs h0 ra0 y0_0 x0_1 x0_2 x0_3 (((-1000) * v1) - x0_2)) hC hK hV fl_X9_33 ptX9 rfl rfl 0 rfl (Nat.le_of_ble_eq_true rfl) rfl dX9_refuse_11 (fun H locs hV => ?_)
  refine lv_iconst (v := 0) hx hb dX9_refuse_14 (by decide) ?_
  obtain rfl := Option.some.inj hf
  exact q_retz hC hr hlocks hV (Or.inl rfl) dX9_refuse_15
set_option maxRecDepth 100000 in
theorem k_X9_refuse (l : Launch) (D : va_G) (cs : Nat → ClassId) (h0 : Nat) (ra0 : Nat → Nat) (y0_0 : Nat → Int32) (x0_1 x0_2 x0_3 x0_4 : Int32) (v1 : Int32) (u : Int32 × Int32) (sz : Nat) (hf : f_X9_refuse v1 x0_2 x0_4 = some u) : Met l yX9_refuse (WS yX9_refuse cX9_refuse 2 (some .boolean)) rm_X9_refuse (va_Pc [.ref h0, .int v1] (PR D cs (wX9 cs h0 ra0 y0_0 x0_1 x0_2 x0_3 x0_4) sz)) (QI D (wX9 cs h0 ra0 y0_0 x0_1 x0_2 x0_3 u.2) (va_A (wX9 cs h0 ra0 y0_0 x0_1 x0_2 x0_3 x0_4) sz) u.1) 0 0 (va_A (wX9 cs h0 ra0 y0_0 x0_1 x0_2 x0_3 x0_4) sz) := by
  refine met_of RX9 rfl (by decide) (Nat.le_of_ble_eq_true rfl) ?_
  intro p e s m args below meth c hC hr hlocks hK hsz hA hV ls hl
  exact b_X9_refuse_0 hC hr hlocks hK hA h0 ra0 y0_0 x0_1 x0_3 u v1 x0_2 x0_4 s.heap [] ls hf (lv_sub hl [0, 1] rfl) hV
def rm_X9_pass : Room := { frames := 1, cells := 0, slots := 0, locals := 21 }
set_option maxHeartbeats 4000000 in
set_option maxRecDepth 100000 in
theorem b_X9_pass_0 {p : Program} {l : Launch} {e : Env} {s : State} {m : MethodId} {args : Array Value} {below : List Frame} {meth : Method} {c : Code} {D : va_G} {cs : Nat → ClassId} {A : Nat → Prop} (hC : CallFix p m c cX9_pass 2 s args gtbl RX9) (hr : meth.sig.returnType = (some .boolean)) (hlocks : meth.locks = false) (hK : KN D cs s) (hA : ∀ q : Nat, s.heap.size ≤ q → A q) (h0 : Nat) (ra0 : Nat → Nat) (x0_1 : Int32) (u : Int32 × Int32 × Int32) : ∀ (v1 : Int32) (y0_0 : Nat → Int32) (x0_2 x0_3 x0_4 : Int32) (H : Heap) (locs : List Loc) (ls : Array Slot), g_X9_pass_0 v1 y0_0 x0_2 x0_3 x0_4 = some u → lv_has ls 2 [(0, .ref h0), (1, .int v1)] → VW D A s.heap (wX9 cs h0 ra0 y0_0 x0_1 x0_2 x0_3 x0_4) H locs → W p l e rm_X9_pass s m args below meth c H locs 0 0 (MQ below (QI D (wX9 cs h0 ra0 y0_0 x0_1 u.2.1 x0_3 u.2.2) A u.1) args s 0 0 A) (F0 m 0 ls []) := by
  have hx := hC.1
  have hb := hC.2.1
  have hown := hC.2.2.2.1
  have hts := hC.2.2.2.2
  intro v1 y0_0 x0_2 x0_3 x0_4 H locs ls hf hl hV
  refine lv_aload_n hx hb dX9_pass_0 rfl (lv_at hl 0 rfl) ?_
  obtain ⟨u1, hc1, hf⟩ := hf_b hf
  refine aft_i (run_v hC (k_X9_sign l D cs h0 ra0 y0_0 x0_1 x0_2 x0_3 x0_4 u1 H.size hc1) cd_X9_sign cv_X9_sign ml_X9_36 rfl rfl ⟨by decide, by decide⟩ hK hV (fr_pre0 hK hV) (ci := 9) (q0 := 0) rfl rfl rfl rfl hl.1 rfl (Nat.le_of_ble_eq_true rfl) dX9_pass_1) hV (fr_free0 hV hA) (fr_join0 hV hA) (fun H locs hV => ?_)
  refine lv_iload_n hx hb dX9_pass_4 rfl (lv_at hl 1 rfl) ?_
  refine lv_icmp_eq (tgt := 14) hx hb dX9_pass_5 (by decide) (fun hc => ?_) (fun hc => ?_)
  · have hf := hf_t hf hc
    refine lv_aload_n hx hb dX9_pass_14 rfl (lv_at hl 0 rfl) ?_
    refine lv_dup hx hb dX9_pass_15 rfl ?_
    refine q_get (v := .int x0_2) hC hK hV fl_X9_27 0 rfl rfl dX9_pass_16 ?_
    refine lv_iconst (v := 1) hx hb dX9_pass_19 (by decide) ?_
    refine lv_iadd hx hb dX9_pass_20 ?_
    refine q_puti (wn := wX9 cs h0 ra0 y0_0 x0_1 (x0_2 + 1) x0_3 x0_4) hC hK hV fl_X9_27 ptX9 rfl rfl 0 rfl (Nat.le_of_ble_eq_true rfl) rfl dX9_pass_21 (fun H locs hV => ?_)
    refine lv_iconst (v := 1) hx hb dX9_pass_24 (by decide) ?_
    obtain rfl := Option.some.inj hf
    exact q_retz hC hr hlocks hV (Or.inr rfl) dX9_pass_25
  · have hf := hf_f hf hc
    refine lv_aload_n hx hb dX9_pass_8 rfl (lv_at hl 0 rfl) ?_
    refine lv_iconst (v := 1) hx hb dX9_pass_9 (by decide) ?_
    obtain ⟨u2, hc2, hf⟩ := hf_b hf
    refine aft_i (run_v hC (k_X9_refuse l D cs h0 ra0 y0_0 x0_1 x0_2 x0_3 x0_4 1 u2 H.size hc2) cd_X9_refuse cv_X9_refuse ml_X9_40 rfl rfl ⟨by decide, by decide⟩ hK hV (fr_pre0 hK hV) (ci := 9) (q0 := 0) rfl rfl rfl rfl hl.1 rfl (Nat.le_of_ble_eq_true rfl) dX9_pass_10) hV (fr_free0 hV hA) (fr_join0 hV hA) (fun H locs hV => ?_)
    obtain ⟨hb3, hf⟩ := hf_if hf
    obtain rfl := Option.some.inj hf
    exact q_retz hC hr hlocks hV (zB_is hb3) dX9_pass_13
set_option maxRecDepth 100000 in
theorem k_X9_pass (l : Launch) (D : va_G) (cs : Nat → ClassId) (h0 : Nat) (ra0 : Nat → Nat) (y0_0 : Nat → Int32) (x0_1 x0_2 x0_3 x0_4 : Int32) (v1 : Int32) (u : Int32 × Int32 × Int32) (sz : Nat) (hf : f_X9_pass v1 y0_0 x0_2 x0_3 x0_4 = some u) : Met l yX9_pass (WS yX9_pass cX9_pass 2 (some .boolean)) rm_X9_pass (va_Pc [.ref h0, .int v1] (PR D cs (wX9 cs h0 ra0 y0_0 x0_1 x0_2 x0_3 x0_4) sz)) (QI D (wX9 cs h0 ra0 y0_0 x0_1 u.2.1 x0_3 u.2.2) (va_A (wX9 cs h0 ra0 y0_0 x0_1 x0_2 x0_3 x0_4) sz) u.1) 0 0 (va_A (wX9 cs h0 ra0 y0_0 x0_1 x0_2 x0_3 x0_4) sz) := by
  refine met_of RX9 rfl (by decide) (Nat.le_of_ble_eq_true rfl) ?_
  intro p e s m args below meth c hC hr hlocks hK hsz hA hV ls hl
  exact b_X9_pass_0 hC hr hlocks hK hA h0 ra0 x0_1 u v1 y0_0 x0_2 x0_3 x0_4 s.heap [] ls hf (lv_sub hl [0, 1] rfl) hV
def rm_X9_isRead : Room := { frames := 1, cells := 0, slots := 0, locals := 21 }
set_option maxHeartbeats 4000000 in
set_option maxRecDepth 100000 in
theorem b_X9_isRead_0 {p : Program} {l : Launch} {e : Env} {s : State} {m : MethodId} {args : Array Value} {below : List Frame} {meth : Method} {c : Code} {D : va_G} {cs : Nat → ClassId} {A : Nat → Prop} (hC : CallFix p m c cX9_isRead 1 s args gtbl RX9) (hr : meth.sig.returnType = (some .boolean)) (hlocks : meth.locks = false) (hK : KN D cs s) (hA : ∀ q : Nat, s.heap.size ≤ q → A q) (h0 : Nat) (ra0 : Nat → Nat) (y0_0 : Nat → Int32) (x0_1 : Int32) (u : Int32 × Int32) : ∀ (x0_2 x0_3 x0_4 : Int32) (H : Heap) (locs : List Loc) (ls : Array Slot), g_X9_isRead_0 x0_2 x0_3 x0_4 = some u → lv_has ls 1 [(0, .ref h0)] → VW D A s.heap (wX9 cs h0 ra0 y0_0 x0_1 x0_2 x0_3 x0_4) H locs → W p l e rm_X9_isRead s m args below meth c H locs 0 0 (MQ below (QI D (wX9 cs h0 ra0 y0_0 x0_1 x0_2 x0_3 u.2) A u.1) args s 0 0 A) (F0 m 0 ls []) := by
  have hx := hC.1
  have hb := hC.2.1
  have hown := hC.2.2.2.1
  have hts := hC.2.2.2.2
  intro x0_2 x0_3 x0_4 H locs ls hf hl hV
  refine lv_aload_n hx hb dX9_isRead_0 rfl (lv_at hl 0 rfl) ?_
  refine q_get (v := .int x0_2) hC hK hV fl_X9_27 0 rfl rfl dX9_isRead_1 ?_
  refine lv_aload_n hx hb dX9_isRead_4 rfl (lv_at hl 0 rfl) ?_
  refine q_get (v := .int x0_3) hC hK hV fl_X9_30 0 rfl rfl dX9_isRead_5 ?_
  refine lv_icmp_ge (tgt := 19) hx hb dX9_isRead_8 (by decide) (fun hc => ?_) (fun hc => ?_)
  · have hf := hf_t hf hc
    refine lv_iconst (v := 1) hx hb dX9_isRead_19 (by decide) ?_
    refine lv_goto (tgt := 24) hx hb dX9_isRead_20 (by decide) ?_
    obtain rfl := Option.some.inj hf
    exact q_retz hC hr hlocks hV (Or.inr rfl) dX9_isRead_24
  · have hf := hf_f hf hc
    refine lv_aload_n hx hb dX9_isRead_11 rfl (lv_at hl 0 rfl) ?_
    refine lv_iconst (v := 1) hx hb dX9_isRead_12 (by decide) ?_
    obtain ⟨u1, hc1, hf⟩ := hf_b hf
    refine aft_i (run_v hC (k_X9_refuse l D cs h0 ra0 y0_0 x0_1 x0_2 x0_3 x0_4 1 u1 H.size hc1) cd_X9_refuse cv_X9_refuse ml_X9_40 rfl rfl ⟨by decide, by decide⟩ hK hV (fr_pre0 hK hV) (ci := 9) (q0 := 0) rfl rfl rfl rfl hl.1 rfl (Nat.le_of_ble_eq_true rfl) dX9_isRead_13) hV (fr_free0 hV hA) (fr_join0 hV hA) (fun H locs hV => ?_)
    refine lv_if_eq (tgt := 23) hx hb dX9_isRead_16 (by decide) (fun hc => ?_) (fun hc => ?_)
    · have hf := hf_t hf hc
      refine lv_iconst (v := 0) hx hb dX9_isRead_23 (by decide) ?_
      obtain rfl := Option.some.inj hf
      exact q_retz hC hr hlocks hV (Or.inl rfl) dX9_isRead_24
    · have hf := hf_f hf hc
      refine lv_iconst (v := 1) hx hb dX9_isRead_19 (by decide) ?_
      refine lv_goto (tgt := 24) hx hb dX9_isRead_20 (by decide) ?_
      obtain rfl := Option.some.inj hf
      exact q_retz hC hr hlocks hV (Or.inr rfl) dX9_isRead_24
set_option maxRecDepth 100000 in
theorem k_X9_isRead (l : Launch) (D : va_G) (cs : Nat → ClassId) (h0 : Nat) (ra0 : Nat → Nat) (y0_0 : Nat → Int32) (x0_1 x0_2 x0_3 x0_4 : Int32) (u : Int32 × Int32) (sz : Nat) (hf : f_X9_isRead x0_2 x0_3 x0_4 = some u) : Met l yX9_isRead (WS yX9_isRead cX9_isRead 1 (some .boolean)) rm_X9_isRead (va_Pc [.ref h0] (PR D cs (wX9 cs h0 ra0 y0_0 x0_1 x0_2 x0_3 x0_4) sz)) (QI D (wX9 cs h0 ra0 y0_0 x0_1 x0_2 x0_3 u.2) (va_A (wX9 cs h0 ra0 y0_0 x0_1 x0_2 x0_3 x0_4) sz) u.1) 0 0 (va_A (wX9 cs h0 ra0 y0_0 x0_1 x0_2 x0_3 x0_4) sz) := by
  refine met_of RX9 rfl (by decide) (Nat.le_of_ble_eq_true rfl) ?_
  intro p e s m args below meth c hC hr hlocks hK hsz hA hV ls hl
  exact b_X9_isRead_0 hC hr hlocks hK hA h0 ra0 y0_0 x0_1 u x0_2 x0_3 x0_4 s.heap [] ls hf (lv_sub hl [0] rfl) hV
def rm_X9_canOpen : Room := { frames := 1, cells := 0, slots := 0, locals := 21 }
set_option maxHeartbeats 4000000 in
set_option maxRecDepth 100000 in
theorem b_X9_canOpen_0 {p : Program} {l : Launch} {e : Env} {s : State} {m : MethodId} {args : Array Value} {below : List Frame} {meth : Method} {c : Code} {D : va_G} {cs : Nat → ClassId} {A : Nat → Prop} (hC : CallFix p m c cX9_canOpen 2 s args gtbl RX9) (hr : meth.sig.returnType = (some .boolean)) (hlocks : meth.locks = false) (hK : KN D cs s) (hA : ∀ q : Nat, s.heap.size ≤ q → A q) (h0 : Nat) (ra0 : Nat → Nat) (y0_0 : Nat → Int32) (x0_1 x0_3 : Int32) (u : Int32 × Int32) : ∀ (v1 x0_2 x0_4 : Int32) (H : Heap) (locs : List Loc) (ls : Array Slot), g_X9_canOpen_0 v1 x0_2 x0_4 = some u → lv_has ls 2 [(0, .ref h0), (1, .int v1)] → VW D A s.heap (wX9 cs h0 ra0 y0_0 x0_1 x0_2 x0_3 x0_4) H locs → W p l e rm_X9_canOpen s m args below meth c H locs 0 0 (MQ below (QI D (wX9 cs h0 ra0 y0_0 x0_1 x0_2 x0_3 u.2) A u.1) args s 0 0 A) (F0 m 0 ls []) := by
  have hx := hC.1
  have hb := hC.2.1
  have hown := hC.2.2.2.1
  have hts := hC.2.2.2.2
  intro v1 x0_2 x0_4 H locs ls hf hl hV
  refine lv_iload_n hx hb dX9_canOpen_0 rfl (lv_at hl 1 rfl) ?_
  refine lv_bipush (v := 6) hx hb dX9_canOpen_1 (by decide) ?_
  refine lv_icmp_lt (tgt := 14) hx hb dX9_canOpen_3 (by decide) (fun hc => ?_) (fun hc => ?_)
  · have hf := hf_t hf hc
    refine lv_iconst (v := 1) hx hb dX9_canOpen_14 (by decide) ?_
    refine lv_goto (tgt := 19) hx hb dX9_canOpen_15 (by decide) ?_
    obtain rfl := Option.some.inj hf
    exact q_retz hC hr hlocks hV (Or.inr rfl) dX9_canOpen_19
  · have hf := hf_f hf hc
    refine lv_aload_n hx hb dX9_canOpen_6 rfl (lv_at hl 0 rfl) ?_
    refine lv_iconst (v := 5) hx hb dX9_canOpen_7 (by decide) ?_
    obtain ⟨u1, hc1, hf⟩ := hf_b hf
    refine aft_i (run_v hC (k_X9_refuse l D cs h0 ra0 y0_0 x0_1 x0_2 x0_3 x0_4 5 u1 H.size hc1) cd_X9_refuse cv_X9_refuse ml_X9_40 rfl rfl ⟨by decide, by decide⟩ hK hV (fr_pre0 hK hV) (ci := 9) (q0 := 0) rfl rfl rfl rfl hl.1 rfl (Nat.le_of_ble_eq_true rfl) dX9_canOpen_8) hV (fr_free0 hV hA) (fr_join0 hV hA) (fun H locs hV => ?_)
    refine lv_if_eq (tgt := 18) hx hb dX9_canOpen_11 (by decide) (fun hc => ?_) (fun hc => ?_)
    · have hf := hf_t hf hc
      refine lv_iconst (v := 0) hx hb dX9_canOpen_18 (by decide) ?_
      obtain rfl := Option.some.inj hf
      exact q_retz hC hr hlocks hV (Or.inl rfl) dX9_canOpen_19
    · have hf := hf_f hf hc
      refine lv_iconst (v := 1) hx hb dX9_canOpen_14 (by decide) ?_
      refine lv_goto (tgt := 19) hx hb dX9_canOpen_15 (by decide) ?_
      obtain rfl := Option.some.inj hf
      exact q_retz hC hr hlocks hV (Or.inr rfl) dX9_canOpen_19
set_option maxRecDepth 100000 in
theorem k_X9_canOpen (l : Launch) (D : va_G) (cs : Nat → ClassId) (h0 : Nat) (ra0 : Nat → Nat) (y0_0 : Nat → Int32) (x0_1 x0_2 x0_3 x0_4 : Int32) (v1 : Int32) (u : Int32 × Int32) (sz : Nat) (hf : f_X9_canOpen v1 x0_2 x0_4 = some u) : Met l yX9_canOpen (WS yX9_canOpen cX9_canOpen 2 (some .boolean)) rm_X9_canOpen (va_Pc [.ref h0, .int v1] (PR D cs (wX9 cs h0 ra0 y0_0 x0_1 x0_2 x0_3 x0_4) sz)) (QI D (wX9 cs h0 ra0 y0_0 x0_1 x0_2 x0_3 u.2) (va_A (wX9 cs h0 ra0 y0_0 x0_1 x0_2 x0_3 x0_4) sz) u.1) 0 0 (va_A (wX9 cs h0 ra0 y0_0 x0_1 x0_2 x0_3 x0_4) sz) := by
  refine met_of RX9 rfl (by decide) (Nat.le_of_ble_eq_true rfl) ?_
  intro p e s m args below meth c hC hr hlocks hK hsz hA hV ls hl
  exact b_X9_canOpen_0 hC hr hlocks hK hA h0 ra0 y0_0 x0_1 x0_3 u v1 x0_2 x0_4 s.heap [] ls hf (lv_sub hl [0, 1] rfl) hV
def rm_X10_together : Room := { frames := 0, cells := 0, slots := 0, locals := 0 }
set_option maxHeartbeats 4000000 in
set_option maxRecDepth 100000 in
theorem b_X10_together_4 {p : Program} {l : Launch} {e : Env} {s : State} {m : MethodId} {args : Array Value} {below : List Frame} {meth : Method} {c : Code} {D : va_G} {cs : Nat → ClassId} {A : Nat → Prop} (hC : CallFix p m c cX10_together 3 s args gtbl RX10) (hr : meth.sig.returnType = (some .int)) (hlocks : meth.locks = false) (hK : KN D cs s) (hA : ∀ q : Nat, s.heap.size ≤ q → A q) (h0 : Nat) (ra0 : Nat → Nat) (y0_0 y0_1 : Nat → Int32) (x0_3 : Int32) (u : Int32) : ∀ (n : Nat), ∀ (v1 v2 : Int32) (y0_2 : Nat → Int32) (H : Heap) (locs : List Loc) (ls : Array Slot), g_X10_together_4 n v1 v2 y0_2 = some u → lv_has ls 3 [(0, .ref h0), (1, .int v1), (2, .int v2)] → VW D A s.heap (wX10 cs h0 ra0 y0_0 y0_1 y0_2 x0_3) H locs → W p l e rm_X10_together s m args below meth c H locs 0 0 (MQ below (QI D (wX10 cs h0 ra0 y0_0 y0_1 y0_2 x0_3) A u) args s 0 0 A) (F0 m 4 ls []) := by
  have hx := hC.1
  have hb := hC.2.1
  have hown := hC.2.2.2.1
  have hts := hC.2.2.2.2
  intro n
  induction n with
  | zero =>
    intro v1 v2 y0_2 H locs ls hf hl hV
    exact hf_no (show (none : Option (Int32)) = some u from hf)
  | succ n ih =>
    intro v1 v2 y0_2 H locs ls hf hl hV
    refine lv_iload_n hx hb dX10_together_4 rfl (lv_at hl 2 rfl) ?_
    refine lv_bipush (v := 6) hx hb dX10_together_5 (by decide) ?_
    refine lv_icmp_ge (tgt := 25) hx hb dX10_together_7 (by decide) (fun hc => ?_) (fun hc => ?_)
    · have hf := hf_t hf hc
      refine lv_iload_n hx hb dX10_together_25 rfl (lv_at hl 1 rfl) ?_
      obtain rfl := Option.some.inj hf
      exact q_ret hC hr hlocks hV dX10_together_26
    · have hf := hf_f hf hc
      refine lv_iload_n hx hb dX10_together_10 rfl (lv_at hl 1 rfl) ?_
      refine lv_aload_n hx hb dX10_together_11 rfl (lv_at hl 0 rfl) ?_
      refine q_get (v := .ref (ra0 2)) hC hK hV fl_X10_18 0 rfl rfl dX10_together_12 ?_
      refine lv_iload_n hx hb dX10_together_15 rfl (lv_at hl 2 rfl) ?_
      obtain ⟨hi1, hf⟩ := hf_if hf
      refine q_iald hC hK hV 3 rfl hi1 dX10_together_16 ?_
      refine lv_iadd hx hb dX10_together_17 ?_
      refine lv_istore_n (lv' := [(1, .int (v1 + (y0_2 v2.toNatClampNeg))), (0, .ref h0), (2, .int v2)]) hx hb dX10_together_18 rfl hl (by decide) rfl (fun ls hl => ?_)
      refine lv_iinc (v := (v2 + 1)) (lv' := [(2, .int (v2 + 1)), (1, .int (v1 + (y0_2 v2.toNatClampNeg))), (0, .ref h0)]) hx hb dX10_together_19 hl (k := 2) rfl (by rfl) (by decide) rfl (fun ls hl => ?_)
      refine lv_goto (tgt := 4) hx hb dX10_together_22 (by decide) ?_
      exact ih (v1 + (y0_2 v2.toNatClampNeg)) (v2 + 1) y0_2 H locs ls hf (lv_sub hl [2, 1, 0] rfl) hV
set_option maxHeartbeats 4000000 in
set_option maxRecDepth 100000 in
theorem b_X10_together_0 {p : Program} {l : Launch} {e : Env} {s : State} {m : MethodId} {args : Array Value} {below : List Frame} {meth : Method} {c : Code} {D : va_G} {cs : Nat → ClassId} {A : Nat → Prop} (hC : CallFix p m c cX10_together 3 s args gtbl RX10) (hr : meth.sig.returnType = (some .int)) (hlocks : meth.locks = false) (hK : KN D cs s) (hA : ∀ q : Nat, s.heap.size ≤ q → A q) (h0 : Nat) (ra0 : Nat → Nat) (y0_0 y0_1 : Nat → Int32) (x0_3 : Int32) (u : Int32) : ∀ (y0_2 : Nat → Int32) (H : Heap) (locs : List Loc) (ls : Array Slot), g_X10_together_0 y0_2 = some u → lv_has ls 3 [(0, .ref h0)] → VW D A s.heap (wX10 cs h0 ra0 y0_0 y0_1 y0_2 x0_3) H locs → W p l e rm_X10_together s m args below meth c H locs 0 0 (MQ below (QI D (wX10 cs h0 ra0 y0_0 y0_1 y0_2 x0_3) A u) args s 0 0 A) (F0 m 0 ls []) := by
  have hx := hC.1
  have hb := hC.2.1
  have hown := hC.2.2.2.1
  have hts := hC.2.2.2.2
  intro y0_2 H locs ls hf hl hV
  refine lv_iconst (v := 0) hx hb dX10_together_0 (by decide) ?_
  refine lv_istore_n (lv' := [(1, .int 0), (0, .ref h0)]) hx hb dX10_together_1 rfl hl (by decide) rfl (fun ls hl => ?_)
  refine lv_iconst (v := 0) hx hb dX10_together_2 (by decide) ?_
  refine lv_istore_n (lv' := [(2, .int 0), (1, .int 0), (0, .ref h0)]) hx hb dX10_together_3 rfl hl (by decide) rfl (fun ls hl => ?_)
  exact b_X10_together_4 hC hr hlocks hK hA h0 ra0 y0_0 y0_1 x0_3 u FU 0 0 y0_2 H locs ls hf (lv_sub hl [2, 1, 0] rfl) hV
set_option maxRecDepth 100000 in
theorem k_X10_together (l : Launch) (D : va_G) (cs : Nat → ClassId) (h0 : Nat) (ra0 : Nat → Nat) (y0_0 y0_1 y0_2 : Nat → Int32) (x0_3 : Int32) (u : Int32) (sz : Nat) (hf : f_X10_together y0_2 = some u) : Met l yX10_together (WS yX10_together cX10_together 3 (some .int)) rm_X10_together (va_Pc [.ref h0] (PR D cs (wX10 cs h0 ra0 y0_0 y0_1 y0_2 x0_3) sz)) (QI D (wX10 cs h0 ra0 y0_0 y0_1 y0_2 x0_3) (va_A (wX10 cs h0 ra0 y0_0 y0_1 y0_2 x0_3) sz) u) 0 0 (va_A (wX10 cs h0 ra0 y0_0 y0_1 y0_2 x0_3) sz) := by
  refine met_of RX10 rfl (by decide) (Nat.le_of_ble_eq_true rfl) ?_
  intro p e s m args below meth c hC hr hlocks hK hsz hA hV ls hl
  exact b_X10_together_0 hC hr hlocks hK hA h0 ra0 y0_0 y0_1 x0_3 u y0_2 s.heap [] ls hf (lv_sub hl [0] rfl) hV
def rm_X10_hold : Room := { frames := 0, cells := 0, slots := 0, locals := 0 }
set_option maxHeartbeats 4000000 in
set_option maxRecDepth 100000 in
theorem b_X10_hold_2 {p : Program} {l : Launch} {e : Env} {s : State} {m : MethodId} {args : Array Value} {below : List Frame} {meth : Method} {c : Code} {D : va_G} {cs : Nat → ClassId} {A : Nat → Prop} (hC : CallFix p m c cX10_hold 3 s args gtbl RX10) (hr : meth.sig.returnType = (some .boolean)) (hlocks : meth.locks = false) (hK : KN D cs s) (hA : ∀ q : Nat, s.heap.size ≤ q → A q) (h0 : Nat) (ra0 : Nat → Nat) (h1 : Nat) (y0_0 y0_2 : Nat → Int32) (x0_3 : Int32) (u : Int32) : ∀ (n : Nat), ∀ (v2 : Int32) (y0_1 y1 : Nat → Int32) (H : Heap) (locs : List Loc) (ls : Array Slot), g_X10_hold_2 n v2 y0_1 y1 = some u → lv_has ls 3 [(0, .ref h0), (1, .ref h1), (2, .int v2)] → VW D A s.heap (wX10 cs h0 ra0 y0_0 y0_1 y0_2 x0_3 ++ (wA cs 6 h1 y1)) H locs → W p l e rm_X10_hold s m args below meth c H locs 0 0 (MQ below (QI D (wX10 cs h0 ra0 y0_0 y0_1 y0_2 x0_3 ++ (wA cs 6 h1 y1)) A u) args s 0 0 A) (F0 m 2 ls []) := by
  have hx := hC.1
  have hb := hC.2.1
  have hown := hC.2.2.2.1
  have hts := hC.2.2.2.2
  intro n
  induction n with
  | zero =>
    intro v2 y0_1 y1 H locs ls hf hl hV
    exact hf_no (show (none : Option (Int32)) = some u from hf)
  | succ n ih =>
    intro v2 y0_1 y1 H locs ls hf hl hV
    refine lv_iload_n hx hb dX10_hold_2 rfl (lv_at hl 2 rfl) ?_
    refine lv_bipush (v := 6) hx hb dX10_hold_3 (by decide) ?_
    refine lv_icmp_ge (tgt := 28) hx hb dX10_hold_5 (by decide) (fun hc => ?_) (fun hc => ?_)
    · have hf := hf_t hf hc
      refine lv_iconst (v := 1) hx hb dX10_hold_28 (by decide) ?_
      obtain rfl := Option.some.inj hf
      exact q_retz hC hr hlocks hV (Or.inr rfl) dX10_hold_29
    · have hf := hf_f hf hc
      refine lv_aload_n hx hb dX10_hold_8 rfl (lv_at hl 1 rfl) ?_
      refine lv_iload_n hx hb dX10_hold_9 rfl (lv_at hl 2 rfl) ?_
      obtain ⟨hi1, hf⟩ := hf_if hf
      refine q_iald hC hK hV 4 rfl hi1 dX10_hold_10 ?_
      refine lv_aload_n hx hb dX10_hold_11 rfl (lv_at hl 0 rfl) ?_
      refine q_get (v := .ref (ra0 1)) hC hK hV fl_X10_15 0 rfl rfl dX10_hold_12 ?_
      refine lv_iload_n hx hb dX10_hold_15 rfl (lv_at hl 2 rfl) ?_
      refine q_iald hC hK hV 2 rfl hi1 dX10_hold_16 ?_
      refine lv_icmp_le (tgt := 22) hx hb dX10_hold_17 (by decide) (fun hc => ?_) (fun hc => ?_)
      · have hf := hf_t hf hc
        refine lv_iinc (v := (v2 + 1)) (lv' := [(2, .int (v2 + 1)), (0, .ref h0), (1, .ref h1)]) hx hb dX10_hold_22 hl (k := 2) rfl (by rfl) (by decide) rfl (fun ls hl => ?_)
        refine lv_goto (tgt := 2) hx hb dX10_hold_25 (by decide) ?_
        exact ih (v2 + 1) y0_1 y1 H locs ls hf (lv_sub hl [1, 2, 0] rfl) hV
      · have hf := hf_f hf hc
        refine lv_iconst (v := 0) hx hb dX10_hold_20 (by decide) ?_
        obtain rfl := Option.some.inj hf
        exact q_retz hC hr hlocks hV (Or.inl rfl) dX10_hold_21
set_option maxHeartbeats 4000000 in
set_option maxRecDepth 100000 in
theorem b_X10_hold_0 {p : Program} {l : Launch} {e : Env} {s : State} {m : MethodId} {args : Array Value} {below : List Frame} {meth : Method} {c : Code} {D : va_G} {cs : Nat → ClassId} {A : Nat → Prop} (hC : CallFix p m c cX10_hold 3 s args gtbl RX10) (hr : meth.sig.returnType = (some .boolean)) (hlocks : meth.locks = false) (hK : KN D cs s) (hA : ∀ q : Nat, s.heap.size ≤ q → A q) (h0 : Nat) (ra0 : Nat → Nat) (h1 : Nat) (y0_0 y0_2 : Nat → Int32) (x0_3 : Int32) (u : Int32) : ∀ (y0_1 y1 : Nat → Int32) (H : Heap) (locs : List Loc) (ls : Array Slot), g_X10_hold_0 y0_1 y1 = some u → lv_has ls 3 [(0, .ref h0), (1, .ref h1)] → VW D A s.heap (wX10 cs h0 ra0 y0_0 y0_1 y0_2 x0_3 ++ (wA cs 6 h1 y1)) H locs → W p l e rm_X10_hold s m args below meth c H locs 0 0 (MQ below (QI D (wX10 cs h0 ra0 y0_0 y0_1 y0_2 x0_3 ++ (wA cs 6 h1 y1)) A u) args s 0 0 A) (F0 m 0 ls []) := by
  have hx := hC.1
  have hb := hC.2.1
  have hown := hC.2.2.2.1
  have hts := hC.2.2.2.2
  intro y0_1 y1 H locs ls hf hl hV
  refine lv_iconst (v := 0) hx hb dX10_hold_0 (by decide) ?_
  refine lv_istore_n (lv' := [(2, .int 0), (0, .ref h0), (1, .ref h1)]) hx hb dX10_hold_1 rfl hl (by decide) rfl (fun ls hl => ?_)
  exact b_X10_hold_2 hC hr hlocks hK hA h0 ra0 h1 y0_0 y0_2 x0_3 u FU 0 y0_1 y1 H locs ls hf (lv_sub hl [1, 2, 0] rfl) hV
set_option maxRecDepth 100000 in
theorem k_X10_hold (l : Launch) (D : va_G) (cs : Nat → ClassId) (h0 : Nat) (ra0 : Nat → Nat) (h1 : Nat) (y0_0 y0_1 y0_2 : Nat → Int32) (x0_3 : Int32) (y1 : Nat → Int32) (u : Int32) (sz : Nat) (hf : f_X10_hold y0_1 y1 = some u) : Met l yX10_hold (WS yX10_hold cX10_hold 3 (some .boolean)) rm_X10_hold (va_Pc [.ref h0, .ref h1] (PR D cs (wX10 cs h0 ra0 y0_0 y0_1 y0_2 x0_3 ++ (wA cs 6 h1 y1)) sz)) (QI D (wX10 cs h0 ra0 y0_0 y0_1 y0_2 x0_3 ++ (wA cs 6 h1 y1)) (va_A (wX10 cs h0 ra0 y0_0 y0_1 y0_2 x0_3 ++ (wA cs 6 h1 y1)) sz) u) 0 0 (va_A (wX10 cs h0 ra0 y0_0 y0_1 y0_2 x0_3 ++ (wA cs 6 h1 y1)) sz) := by
  refine met_of RX10 rfl (by decide) (Nat.le_of_ble_eq_true rfl) ?_
  intro p e s m args below meth c hC hr hlocks hK hsz hA hV ls hl
  exact b_X10_hold_0 hC hr hlocks hK hA h0 ra0 h1 y0_0 y0_2 x0_3 u y0_1 y1 s.heap [] ls hf (lv_sub hl [0, 1] rfl) hV
def rm_X10_put : Room := { frames := 0, cells := 0, slots := 0, locals := 0 }
set_option maxHeartbeats 4000000 in
set_option maxRecDepth 100000 in
theorem b_X10_put_64 {p : Program} {l : Launch} {e : Env} {s : State} {m : MethodId} {args : Array Value} {below : List Frame} {meth : Method} {c : Code} {D : va_G} {cs : Nat → ClassId} {A : Nat → Prop} (hC : CallFix p m c cX10_put 6 s args gtbl RX10) (hr : meth.sig.returnType = none) (hlocks : meth.locks = false) (hK : KN D cs s) (hA : ∀ q : Nat, s.heap.size ≤ q → A q) (h0 : Nat) (ra0 : Nat → Nat) (u : (Nat → Int32) × (Nat → Int32) × (Nat → Int32) × Int32) (k30 : Int32 → (Nat → Int32) → (Nat → Int32) → (Nat → Int32) → Int32 → Option ((Nat → Int32) × (Nat → Int32) × (Nat → Int32) × Int32)) (hk30 : ∀ (v5 : Int32) (y0_0 y0_1 y0_2 : Nat → Int32) (x0_3 : Int32) (H : Heap) (locs : List Loc) (ls : Array Slot), k30 v5 y0_0 y0_1 y0_2 x0_3 = some u → lv_has ls 6 [(0, .ref h0), (5, .int v5)] → VW D A s.heap (wX10 cs h0 ra0 y0_0 y0_1 y0_2 x0_3) H locs → W p l e rm_X10_put s m args below meth c H locs 0 0 (MQ below (QV D (wX10 cs h0 ra0 u.1 u.2.1 u.2.2.1 u.2.2.2) A) args s 0 0 A) (F0 m 30 ls [])) : ∀ (v5 s1 : Int32) (y0_0 y0_1 y0_2 : Nat → Int32) (x0_3 : Int32) (H : Heap) (locs : List Loc) (ls : Array Slot), g_X10_put_64 k30 v5 s1 y0_0 y0_1 y0_2 x0_3 = some u → lv_has ls 6 [(0, .ref h0), (5, .int v5)] → VW D A s.heap (wX10 cs h0 ra0 y0_0 y0_1 y0_2 x0_3) H locs → W p l e rm_X10_put s m args below meth c H locs 0 0 (MQ below (QV D (wX10 cs h0 ra0 u.1 u.2.1 u.2.2.1 u.2.2.2) A) args s 0 0 A) (F0 m 64 ls [.int s1, .ref h0]) := by
  have hx := hC.1
  have hb := hC.2.1
  have hown := hC.2.2.2.1
  have hts := hC.2.2.2.2
  intro v5 s1 y0_0 y0_1 y0_2 x0_3 H locs ls hf hl hV
  refine lv_iconst (v := 1) hx hb dX10_put_64 (by decide) ?_
  refine lv_goto (tgt := 69) hx hb dX10_put_65 (by decide) ?_
  refine lv_ior hx hb dX10_put_69 ?_
  obtain ⟨hb1, hf⟩ := hf_if hf
  refine q_putz (wn := wX10 cs h0 ra0 y0_0 y0_1 y0_2 (s1 ||| 1)) hC hK hV fl_X10_27 ptX10 rfl rfl 0 rfl (zB_is hb1) (Nat.le_of_ble_eq_true rfl) rfl dX10_put_70 (fun H locs hV => ?_)
  refine lv_iinc (v := (v5 + 1)) (lv' := [(5, .int (v5 + 1)), (0, .ref h0)]) hx hb dX10_put_73 hl (k := 1) rfl (by rfl) (by decide) rfl (fun ls hl => ?_)
  refine lv_goto (tgt := 30) hx hb dX10_put_76 (by decide) ?_
  exact hk30 (v5 + 1) y0_0 y0_1 y0_2 (s1 ||| 1) H locs ls hf (lv_sub hl [1, 0] rfl) hV
set_option maxHeartbeats 4000000 in
set_option maxRecDepth 100000 in
theorem b_X10_put_30 {p : Program} {l : Launch} {e : Env} {s : State} {m : MethodId} {args : Array Value} {below : List Frame} {meth : Method} {c : Code} {D : va_G} {cs : Nat → ClassId} {A : Nat → Prop} (hC : CallFix p m c cX10_put 6 s args gtbl RX10) (hr : meth.sig.returnType = none) (hlocks : meth.locks = false) (hK : KN D cs s) (hA : ∀ q : Nat, s.heap.size ≤ q → A q) (h0 : Nat) (ra0 : Nat → Nat) (u : (Nat → Int32) × (Nat → Int32) × (Nat → Int32) × Int32) : ∀ (n : Nat), ∀ (v5 : Int32) (y0_0 y0_1 y0_2 : Nat → Int32) (x0_3 : Int32) (H : Heap) (locs : List Loc) (ls : Array Slot), g_X10_put_30 n v5 y0_0 y0_1 y0_2 x0_3 = some u → lv_has ls 6 [(0, .ref h0), (5, .int v5)] → VW D A s.heap (wX10 cs h0 ra0 y0_0 y0_1 y0_2 x0_3) H locs → W p l e rm_X10_put s m args below meth c H locs 0 0 (MQ below (QV D (wX10 cs h0 ra0 u.1 u.2.1 u.2.2.1 u.2.2.2) A) args s 0 0 A) (F0 m 30 ls []) := by
  have hx := hC.1
  have hb := hC.2.1
  have hown := hC.2.2.2.1
  have hts := hC.2.2.2.2
  intro n
  induction n with
  | zero =>
    intro v5 y0_0 y0_1 y0_2 x0_3 H locs ls hf hl hV
    exact hf_no (show (none : Option ((Nat → Int32) × (Nat → Int32) × (Nat → Int32) × Int32)) = some u from hf)
  | succ n ih =>
    intro v5 y0_0 y0_1 y0_2 x0_3 H locs ls hf hl hV
    refine lv_iload hx hb dX10_put_30 (lv_at hl 1 rfl) ?_
    refine lv_bipush (v := 6) hx hb dX10_put_32 (by decide) ?_
    refine lv_icmp_ge (tgt := 79) hx hb dX10_put_34 (by decide) (fun hc => ?_) (fun hc => ?_)
    · have hf := hf_t hf hc
      obtain rfl := Option.some.inj hf
      exact q_retv hC hr hlocks hV dX10_put_79 (st := [])
    · have hf := hf_f hf hc
      refine lv_aload_n hx hb dX10_put_37 rfl (lv_at hl 0 rfl) ?_
      refine lv_dup hx hb dX10_put_38 rfl ?_
      refine q_get (v := .int x0_3) hC hK hV fl_X10_27 0 rfl rfl dX10_put_39 ?_
      refine lv_aload_n hx hb dX10_put_42 rfl (lv_at hl 0 rfl) ?_
      refine q_get (v := .ref (ra0 0)) hC hK hV fl_X10_9 0 rfl rfl dX10_put_43 ?_
      refine lv_iload hx hb dX10_put_46 (lv_at hl 1 rfl) ?_
      obtain ⟨hi1, hf⟩ := hf_if hf
      refine q_iald hC hK hV 1 rfl hi1 dX10_put_48 ?_
      refine lv_iconst (v := 1) hx hb dX10_put_49 (by decide) ?_
      refine lv_icmp_eq (tgt := 64) hx hb dX10_put_50 (by decide) (fun hc => ?_) (fun hc => ?_)
      · have hf := hf_t hf hc
        exact b_X10_put_64 hC hr hlocks hK hA h0 ra0 u (g_X10_put_30 n) ih v5 x0_3 y0_0 y0_1 y0_2 x0_3 H locs ls hf (lv_sub hl [0, 1] rfl) hV
      · have hf := hf_f hf hc
        refine lv_aload_n hx hb dX10_put_53 rfl (lv_at hl 0 rfl) ?_
        refine q_get (v := .ref (ra0 0)) hC hK hV fl_X10_9 0 rfl rfl dX10_put_54 ?_
        refine lv_iload hx hb dX10_put_57 (lv_at hl 1 rfl) ?_
        refine q_iald hC hK hV 1 rfl hi1 dX10_put_59 ?_
        refine lv_iconst (v := 3) hx hb dX10_put_60 (by decide) ?_
        refine lv_icmp_ne (tgt := 68) hx hb dX10_put_61 (by decide) (fun hc => ?_) (fun hc => ?_)
        · have hf := hf_f hf hc
          refine lv_iconst (v := 0) hx hb dX10_put_68 (by decide) ?_
          refine lv_ior hx hb dX10_put_69 ?_
          obtain ⟨hb2, hf⟩ := hf_if hf
          refine q_putz (wn := wX10 cs h0 ra0 y0_0 y0_1 y0_2 (x0_3 ||| 0)) hC hK hV fl_X10_27 ptX10 rfl rfl 0 rfl (zB_is hb2) (Nat.le_of_ble_eq_true rfl) rfl dX10_put_70 (fun H locs hV => ?_)
          refine lv_iinc (v := (v5 + 1)) (lv' := [(5, .int (v5 + 1)), (0, .ref h0)]) hx hb dX10_put_73 hl (k := 1) rfl (by rfl) (by decide) rfl (fun ls hl => ?_)
          refine lv_goto (tgt := 30) hx hb dX10_put_76 (by decide) ?_
          exact ih (v5 + 1) y0_0 y0_1 y0_2 (x0_3 ||| 0) H locs ls hf (lv_sub hl [1, 0] rfl) hV
        · have hf := hf_t hf hc
          exact b_X10_put_64 hC hr hlocks hK hA h0 ra0 u (g_X10_put_30 n) ih v5 x0_3 y0_0 y0_1 y0_2 x0_3 H locs ls hf (lv_sub hl [0, 1] rfl) hV
set_option maxHeartbeats 4000000 in
set_option maxRecDepth 100000 in
theorem b_X10_put_0 {p : Program} {l : Launch} {e : Env} {s : State} {m : MethodId} {args : Array Value} {below : List Frame} {meth : Method} {c : Code} {D : va_G} {cs : Nat → ClassId} {A : Nat → Prop} (hC : CallFix p m c cX10_put 6 s args gtbl RX10) (hr : meth.sig.returnType = none) (hlocks : meth.locks = false) (hK : KN D cs s) (hA : ∀ q : Nat, s.heap.size ≤ q → A q) (h0 : Nat) (ra0 : Nat → Nat) (u : (Nat → Int32) × (Nat → Int32) × (Nat → Int32) × Int32) : ∀ (v1 v2 v3 v4 : Int32) (y0_0 y0_1 y0_2 : Nat → Int32) (x0_3 : Int32) (H : Heap) (locs : List Loc) (ls : Array Slot), g_X10_put_0 v1 v2 v3 v4 y0_0 y0_1 y0_2 x0_3 = some u → lv_has ls 6 [(0, .ref h0), (1, .int v1), (2, .int v2), (3, .int v3), (4, .int v4)] → VW D A s.heap (wX10 cs h0 ra0 y0_0 y0_1 y0_2 x0_3) H locs → W p l e rm_X10_put s m args below meth c H locs 0 0 (MQ below (QV D (wX10 cs h0 ra0 u.1 u.2.1 u.2.2.1 u.2.2.2) A) args s 0 0 A) (F0 m 0 ls []) := by
  have hx := hC.1
  have hb := hC.2.1
  have hown := hC.2.2.2.1
  have hts := hC.2.2.2.2
  intro v1 v2 v3 v4 y0_0 y0_1 y0_2 x0_3 H locs ls hf hl hV
  refine lv_aload_n hx hb dX10_put_0 rfl (lv_at hl 0 rfl) ?_
  refine q_get (v := .ref (ra0 0)) hC hK hV fl_X10_9 0 rfl rfl dX10_put_1 ?_
  refine lv_iload_n hx hb dX10_put_4 rfl (lv_at hl 1 rfl) ?_
  refine lv_iload_n hx hb dX10_put_5 rfl (lv_at hl 2 rfl) ?_
  obtain ⟨hi1, hf⟩ := hf_if hf
  refine q_iast (wn := wX10 cs h0 ra0 (upd y0_0 v1.toNatClampNeg v2) y0_1 y0_2 x0_3) hC hK hV 1 rfl hi1 rfl dX10_put_6 (fun H locs hV => ?_)
  refine lv_aload_n hx hb dX10_put_7 rfl (lv_at hl 0 rfl) ?_
  refine q_get (v := .ref (ra0 1)) hC hK hV fl_X10_15 0 rfl rfl dX10_put_8 ?_
  refine lv_iload_n hx hb dX10_put_11 rfl (lv_at hl 1 rfl) ?_
  refine lv_iload_n hx hb dX10_put_12 rfl (lv_at hl 3 rfl) ?_
  refine q_iast (wn := wX10 cs h0 ra0 (upd y0_0 v1.toNatClampNeg v2) (upd y0_1 v1.toNatClampNeg v3) y0_2 x0_3) hC hK hV 2 rfl hi1 rfl dX10_put_13 (fun H locs hV => ?_)
  refine lv_aload_n hx hb dX10_put_14 rfl (lv_at hl 0 rfl) ?_
  refine q_get (v := .ref (ra0 2)) hC hK hV fl_X10_18 0 rfl rfl dX10_put_15 ?_
  refine lv_iload_n hx hb dX10_put_18 rfl (lv_at hl 1 rfl) ?_
  refine lv_iload hx hb dX10_put_19 (lv_at hl 4 rfl) ?_
  refine q_iast (wn := wX10 cs h0 ra0 (upd y0_0 v1.toNatClampNeg v2) (upd y0_1 v1.toNatClampNeg v3) (upd y0_2 v1.toNatClampNeg v4) x0_3) hC hK hV 3 rfl hi1 rfl dX10_put_21 (fun H locs hV => ?_)
  refine lv_aload_n hx hb dX10_put_22 rfl (lv_at hl 0 rfl) ?_
  refine lv_iconst (v := 0) hx hb dX10_put_23 (by decide) ?_
  refine q_putz (wn := wX10 cs h0 ra0 (upd y0_0 v1.toNatClampNeg v2) (upd y0_1 v1.toNatClampNeg v3) (upd y0_2 v1.toNatClampNeg v4) 0) hC hK hV fl_X10_27 ptX10 rfl rfl 0 rfl (Or.inl rfl) (Nat.le_of_ble_eq_true rfl) rfl dX10_put_24 (fun H locs hV => ?_)
  refine lv_iconst (v := 0) hx hb dX10_put_27 (by decide) ?_
  refine lv_istore (lv' := [(5, .int 0), (0, .ref h0), (1, .int v1), (2, .int v2), (3, .int v3), (4, .int v4)]) hx hb dX10_put_28 hl (by decide) rfl (fun ls hl => ?_)
  exact b_X10_put_30 hC hr hlocks hK hA h0 ra0 u FU 0 (upd y0_0 v1.toNatClampNeg v2) (upd y0_1 v1.toNatClampNeg v3) (upd y0_2 v1.toNatClampNeg v4) 0 H locs ls hf (lv_sub hl [1, 0] rfl) hV
set_option maxRecDepth 100000 in
theorem k_X10_put (l : Launch) (D : va_G) (cs : Nat → ClassId) (h0 : Nat) (ra0 : Nat → Nat) (y0_0 y0_1 y0_2 : Nat → Int32) (x0_3 : Int32) (v1 v2 v3 v4 : Int32) (u : (Nat → Int32) × (Nat → Int32) × (Nat → Int32) × Int32) (sz : Nat) (hf : f_X10_put v1 v2 v3 v4 y0_0 y0_1 y0_2 x0_3 = some u) : Met l yX10_put (WS yX10_put cX10_put 6 none) rm_X10_put (va_Pc [.ref h0, .int v1, .int v2, .int v3, .int v4] (PR D cs (wX10 cs h0 ra0 y0_0 y0_1 y0_2 x0_3) sz)) (QV D (wX10 cs h0 ra0 u.1 u.2.1 u.2.2.1 u.2.2.2) (va_A (wX10 cs h0 ra0 y0_0 y0_1 y0_2 x0_3) sz)) 0 0 (va_A (wX10 cs h0 ra0 y0_0 y0_1 y0_2 x0_3) sz) := by
  refine met_of RX10 rfl (by decide) (Nat.le_of_ble_eq_true rfl) ?_
  intro p e s m args below meth c hC hr hlocks hK hsz hA hV ls hl
  exact b_X10_put_0 hC hr hlocks hK hA h0 ra0 u v1 v2 v3 v4 y0_0 y0_1 y0_2 x0_3 s.heap [] ls hf (lv_sub hl [0, 1, 2, 3, 4] rfl) hV
