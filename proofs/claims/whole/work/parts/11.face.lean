def rm_X11_vat : Room := { frames := 1, cells := 0, slots := 0, locals := 25 }
set_option maxHeartbeats 4000000 in
set_option maxRecDepth 100000 in
theorem b_X11_vat_0 {p : Program} {l : Launch} {e : Env} {s : State} {m : MethodId} {args : Array Value} {below : List Frame} {meth : Method} {c : Code} {D : va_G} {cs : Nat → ClassId} {A : Nat → Prop} (hC : CallFix p m c cX11_vat 5 s args gtbl RX11) (hr : meth.sig.returnType = (some .boolean)) (hlocks : meth.locks = false) (hK : KN D cs s) (hA : ∀ q : Nat, s.heap.size ≤ q → A q) (h0 : Nat) (o0_0 : Nat) (o0_2a : Nat) (o0_2b : Nat) (o0_2c : Nat) (o0_3 : Nat) (o0_4 : Nat) (o0_5 : Nat) (o0_6 : Nat) (o0_7 : Nat) (o0_8 : Nat) (o0_9 : Nat) (o0_10 : Nat) (o0_11 : Nat) (o0_12 : Nat) (o0_13 : Nat) (o0_14 : Nat) (ra0 : Nat → Nat) (h1 : Nat) (ra1 : Nat → Nat) (x0_15 : Int32) (u : Int32 × (Nat → Int32) × (Nat → Int32) × (Nat → Int32) × Int32) : ∀ (v1 v2 v3 v4 : Int32) (y1_0 y1_1 y1_2 : Nat → Int32) (x1_3 : Int32) (H : Heap) (locs : List Loc) (ls : Array Slot), g_X11_vat_0 v1 v2 v3 v4 y1_0 y1_1 y1_2 x1_3 = some u → lv_has ls 5 [(0, .ref h0), (1, .int v1), (2, .int v2), (3, .int v3), (4, .int v4)] → VW D A s.heap (wY11 cs h0 o0_0 h1 o0_2a o0_2b o0_2c o0_3 o0_4 o0_5 o0_6 o0_7 o0_8 o0_9 o0_10 o0_11 o0_12 o0_13 o0_14 ra0 x0_15 ++ (wX10 cs h1 ra1 y1_0 y1_1 y1_2 x1_3)) H locs → W p l e rm_X11_vat s m args below meth c H locs 0 0 (MQ below (QI D (wY11 cs h0 o0_0 h1 o0_2a o0_2b o0_2c o0_3 o0_4 o0_5 o0_6 o0_7 o0_8 o0_9 o0_10 o0_11 o0_12 o0_13 o0_14 ra0 x0_15 ++ (wX10 cs h1 ra1 u.2.1 u.2.2.1 u.2.2.2.1 u.2.2.2.2)) A u.1) args s 0 0 A) (F0 m 0 ls []) := by
  have hx := hC.1
  have hb := hC.2.1
  have hown := hC.2.2.2.1
  have hts := hC.2.2.2.2
  intro v1 v2 v3 v4 y1_0 y1_1 y1_2 x1_3 H locs ls hf hl hV
  refine lv_iload_n hx hb dX11_vat_0 rfl (lv_at hl 1 rfl) ?_
  refine lv_iconst (v := 0) hx hb dX11_vat_1 (by decide) ?_
  refine lv_iconst (v := 5) hx hb dX11_vat_2 (by decide) ?_
  obtain ⟨u1, hc1, hf⟩ := hf_b hf
  refine aft_i (run_s hC (k_X11_within l D cs v1 0 5 u1 H.size hc1) cd_X11_within st_X11_within ml_X11_115 rfl rfl ⟨by decide, by decide⟩ (fr_pre hK hV [] rfl (by decide)) rfl hl.1 rfl (Nat.le_of_ble_eq_true rfl) dX11_vat_3) hV (va_free hV.2.1 hV.2.2 hA [] rfl) (fr_jn (s := s) (wn := wY11 cs h0 o0_0 h1 o0_2a o0_2b o0_2c o0_3 o0_4 o0_5 o0_6 o0_7 o0_8 o0_9 o0_10 o0_11 o0_12 o0_13 o0_14 ra0 x0_15 ++ (wX10 cs h1 ra1 y1_0 y1_1 y1_2 x1_3)) hV hA [] [0, 1, 2, 3, 4, 5] [0, 1, 2, 3, 4, 5] rfl rfl (by decide) (by decide) rfl (by decide)) (fun H locs hV => ?_)
  refine lv_if_eq (tgt := 18) hx hb dX11_vat_6 (by decide) (fun hc => ?_) (fun hc => ?_)
  · have hf := hf_t hf hc
    refine lv_iconst (v := 0) hx hb dX11_vat_18 (by decide) ?_
    obtain rfl := Option.some.inj hf
    exact q_retz hC hr hlocks hV (Or.inl rfl) dX11_vat_19
  · have hf := hf_f hf hc
    refine lv_iload_n hx hb dX11_vat_9 rfl (lv_at hl 2 rfl) ?_
    refine lv_iconst (v := 0) hx hb dX11_vat_10 (by decide) ?_
    refine lv_iconst (v := 3) hx hb dX11_vat_11 (by decide) ?_
    obtain ⟨u2, hc2, hf⟩ := hf_b hf
    refine aft_i (run_s hC (k_X11_within l D cs v2 0 3 u2 H.size hc2) cd_X11_within st_X11_within ml_X11_115 rfl rfl ⟨by decide, by decide⟩ (fr_pre hK hV [] rfl (by decide)) rfl hl.1 rfl (Nat.le_of_ble_eq_true rfl) dX11_vat_12) hV (va_free hV.2.1 hV.2.2 hA [] rfl) (fr_jn (s := s) (wn := wY11 cs h0 o0_0 h1 o0_2a o0_2b o0_2c o0_3 o0_4 o0_5 o0_6 o0_7 o0_8 o0_9 o0_10 o0_11 o0_12 o0_13 o0_14 ra0 x0_15 ++ (wX10 cs h1 ra1 y1_0 y1_1 y1_2 x1_3)) hV hA [] [0, 1, 2, 3, 4, 5] [0, 1, 2, 3, 4, 5] rfl rfl (by decide) (by decide) rfl (by decide)) (fun H locs hV => ?_)
    refine lv_if_ne (tgt := 20) hx hb dX11_vat_15 (by decide) (fun hc => ?_) (fun hc => ?_)
    · have hf := hf_f hf hc
      refine lv_iload_n hx hb dX11_vat_20 rfl (lv_at hl 3 rfl) ?_
      refine lv_iconst (v := 0) hx hb dX11_vat_21 (by decide) ?_
      refine lv_bipush (v := 99) hx hb dX11_vat_22 (by decide) ?_
      obtain ⟨u3, hc3, hf⟩ := hf_b hf
      refine aft_i (run_s hC (k_X11_within l D cs v3 0 99 u3 H.size hc3) cd_X11_within st_X11_within ml_X11_115 rfl rfl ⟨by decide, by decide⟩ (fr_pre hK hV [] rfl (by decide)) rfl hl.1 rfl (Nat.le_of_ble_eq_true rfl) dX11_vat_24) hV (va_free hV.2.1 hV.2.2 hA [] rfl) (fr_jn (s := s) (wn := wY11 cs h0 o0_0 h1 o0_2a o0_2b o0_2c o0_3 o0_4 o0_5 o0_6 o0_7 o0_8 o0_9 o0_10 o0_11 o0_12 o0_13 o0_14 ra0 x0_15 ++ (wX10 cs h1 ra1 y1_0 y1_1 y1_2 x1_3)) hV hA [] [0, 1, 2, 3, 4, 5] [0, 1, 2, 3, 4, 5] rfl rfl (by decide) (by decide) rfl (by decide)) (fun H locs hV => ?_)
      refine lv_if_eq (tgt := 40) hx hb dX11_vat_27 (by decide) (fun hc => ?_) (fun hc => ?_)
      · have hf := hf_t hf hc
        refine lv_iconst (v := 0) hx hb dX11_vat_40 (by decide) ?_
        obtain rfl := Option.some.inj hf
        exact q_retz hC hr hlocks hV (Or.inl rfl) dX11_vat_41
      · have hf := hf_f hf hc
        refine lv_iload hx hb dX11_vat_30 (lv_at hl 4 rfl) ?_
        refine lv_iconst (v := 0) hx hb dX11_vat_32 (by decide) ?_
        refine lv_iload_n hx hb dX11_vat_33 rfl (lv_at hl 3 rfl) ?_
        obtain ⟨u4, hc4, hf⟩ := hf_b hf
        refine aft_i (run_s hC (k_X11_within l D cs v4 0 v3 u4 H.size hc4) cd_X11_within st_X11_within ml_X11_115 rfl rfl ⟨by decide, by decide⟩ (fr_pre hK hV [] rfl (by decide)) rfl hl.1 rfl (Nat.le_of_ble_eq_true rfl) dX11_vat_34) hV (va_free hV.2.1 hV.2.2 hA [] rfl) (fr_jn (s := s) (wn := wY11 cs h0 o0_0 h1 o0_2a o0_2b o0_2c o0_3 o0_4 o0_5 o0_6 o0_7 o0_8 o0_9 o0_10 o0_11 o0_12 o0_13 o0_14 ra0 x0_15 ++ (wX10 cs h1 ra1 y1_0 y1_1 y1_2 x1_3)) hV hA [] [0, 1, 2, 3, 4, 5] [0, 1, 2, 3, 4, 5] rfl rfl (by decide) (by decide) rfl (by decide)) (fun H locs hV => ?_)
        refine lv_if_ne (tgt := 42) hx hb dX11_vat_37 (by decide) (fun hc => ?_) (fun hc => ?_)
        · have hf := hf_f hf hc
          refine lv_aload_n hx hb dX11_vat_42 rfl (lv_at hl 0 rfl) ?_
          refine q_get (v := .ref h1) hC hK hV fl_X11_19 0 rfl rfl dX11_vat_43 ?_
          refine lv_iload_n hx hb dX11_vat_46 rfl (lv_at hl 1 rfl) ?_
          refine lv_iload_n hx hb dX11_vat_47 rfl (lv_at hl 2 rfl) ?_
          refine lv_iload_n hx hb dX11_vat_48 rfl (lv_at hl 3 rfl) ?_
          refine lv_iload hx hb dX11_vat_49 (lv_at hl 4 rfl) ?_
          obtain ⟨u5, hc5, hf⟩ := hf_b hf
          refine aft_v (run_v hC (k_X10_put l D cs h1 ra1 y1_0 y1_1 y1_2 x1_3 v1 v2 v3 v4 u5 H.size hc5) cd_X10_put cv_X10_put ml_X11_119 rfl rfl ⟨by decide, by decide⟩ hK hV (fr_pre hK hV [2, 3, 4, 5] rfl (by decide)) (ci := 10) (q0 := 2) rfl rfl rfl rfl hl.1 rfl (Nat.le_of_ble_eq_true rfl) dX11_vat_51) hV (va_free hV.2.1 hV.2.2 hA [2, 3, 4, 5] rfl) (fr_jn (s := s) (wn := wY11 cs h0 o0_0 h1 o0_2a o0_2b o0_2c o0_3 o0_4 o0_5 o0_6 o0_7 o0_8 o0_9 o0_10 o0_11 o0_12 o0_13 o0_14 ra0 x0_15 ++ (wX10 cs h1 ra1 u5.1 u5.2.1 u5.2.2.1 u5.2.2.2)) hV hA [2, 3, 4, 5] [0, 1] [0, 1, 2, 3, 4, 5] rfl rfl (by decide) (by decide) rfl (by decide)) (fun H locs hV => ?_)
          refine lv_iconst (v := 1) hx hb dX11_vat_54 (by decide) ?_
          obtain rfl := Option.some.inj hf
          exact q_retz hC hr hlocks hV (Or.inr rfl) dX11_vat_55
        · have hf := hf_t hf hc
          refine lv_iconst (v := 0) hx hb dX11_vat_40 (by decide) ?_
          obtain rfl := Option.some.inj hf
          exact q_retz hC hr hlocks hV (Or.inl rfl) dX11_vat_41
    · have hf := hf_t hf hc
      refine lv_iconst (v := 0) hx hb dX11_vat_18 (by decide) ?_
      obtain rfl := Option.some.inj hf
      exact q_retz hC hr hlocks hV (Or.inl rfl) dX11_vat_19
set_option maxRecDepth 100000 in
theorem k_X11_vat (l : Launch) (D : va_G) (cs : Nat → ClassId) (h0 : Nat) (o0_0 : Nat) (o0_2a : Nat) (o0_2b : Nat) (o0_2c : Nat) (o0_3 : Nat) (o0_4 : Nat) (o0_5 : Nat) (o0_6 : Nat) (o0_7 : Nat) (o0_8 : Nat) (o0_9 : Nat) (o0_10 : Nat) (o0_11 : Nat) (o0_12 : Nat) (o0_13 : Nat) (o0_14 : Nat) (ra0 : Nat → Nat) (h1 : Nat) (ra1 : Nat → Nat) (x0_15 : Int32) (y1_0 y1_1 y1_2 : Nat → Int32) (x1_3 : Int32) (v1 v2 v3 v4 : Int32) (u : Int32 × (Nat → Int32) × (Nat → Int32) × (Nat → Int32) × Int32) (sz : Nat) (hf : f_X11_vat v1 v2 v3 v4 y1_0 y1_1 y1_2 x1_3 = some u) : Met l yX11_vat (WS yX11_vat cX11_vat 5 (some .boolean)) rm_X11_vat (va_Pc [.ref h0, .int v1, .int v2, .int v3, .int v4] (PR D cs (wY11 cs h0 o0_0 h1 o0_2a o0_2b o0_2c o0_3 o0_4 o0_5 o0_6 o0_7 o0_8 o0_9 o0_10 o0_11 o0_12 o0_13 o0_14 ra0 x0_15 ++ (wX10 cs h1 ra1 y1_0 y1_1 y1_2 x1_3)) sz)) (QI D (wY11 cs h0 o0_0 h1 o0_2a o0_2b o0_2c o0_3 o0_4 o0_5 o0_6 o0_7 o0_8 o0_9 o0_10 o0_11 o0_12 o0_13 o0_14 ra0 x0_15 ++ (wX10 cs h1 ra1 u.2.1 u.2.2.1 u.2.2.2.1 u.2.2.2.2)) (va_A (wY11 cs h0 o0_0 h1 o0_2a o0_2b o0_2c o0_3 o0_4 o0_5 o0_6 o0_7 o0_8 o0_9 o0_10 o0_11 o0_12 o0_13 o0_14 ra0 x0_15 ++ (wX10 cs h1 ra1 y1_0 y1_1 y1_2 x1_3)) sz) u.1) 0 0 (va_A (wY11 cs h0 o0_0 h1 o0_2a o0_2b o0_2c o0_3 o0_4 o0_5 o0_6 o0_7 o0_8 o0_9 o0_10 o0_11 o0_12 o0_13 o0_14 ra0 x0_15 ++ (wX10 cs h1 ra1 y1_0 y1_1 y1_2 x1_3)) sz) := by
  refine met_of RX11 rfl (by decide) (Nat.le_of_ble_eq_true rfl) ?_
  intro p e s m args below meth c hC hr hlocks hK hsz hA hV ls hl
  exact b_X11_vat_0 hC hr hlocks hK hA h0 o0_0 o0_2a o0_2b o0_2c o0_3 o0_4 o0_5 o0_6 o0_7 o0_8 o0_9 o0_10 o0_11 o0_12 o0_13 o0_14 ra0 h1 ra1 x0_15 u v1 v2 v3 v4 y1_0 y1_1 y1_2 x1_3 s.heap [] ls hf (lv_sub hl [0, 1, 2, 3, 4] rfl) hV
def rm_X11_feed : Room := { frames := 1, cells := 0, slots := 0, locals := 22 }
set_option maxHeartbeats 4000000 in
set_option maxRecDepth 100000 in
theorem b_X11_feed_0 {p : Program} {l : Launch} {e : Env} {s : State} {m : MethodId} {args : Array Value} {below : List Frame} {meth : Method} {c : Code} {D : va_G} {cs : Nat → ClassId} {A : Nat → Prop} (hC : CallFix p m c cX11_feed 6 s args gtbl RX11) (hr : meth.sig.returnType = (some .int)) (hlocks : meth.locks = false) (hK : KN D cs s) (hA : ∀ q : Nat, s.heap.size ≤ q → A q) (h0 : Nat) (o0_1 : Nat) (o0_2a : Nat) (o0_2b : Nat) (o0_2c : Nat) (o0_3 : Nat) (o0_4 : Nat) (o0_5 : Nat) (o0_6 : Nat) (o0_7 : Nat) (o0_8 : Nat) (o0_9 : Nat) (o0_10 : Nat) (o0_11 : Nat) (o0_12 : Nat) (o0_13 : Nat) (o0_14 : Nat) (ra0 : Nat → Nat) (h1 : Nat) (ra1 : Nat → Nat) (x0_15 x1_2 x1_3 x1_4 : Int32) (u : Int32 × (Nat → Int32) × Int32) : ∀ (v1 v2 v3 v4 v5 : Int32) (y1_0 : Nat → Int32) (x1_1 : Int32) (H : Heap) (locs : List Loc) (ls : Array Slot), g_X11_feed_0 v1 v2 v3 v4 v5 y1_0 x1_1 = some u → lv_has ls 6 [(0, .ref h0), (1, .int v1), (2, .int v2), (3, .int v3), (4, .int v4), (5, .int v5)] → VW D A s.heap (wY11 cs h0 h1 o0_1 o0_2a o0_2b o0_2c o0_3 o0_4 o0_5 o0_6 o0_7 o0_8 o0_9 o0_10 o0_11 o0_12 o0_13 o0_14 ra0 x0_15 ++ (wX9 cs h1 ra1 y1_0 x1_1 x1_2 x1_3 x1_4)) H locs → W p l e rm_X11_feed s m args below meth c H locs 0 0 (MQ below (QI D (wY11 cs h0 h1 o0_1 o0_2a o0_2b o0_2c o0_3 o0_4 o0_5 o0_6 o0_7 o0_8 o0_9 o0_10 o0_11 o0_12 o0_13 o0_14 ra0 x0_15 ++ (wX9 cs h1 ra1 u.2.1 u.2.2 x1_2 x1_3 x1_4)) A u.1) args s 0 0 A) (F0 m 0 ls []) := by
  have hx := hC.1
  have hb := hC.2.1
  have hown := hC.2.2.2.1
  have hts := hC.2.2.2.2
  intro v1 v2 v3 v4 v5 y1_0 x1_1 H locs ls hf hl hV
  refine lv_aload_n hx hb dX11_feed_0 rfl (lv_at hl 0 rfl) ?_
  refine q_get (v := .ref h1) hC hK hV fl_X11_10 0 rfl rfl dX11_feed_1 ?_
  obtain ⟨u1, hc1, hf⟩ := hf_b hf
  refine aft_i (run_v hC (k_X9_hasRoom l D cs h1 ra1 y1_0 x1_1 x1_2 x1_3 x1_4 u1 H.size hc1) cd_X9_hasRoom cv_X9_hasRoom ml_X11_123 rfl rfl ⟨by decide, by decide⟩ hK hV (fr_pre hK hV [2, 3] rfl (by decide)) (ci := 9) (q0 := 2) rfl rfl rfl rfl hl.1 rfl (Nat.le_of_ble_eq_true rfl) dX11_feed_4) hV (va_free hV.2.1 hV.2.2 hA [2, 3] rfl) (fr_jn (s := s) (wn := wY11 cs h0 h1 o0_1 o0_2a o0_2b o0_2c o0_3 o0_4 o0_5 o0_6 o0_7 o0_8 o0_9 o0_10 o0_11 o0_12 o0_13 o0_14 ra0 x0_15 ++ (wX9 cs h1 ra1 y1_0 x1_1 x1_2 x1_3 x1_4)) hV hA [2, 3] [0, 1] [0, 1, 2, 3] rfl rfl (by decide) (by decide) rfl (by decide)) (fun H locs hV => ?_)
  refine lv_if_ne (tgt := 12) hx hb dX11_feed_7 (by decide) (fun hc => ?_) (fun hc => ?_)
  · have hf := hf_f hf hc
    refine lv_aload_n hx hb dX11_feed_12 rfl (lv_at hl 0 rfl) ?_
    refine q_get (v := .ref h1) hC hK hV fl_X11_10 0 rfl rfl dX11_feed_13 ?_
    refine lv_iload_n hx hb dX11_feed_16 rfl (lv_at hl 1 rfl) ?_
    obtain ⟨u2, hc2, hf⟩ := hf_b hf
    refine aft_v (run_v hC (k_X9_add l D cs h1 ra1 y1_0 x1_1 x1_2 x1_3 x1_4 v1 u2 H.size hc2) cd_X9_add cv_X9_add ml_X11_127 rfl rfl ⟨by decide, by decide⟩ hK hV (fr_pre hK hV [2, 3] rfl (by decide)) (ci := 9) (q0 := 2) rfl rfl rfl rfl hl.1 rfl (Nat.le_of_ble_eq_true rfl) dX11_feed_17) hV (va_free hV.2.1 hV.2.2 hA [2, 3] rfl) (fr_jn (s := s) (wn := wY11 cs h0 h1 o0_1 o0_2a o0_2b o0_2c o0_3 o0_4 o0_5 o0_6 o0_7 o0_8 o0_9 o0_10 o0_11 o0_12 o0_13 o0_14 ra0 x0_15 ++ (wX9 cs h1 ra1 u2.1 u2.2 x1_2 x1_3 x1_4)) hV hA [2, 3] [0, 1] [0, 1, 2, 3] rfl rfl (by decide) (by decide) rfl (by decide)) (fun H locs hV => ?_)
    refine lv_aload_n hx hb dX11_feed_20 rfl (lv_at hl 0 rfl) ?_
    refine q_get (v := .ref h1) hC hK hV fl_X11_10 0 rfl rfl dX11_feed_21 ?_
    refine lv_iload_n hx hb dX11_feed_24 rfl (lv_at hl 2 rfl) ?_
    obtain ⟨u3, hc3, hf⟩ := hf_b hf
    refine aft_v (run_v hC (k_X9_add l D cs h1 ra1 u2.1 u2.2 x1_2 x1_3 x1_4 v2 u3 H.size hc3) cd_X9_add cv_X9_add ml_X11_127 rfl rfl ⟨by decide, by decide⟩ hK hV (fr_pre hK hV [2, 3] rfl (by decide)) (ci := 9) (q0 := 2) rfl rfl rfl rfl hl.1 rfl (Nat.le_of_ble_eq_true rfl) dX11_feed_25) hV (va_free hV.2.1 hV.2.2 hA [2, 3] rfl) (fr_jn (s := s) (wn := wY11 cs h0 h1 o0_1 o0_2a o0_2b o0_2c o0_3 o0_4 o0_5 o0_6 o0_7 o0_8 o0_9 o0_10 o0_11 o0_12 o0_13 o0_14 ra0 x0_15 ++ (wX9 cs h1 ra1 u3.1 u3.2 x1_2 x1_3 x1_4)) hV hA [2, 3] [0, 1] [0, 1, 2, 3] rfl rfl (by decide) (by decide) rfl (by decide)) (fun H locs hV => ?_)
    refine lv_aload_n hx hb dX11_feed_28 rfl (lv_at hl 0 rfl) ?_
    refine q_get (v := .ref h1) hC hK hV fl_X11_10 0 rfl rfl dX11_feed_29 ?_
    refine lv_iload_n hx hb dX11_feed_32 rfl (lv_at hl 3 rfl) ?_
    obtain ⟨u4, hc4, hf⟩ := hf_b hf
    refine aft_v (run_v hC (k_X9_add l D cs h1 ra1 u3.1 u3.2 x1_2 x1_3 x1_4 v3 u4 H.size hc4) cd_X9_add cv_X9_add ml_X11_127 rfl rfl ⟨by decide, by decide⟩ hK hV (fr_pre hK hV [2, 3] rfl (by decide)) (ci := 9) (q0 := 2) rfl rfl rfl rfl hl.1 rfl (Nat.le_of_ble_eq_true rfl) dX11_feed_33) hV (va_free hV.2.1 hV.2.2 hA [2, 3] rfl) (fr_jn (s := s) (wn := wY11 cs h0 h1 o0_1 o0_2a o0_2b o0_2c o0_3 o0_4 o0_5 o0_6 o0_7 o0_8 o0_9 o0_10 o0_11 o0_12 o0_13 o0_14 ra0 x0_15 ++ (wX9 cs h1 ra1 u4.1 u4.2 x1_2 x1_3 x1_4)) hV hA [2, 3] [0, 1] [0, 1, 2, 3] rfl rfl (by decide) (by decide) rfl (by decide)) (fun H locs hV => ?_)
    refine lv_aload_n hx hb dX11_feed_36 rfl (lv_at hl 0 rfl) ?_
    refine q_get (v := .ref h1) hC hK hV fl_X11_10 0 rfl rfl dX11_feed_37 ?_
    refine lv_iload hx hb dX11_feed_40 (lv_at hl 4 rfl) ?_
    obtain ⟨u5, hc5, hf⟩ := hf_b hf
    refine aft_v (run_v hC (k_X9_add l D cs h1 ra1 u4.1 u4.2 x1_2 x1_3 x1_4 v4 u5 H.size hc5) cd_X9_add cv_X9_add ml_X11_127 rfl rfl ⟨by decide, by decide⟩ hK hV (fr_pre hK hV [2, 3] rfl (by decide)) (ci := 9) (q0 := 2) rfl rfl rfl rfl hl.1 rfl (Nat.le_of_ble_eq_true rfl) dX11_feed_42) hV (va_free hV.2.1 hV.2.2 hA [2, 3] rfl) (fr_jn (s := s) (wn := wY11 cs h0 h1 o0_1 o0_2a o0_2b o0_2c o0_3 o0_4 o0_5 o0_6 o0_7 o0_8 o0_9 o0_10 o0_11 o0_12 o0_13 o0_14 ra0 x0_15 ++ (wX9 cs h1 ra1 u5.1 u5.2 x1_2 x1_3 x1_4)) hV hA [2, 3] [0, 1] [0, 1, 2, 3] rfl rfl (by decide) (by decide) rfl (by decide)) (fun H locs hV => ?_)
    refine lv_aload_n hx hb dX11_feed_45 rfl (lv_at hl 0 rfl) ?_
    refine q_get (v := .ref h1) hC hK hV fl_X11_10 0 rfl rfl dX11_feed_46 ?_
    refine lv_iload hx hb dX11_feed_49 (lv_at hl 5 rfl) ?_
    obtain ⟨u6, hc6, hf⟩ := hf_b hf
    refine aft_v (run_v hC (k_X9_add l D cs h1 ra1 u5.1 u5.2 x1_2 x1_3 x1_4 v5 u6 H.size hc6) cd_X9_add cv_X9_add ml_X11_127 rfl rfl ⟨by decide, by decide⟩ hK hV (fr_pre hK hV [2, 3] rfl (by decide)) (ci := 9) (q0 := 2) rfl rfl rfl rfl hl.1 rfl (Nat.le_of_ble_eq_true rfl) dX11_feed_51) hV (va_free hV.2.1 hV.2.2 hA [2, 3] rfl) (fr_jn (s := s) (wn := wY11 cs h0 h1 o0_1 o0_2a o0_2b o0_2c o0_3 o0_4 o0_5 o0_6 o0_7 o0_8 o0_9 o0_10 o0_11 o0_12 o0_13 o0_14 ra0 x0_15 ++ (wX9 cs h1 ra1 u6.1 u6.2 x1_2 x1_3 x1_4)) hV hA [2, 3] [0, 1] [0, 1, 2, 3] rfl rfl (by decide) (by decide) rfl (by decide)) (fun H locs hV => ?_)
    refine lv_aload_n hx hb dX11_feed_54 rfl (lv_at hl 0 rfl) ?_
    refine q_get (v := .ref h1) hC hK hV fl_X11_10 0 rfl rfl dX11_feed_55 ?_
    refine q_get (v := .int u6.2) hC hK hV fl_X11_131 2 rfl rfl dX11_feed_58 ?_
    obtain rfl := Option.some.inj hf
    exact q_ret hC hr hlocks hV dX11_feed_61
  · have hf := hf_t hf hc
    refine lv_iconst (v := (-1)) hx hb dX11_feed_10 (by decide) ?_
    obtain rfl := Option.some.inj hf
    exact q_ret hC hr hlocks hV dX11_feed_11
set_option maxRecDepth 100000 in
theorem k_X11_feed (l : Launch) (D : va_G) (cs : Nat → ClassId) (h0 : Nat) (o0_1 : Nat) (o0_2a : Nat) (o0_2b : Nat) (o0_2c : Nat) (o0_3 : Nat) (o0_4 : Nat) (o0_5 : Nat) (o0_6 : Nat) (o0_7 : Nat) (o0_8 : Nat) (o0_9 : Nat) (o0_10 : Nat) (o0_11 : Nat) (o0_12 : Nat) (o0_13 : Nat) (o0_14 : Nat) (ra0 : Nat → Nat) (h1 : Nat) (ra1 : Nat → Nat) (x0_15 : Int32) (y1_0 : Nat → Int32) (x1_1 x1_2 x1_3 x1_4 : Int32) (v1 v2 v3 v4 v5 : Int32) (u : Int32 × (Nat → Int32) × Int32) (sz : Nat) (hf : f_X11_feed v1 v2 v3 v4 v5 y1_0 x1_1 = some u) : Met l yX11_feed (WS yX11_feed cX11_feed 6 (some .int)) rm_X11_feed (va_Pc [.ref h0, .int v1, .int v2, .int v3, .int v4, .int v5] (PR D cs (wY11 cs h0 h1 o0_1 o0_2a o0_2b o0_2c o0_3 o0_4 o0_5 o0_6 o0_7 o0_8 o0_9 o0_10 o0_11 o0_12 o0_13 o0_14 ra0 x0_15 ++ (wX9 cs h1 ra1 y1_0 x1_1 x1_2 x1_3 x1_4)) sz)) (QI D (wY11 cs h0 h1 o0_1 o0_2a o0_2b o0_2c o0_3 o0_4 o0_5 o0_6 o0_7 o0_8 o0_9 o0_10 o0_11 o0_12 o0_13 o0_14 ra0 x0_15 ++ (wX9 cs h1 ra1 u.2.1 u.2.2 x1_2 x1_3 x1_4)) (va_A (wY11 cs h0 h1 o0_1 o0_2a o0_2b o0_2c o0_3 o0_4 o0_5 o0_6 o0_7 o0_8 o0_9 o0_10 o0_11 o0_12 o0_13 o0_14 ra0 x0_15 ++ (wX9 cs h1 ra1 y1_0 x1_1 x1_2 x1_3 x1_4)) sz) u.1) 0 0 (va_A (wY11 cs h0 h1 o0_1 o0_2a o0_2b o0_2c o0_3 o0_4 o0_5 o0_6 o0_7 o0_8 o0_9 o0_10 o0_11 o0_12 o0_13 o0_14 ra0 x0_15 ++ (wX9 cs h1 ra1 y1_0 x1_1 x1_2 x1_3 x1_4)) sz) := by
  refine met_of RX11 rfl (by decide) (Nat.le_of_ble_eq_true rfl) ?_
  intro p e s m args below meth c hC hr hlocks hK hsz hA hV ls hl
  exact b_X11_feed_0 hC hr hlocks hK hA h0 o0_1 o0_2a o0_2b o0_2c o0_3 o0_4 o0_5 o0_6 o0_7 o0_8 o0_9 o0_10 o0_11 o0_12 o0_13 o0_14 ra0 h1 ra1 x0_15 x1_2 x1_3 x1_4 u v1 v2 v3 v4 v5 y1_0 x1_1 s.heap [] ls hf (lv_sub hl [0, 1, 2, 3, 4, 5] rfl) hV
def rm_X11_isRecipe : Room := { frames := 1, cells := 0, slots := 0, locals := 22 }
set_option maxHeartbeats 4000000 in
set_option maxRecDepth 100000 in
theorem b_X11_isRecipe_0 {p : Program} {l : Launch} {e : Env} {s : State} {m : MethodId} {args : Array Value} {below : List Frame} {meth : Method} {c : Code} {D : va_G} {cs : Nat → ClassId} {A : Nat → Prop} (hC : CallFix p m c cX11_isRecipe 1 s args gtbl RX11) (hr : meth.sig.returnType = (some .boolean)) (hlocks : meth.locks = false) (hK : KN D cs s) (hA : ∀ q : Nat, s.heap.size ≤ q → A q) (u : Int32) : ∀ (v0 : Int32) (H : Heap) (locs : List Loc) (ls : Array Slot), g_X11_isRecipe_0 v0 = some u → lv_has ls 1 [(0, .int v0)] → VW D A s.heap ([]) H locs → W p l e rm_X11_isRecipe s m args below meth c H locs 0 0 (MQ below (QI D ([]) A u) args s 0 0 A) (F0 m 0 ls []) := by
  have hx := hC.1
  have hb := hC.2.1
  have hown := hC.2.2.2.1
  have hts := hC.2.2.2.2
  intro v0 H locs ls hf hl hV
  refine lv_iload_n hx hb dX11_isRecipe_0 rfl (lv_at hl 0 rfl) ?_
  refine lv_iconst (v := 0) hx hb dX11_isRecipe_1 (by decide) ?_
  refine lv_iconst (v := 2) hx hb dX11_isRecipe_2 (by decide) ?_
  obtain ⟨u1, hc1, hf⟩ := hf_b hf
  refine aft_i (run_s hC (k_X11_within l D cs v0 0 2 u1 H.size hc1) cd_X11_within st_X11_within ml_X11_115 rfl rfl ⟨by decide, by decide⟩ (fr_pre0 hK hV) rfl hl.1 rfl (Nat.le_of_ble_eq_true rfl) dX11_isRecipe_3) hV (fr_free0 hV hA) (fr_join0 hV hA) (fun H locs hV => ?_)
  obtain ⟨hb2, hf⟩ := hf_if hf
  obtain rfl := Option.some.inj hf
  exact q_retz hC hr hlocks hV (zB_is hb2) dX11_isRecipe_6
set_option maxRecDepth 100000 in
theorem k_X11_isRecipe (l : Launch) (D : va_G) (cs : Nat → ClassId) (v0 : Int32) (u : Int32) (sz : Nat) (hf : f_X11_isRecipe v0 = some u) : Met l yX11_isRecipe (WS yX11_isRecipe cX11_isRecipe 1 (some .boolean)) rm_X11_isRecipe (va_Pc [.int v0] (PR D cs ([]) sz)) (QI D ([]) (va_A ([]) sz) u) 0 0 (va_A ([]) sz) := by
  refine met_of RX11 rfl (by decide) (Nat.le_of_ble_eq_true rfl) ?_
  intro p e s m args below meth c hC hr hlocks hK hsz hA hV ls hl
  exact b_X11_isRecipe_0 hC hr hlocks hK hA u v0 s.heap [] ls hf (lv_sub hl [0] rfl) hV
def rm_X11_hasText : Room := { frames := 1, cells := 0, slots := 0, locals := 22 }
set_option maxHeartbeats 4000000 in
set_option maxRecDepth 100000 in
theorem b_X11_hasText_0 {p : Program} {l : Launch} {e : Env} {s : State} {m : MethodId} {args : Array Value} {below : List Frame} {meth : Method} {c : Code} {D : va_G} {cs : Nat → ClassId} {A : Nat → Prop} (hC : CallFix p m c cX11_hasText 2 s args gtbl RX11) (hr : meth.sig.returnType = (some .boolean)) (hlocks : meth.locks = false) (hK : KN D cs s) (hA : ∀ q : Nat, s.heap.size ≤ q → A q) (h0 : Nat) (o0_1 : Nat) (o0_2a : Nat) (o0_2b : Nat) (o0_2c : Nat) (o0_3 : Nat) (o0_4 : Nat) (o0_5 : Nat) (o0_6 : Nat) (o0_7 : Nat) (o0_8 : Nat) (o0_9 : Nat) (o0_10 : Nat) (o0_11 : Nat) (o0_12 : Nat) (o0_13 : Nat) (o0_14 : Nat) (ra0 : Nat → Nat) (h1 : Nat) (ra1 : Nat → Nat) (x0_15 : Int32) (y1_0 : Nat → Int32) (x1_2 x1_3 x1_4 : Int32) (u : Int32) : ∀ (v1 x1_1 : Int32) (H : Heap) (locs : List Loc) (ls : Array Slot), g_X11_hasText_0 v1 x1_1 = some u → lv_has ls 2 [(0, .ref h0), (1, .int v1)] → VW D A s.heap (wY11 cs h0 h1 o0_1 o0_2a o0_2b o0_2c o0_3 o0_4 o0_5 o0_6 o0_7 o0_8 o0_9 o0_10 o0_11 o0_12 o0_13 o0_14 ra0 x0_15 ++ (wX9 cs h1 ra1 y1_0 x1_1 x1_2 x1_3 x1_4)) H locs → W p l e rm_X11_hasText s m args below meth c H locs 0 0 (MQ below (QI D (wY11 cs h0 h1 o0_1 o0_2a o0_2b o0_2c o0_3 o0_4 o0_5 o0_6 o0_7 o0_8 o0_9 o0_10 o0_11 o0_12 o0_13 o0_14 ra0 x0_15 ++ (wX9 cs h1 ra1 y1_0 x1_1 x1_2 x1_3 x1_4)) A u) args s 0 0 A) (F0 m 0 ls []) := by
  have hx := hC.1
  have hb := hC.2.1
  have hown := hC.2.2.2.1
  have hts := hC.2.2.2.2
  intro v1 x1_1 H locs ls hf hl hV
  refine lv_iload_n hx hb dX11_hasText_0 rfl (lv_at hl 1 rfl) ?_
  refine lv_iconst (v := 1) hx hb dX11_hasText_1 (by decide) ?_
  refine lv_bipush (v := 120) hx hb dX11_hasText_2 (by decide) ?_
  obtain ⟨u1, hc1, hf⟩ := hf_b hf
  refine aft_i (run_s hC (k_X11_within l D cs v1 1 120 u1 H.size hc1) cd_X11_within st_X11_within ml_X11_115 rfl rfl ⟨by decide, by decide⟩ (fr_pre hK hV [] rfl (by decide)) rfl hl.1 rfl (Nat.le_of_ble_eq_true rfl) dX11_hasText_4) hV (va_free hV.2.1 hV.2.2 hA [] rfl) (fr_jn (s := s) (wn := wY11 cs h0 h1 o0_1 o0_2a o0_2b o0_2c o0_3 o0_4 o0_5 o0_6 o0_7 o0_8 o0_9 o0_10 o0_11 o0_12 o0_13 o0_14 ra0 x0_15 ++ (wX9 cs h1 ra1 y1_0 x1_1 x1_2 x1_3 x1_4)) hV hA [] [0, 1, 2, 3] [0, 1, 2, 3] rfl rfl (by decide) (by decide) rfl (by decide)) (fun H locs hV => ?_)
  refine lv_if_eq (tgt := 25) hx hb dX11_hasText_7 (by decide) (fun hc => ?_) (fun hc => ?_)
  · have hf := hf_t hf hc
    refine lv_iconst (v := 0) hx hb dX11_hasText_25 (by decide) ?_
    obtain rfl := Option.some.inj hf
    exact q_retz hC hr hlocks hV (Or.inl rfl) dX11_hasText_26
  · have hf := hf_f hf hc
    refine lv_aload_n hx hb dX11_hasText_10 rfl (lv_at hl 0 rfl) ?_
    refine q_get (v := .ref h1) hC hK hV fl_X11_10 0 rfl rfl dX11_hasText_11 ?_
    refine q_get (v := .int x1_1) hC hK hV fl_X11_131 2 rfl rfl dX11_hasText_14 ?_
    refine lv_iload_n hx hb dX11_hasText_17 rfl (lv_at hl 1 rfl) ?_
    refine lv_icmp_lt (tgt := 25) hx hb dX11_hasText_18 (by decide) (fun hc => ?_) (fun hc => ?_)
    · have hf := hf_t hf hc
      refine lv_iconst (v := 0) hx hb dX11_hasText_25 (by decide) ?_
      obtain rfl := Option.some.inj hf
      exact q_retz hC hr hlocks hV (Or.inl rfl) dX11_hasText_26
    · have hf := hf_f hf hc
      refine lv_iconst (v := 1) hx hb dX11_hasText_21 (by decide) ?_
      refine lv_goto (tgt := 26) hx hb dX11_hasText_22 (by decide) ?_
      obtain rfl := Option.some.inj hf
      exact q_retz hC hr hlocks hV (Or.inr rfl) dX11_hasText_26
set_option maxRecDepth 100000 in
theorem k_X11_hasText (l : Launch) (D : va_G) (cs : Nat → ClassId) (h0 : Nat) (o0_1 : Nat) (o0_2a : Nat) (o0_2b : Nat) (o0_2c : Nat) (o0_3 : Nat) (o0_4 : Nat) (o0_5 : Nat) (o0_6 : Nat) (o0_7 : Nat) (o0_8 : Nat) (o0_9 : Nat) (o0_10 : Nat) (o0_11 : Nat) (o0_12 : Nat) (o0_13 : Nat) (o0_14 : Nat) (ra0 : Nat → Nat) (h1 : Nat) (ra1 : Nat → Nat) (x0_15 : Int32) (y1_0 : Nat → Int32) (x1_1 x1_2 x1_3 x1_4 : Int32) (v1 : Int32) (u : Int32) (sz : Nat) (hf : f_X11_hasText v1 x1_1 = some u) : Met l yX11_hasText (WS yX11_hasText cX11_hasText 2 (some .boolean)) rm_X11_hasText (va_Pc [.ref h0, .int v1] (PR D cs (wY11 cs h0 h1 o0_1 o0_2a o0_2b o0_2c o0_3 o0_4 o0_5 o0_6 o0_7 o0_8 o0_9 o0_10 o0_11 o0_12 o0_13 o0_14 ra0 x0_15 ++ (wX9 cs h1 ra1 y1_0 x1_1 x1_2 x1_3 x1_4)) sz)) (QI D (wY11 cs h0 h1 o0_1 o0_2a o0_2b o0_2c o0_3 o0_4 o0_5 o0_6 o0_7 o0_8 o0_9 o0_10 o0_11 o0_12 o0_13 o0_14 ra0 x0_15 ++ (wX9 cs h1 ra1 y1_0 x1_1 x1_2 x1_3 x1_4)) (va_A (wY11 cs h0 h1 o0_1 o0_2a o0_2b o0_2c o0_3 o0_4 o0_5 o0_6 o0_7 o0_8 o0_9 o0_10 o0_11 o0_12 o0_13 o0_14 ra0 x0_15 ++ (wX9 cs h1 ra1 y1_0 x1_1 x1_2 x1_3 x1_4)) sz) u) 0 0 (va_A (wY11 cs h0 h1 o0_1 o0_2a o0_2b o0_2c o0_3 o0_4 o0_5 o0_6 o0_7 o0_8 o0_9 o0_10 o0_11 o0_12 o0_13 o0_14 ra0 x0_15 ++ (wX9 cs h1 ra1 y1_0 x1_1 x1_2 x1_3 x1_4)) sz) := by
  refine met_of RX11 rfl (by decide) (Nat.le_of_ble_eq_true rfl) ?_
  intro p e s m args below meth c hC hr hlocks hK hsz hA hV ls hl
  exact b_X11_hasText_0 hC hr hlocks hK hA h0 o0_1 o0_2a o0_2b o0_2c o0_3 o0_4 o0_5 o0_6 o0_7 o0_8 o0_9 o0_10 o0_11 o0_12 o0_13 o0_14 ra0 h1 ra1 x0_15 y1_0 x1_2 x1_3 x1_4 u v1 x1_1 s.heap [] ls hf (lv_sub hl [0, 1] rfl) hV
def rm_X11_recipe : Room := { frames := 102, cells := 0, slots := 0, locals := 2306 }
set_option maxHeartbeats 4000000 in
set_option maxRecDepth 100000 in
theorem b_X11_recipe_0 {p : Program} {l : Launch} {e : Env} {s : State} {m : MethodId} {args : Array Value} {below : List Frame} {meth : Method} {c : Code} {D : va_G} {cs : Nat → ClassId} {A : Nat → Prop} (hC : CallFix p m c cX11_recipe 5 s args gtbl RX11) (hr : meth.sig.returnType = (some .int)) (hlocks : meth.locks = false) (hK : KN D cs s) (hA : ∀ q : Nat, s.heap.size ≤ q → A q) (h0 : Nat) (o0_1 : Nat) (o0_4 : Nat) (o0_5 : Nat) (o0_6 : Nat) (o0_7 : Nat) (o0_8 : Nat) (o0_9 : Nat) (o0_10 : Nat) (o0_11 : Nat) (o0_12 : Nat) (o0_13 : Nat) (o0_14 : Nat) (ra0 : Nat → Nat) (h1 : Nat) (ra1 : Nat → Nat) (h2 : Nat) (ra2 : Nat → Nat) (h3 : Nat) (ra3 : Nat → Nat) (h4 : Nat) (ra4 : Nat → Nat) (h5 : Nat) (ra5 : Nat → Nat) (x0_15 : Int32) (y3_0 y3_1 y3_2 y3_3 y3_4 : Nat → Int32) (x3_5 : Int32) (y4_0 y4_1 y4_2 y4_3 y4_4 : Nat → Int32) (x4_5 : Int32) (y5_0 y5_1 y5_2 y5_3 y5_4 : Nat → Int32) (x5_5 : Int32) (u : Int32 × (Nat → Int32) × (Nat → Int32) × (Nat → Int32) × (Nat → Int32) × (Nat → Int32) × Int32 × Int32 × Int32 × Int32 × Int32 × Int32 × Nat × Nat × Nat × Nat) : ∀ (v1 v2 : Int32) (y1_0 y1_1 y1_2 y1_3 y1_4 : Nat → Int32) (x1_5 x1_6 : Int32) (y2_0 : Nat → Int32) (x2_1 x2_2 x2_3 x2_4 x3_6 x4_6 x5_6 : Int32) (H : Heap) (locs : List Loc) (ls : Array Slot), g_X11_recipe_0 h0 o0_1 o0_4 o0_5 o0_6 o0_7 o0_8 o0_9 o0_10 o0_11 o0_12 o0_13 o0_14 h1 h2 h3 h4 h5 v1 v2 y1_0 y1_1 y1_2 y1_3 y1_4 x1_5 x1_6 y2_0 x2_1 x2_2 x2_3 x2_4 x3_6 x4_6 x5_6 = some u → lv_has ls 5 [(0, .ref h0), (1, .int v1), (2, .int v2)] → VW D A s.heap (wY11 cs h0 h2 o0_1 h3 h4 h5 h1 o0_4 o0_5 o0_6 o0_7 o0_8 o0_9 o0_10 o0_11 o0_12 o0_13 o0_14 ra0 x0_15 ++ (wX4 cs h1 ra1 y1_0 y1_1 y1_2 y1_3 y1_4 x1_5 x1_6 ++ (wX9 cs h2 ra2 y2_0 x2_1 x2_2 x2_3 x2_4 ++ (wX4 cs h3 ra3 y3_0 y3_1 y3_2 y3_3 y3_4 x3_5 x3_6 ++ (wX4 cs h4 ra4 y4_0 y4_1 y4_2 y4_3 y4_4 x4_5 x4_6 ++ (wX4 cs h5 ra5 y5_0 y5_1 y5_2 y5_3 y5_4 x5_5 x5_6)))))) H locs → W p l e rm_X11_recipe s m args below meth c H locs 0 0 (MQ below (QI D (wY11 cs h0 h2 o0_1 u.2.2.2.2.2.2.2.2.2.2.2.2.1 u.2.2.2.2.2.2.2.2.2.2.2.2.2.1 u.2.2.2.2.2.2.2.2.2.2.2.2.2.2.1 u.2.2.2.2.2.2.2.2.2.2.2.2.2.2.2 o0_4 o0_5 o0_6 o0_7 o0_8 o0_9 o0_10 o0_11 o0_12 o0_13 o0_14 ra0 x0_15 ++ (wX4 cs h1 ra1 u.2.1 u.2.2.1 u.2.2.2.1 u.2.2.2.2.1 u.2.2.2.2.2.1 u.2.2.2.2.2.2.1 u.2.2.2.2.2.2.2.1 ++ (wX9 cs h2 ra2 y2_0 u.2.2.2.2.2.2.2.2.1 u.2.2.2.2.2.2.2.2.2.1 u.2.2.2.2.2.2.2.2.2.2.1 u.2.2.2.2.2.2.2.2.2.2.2.1 ++ (wX4 cs h3 ra3 y3_0 y3_1 y3_2 y3_3 y3_4 x3_5 x3_6 ++ (wX4 cs h4 ra4 y4_0 y4_1 y4_2 y4_3 y4_4 x4_5 x4_6 ++ (wX4 cs h5 ra5 y5_0 y5_1 y5_2 y5_3 y5_4 x5_5 x5_6)))))) A u.1) args s 0 0 A) (F0 m 0 ls []) := by
  have hx := hC.1
  have hb := hC.2.1
  have hown := hC.2.2.2.1
  have hts := hC.2.2.2.2
  intro v1 v2 y1_0 y1_1 y1_2 y1_3 y1_4 x1_5 x1_6 y2_0 x2_1 x2_2 x2_3 x2_4 x3_6 x4_6 x5_6 H locs ls hf hl hV
  refine lv_iload_n hx hb dX11_recipe_0 rfl (lv_at hl 1 rfl) ?_
  obtain ⟨u1, hc1, hf⟩ := hf_b hf
  refine aft_i (run_s hC (k_X11_isRecipe l D cs v1 u1 H.size hc1) cd_X11_isRecipe st_X11_isRecipe ml_X11_134 rfl rfl ⟨by decide, by decide⟩ (fr_pre hK hV [] rfl (by decide)) rfl hl.1 rfl (Nat.le_of_ble_eq_true rfl) dX11_recipe_1) hV (va_free hV.2.1 hV.2.2 hA [] rfl) (fr_jn (s := s) (wn := wY11 cs h0 h2 o0_1 h3 h4 h5 h1 o0_4 o0_5 o0_6 o0_7 o0_8 o0_9 o0_10 o0_11 o0_12 o0_13 o0_14 ra0 x0_15 ++ (wX4 cs h1 ra1 y1_0 y1_1 y1_2 y1_3 y1_4 x1_5 x1_6 ++ (wX9 cs h2 ra2 y2_0 x2_1 x2_2 x2_3 x2_4 ++ (wX4 cs h3 ra3 y3_0 y3_1 y3_2 y3_3 y3_4 x3_5 x3_6 ++ (wX4 cs h4 ra4 y4_0 y4_1 y4_2 y4_3 y4_4 x4_5 x4_6 ++ (wX4 cs h5 ra5 y5_0 y5_1 y5_2 y5_3 y5_4 x5_5 x5_6)))))) hV hA [] [0, 1, 2, 3, 4, 5, 6, 7, 8, 9, 10, 11, 12, 13, 14, 15, 16, 17, 18, 19, 20, 21, 22, 23, 24, 25, 26, 27] [0, 1, 2, 3, 4, 5, 6, 7, 8, 9, 10, 11, 12, 13, 14, 15, 16, 17, 18, 19, 20, 21, 22, 23, 24, 25, 26, 27] rfl rfl (by decide) (by decide) rfl (by decide)) (fun H locs hV => ?_)
  refine lv_if_eq (tgt := 15) hx hb dX11_recipe_4 (by decide) (fun hc => ?_) (fun hc => ?_)
  · have hf := hf_t hf hc
    refine lv_iconst (v := (-1)) hx hb dX11_recipe_15 (by decide) ?_
    obtain rfl := Option.some.inj hf
    exact q_ret hC hr hlocks hV dX11_recipe_16
  · have hf := hf_f hf hc
    refine lv_aload_n hx hb dX11_recipe_7 rfl (lv_at hl 0 rfl) ?_
    refine lv_iload_n hx hb dX11_recipe_8 rfl (lv_at hl 2 rfl) ?_
    obtain ⟨u2, hc2, hf⟩ := hf_b hf
    refine aft_i (run_v hC (k_X11_hasText l D cs h0 o0_1 h3 h4 h5 h1 o0_4 o0_5 o0_6 o0_7 o0_8 o0_9 o0_10 o0_11 o0_12 o0_13 o0_14 ra0 h2 ra2 x0_15 y2_0 x2_1 x2_2 x2_3 x2_4 v2 u2 H.size hc2) cd_X11_hasText cv_X11_hasText ml_X11_138 rfl rfl ⟨by decide, by decide⟩ hK hV (fr_pre hK hV [0, 1, 8, 9] rfl (by decide)) (ci := 11) (q0 := 0) rfl rfl rfl rfl hl.1 rfl (Nat.le_of_ble_eq_true rfl) dX11_recipe_9) hV (va_free hV.2.1 hV.2.2 hA [0, 1, 8, 9] rfl) (fr_jn (s := s) (wn := wY11 cs h0 h2 o0_1 h3 h4 h5 h1 o0_4 o0_5 o0_6 o0_7 o0_8 o0_9 o0_10 o0_11 o0_12 o0_13 o0_14 ra0 x0_15 ++ (wX4 cs h1 ra1 y1_0 y1_1 y1_2 y1_3 y1_4 x1_5 x1_6 ++ (wX9 cs h2 ra2 y2_0 x2_1 x2_2 x2_3 x2_4 ++ (wX4 cs h3 ra3 y3_0 y3_1 y3_2 y3_3 y3_4 x3_5 x3_6 ++ (wX4 cs h4 ra4 y4_0 y4_1 y4_2 y4_3 y4_4 x4_5 x4_6 ++ (wX4 cs h5 ra5 y5_0 y5_1 y5_2 y5_3 y5_4 x5_5 x5_6)))))) hV hA [0, 1, 8, 9] [2, 3, 4, 5, 6, 7, 10, 11, 12, 13, 14, 15, 16, 17, 18, 19, 20, 21, 22, 23, 24, 25, 26, 27] [24, 25, 0, 1, 2, 3, 4, 5, 26, 27, 6, 7, 8, 9, 10, 11, 12, 13, 14, 15, 16, 17, 18, 19, 20, 21, 22, 23] rfl rfl (by decide) (by decide) rfl (by decide)) (fun H locs hV => ?_)
    refine lv_if_ne (tgt := 17) hx hb dX11_recipe_12 (by decide) (fun hc => ?_) (fun hc => ?_)
    · have hf := hf_f hf hc
      refine lv_aload_n hx hb dX11_recipe_17 rfl (lv_at hl 0 rfl) ?_
      refine q_get (v := .ref h1) hC hK hV fl_X11_30 0 rfl rfl dX11_recipe_18 ?_
      refine lv_aload_n hx hb dX11_recipe_21 rfl (lv_at hl 0 rfl) ?_
      refine q_get (v := .ref h2) hC hK hV fl_X11_10 0 rfl rfl dX11_recipe_22 ?_
      refine lv_iload_n hx hb dX11_recipe_25 rfl (lv_at hl 2 rfl) ?_
      obtain ⟨u3, hc3, hf⟩ := hf_b hf
      refine aft_i (run_v hC (k_X4_read l D cs h1 ra1 h2 ra2 y1_0 y1_1 y1_2 y1_3 y1_4 x1_5 x1_6 y2_0 x2_1 x2_2 x2_3 x2_4 v2 u3 H.size hc3) cd_X4_read cv_X4_read ml_X11_141 rfl rfl ⟨by decide, by decide⟩ hK hV (fr_pre hK hV [2, 3, 4, 5, 6, 7, 8, 9] rfl (by decide)) (ci := 4) (q0 := 2) rfl rfl rfl rfl hl.1 rfl (Nat.le_of_ble_eq_true rfl) dX11_recipe_26) hV (va_free hV.2.1 hV.2.2 hA [2, 3, 4, 5, 6, 7, 8, 9] rfl) (fr_jn (s := s) (wn := wY11 cs h0 h2 o0_1 h3 h4 h5 h1 o0_4 o0_5 o0_6 o0_7 o0_8 o0_9 o0_10 o0_11 o0_12 o0_13 o0_14 ra0 x0_15 ++ (wX4 cs h1 ra1 u3.2.1 u3.2.2.1 u3.2.2.2.1 u3.2.2.2.2.1 u3.2.2.2.2.2.1 u3.2.2.2.2.2.2.1 u3.2.2.2.2.2.2.2.1 ++ (wX9 cs h2 ra2 y2_0 x2_1 u3.2.2.2.2.2.2.2.2.1 u3.2.2.2.2.2.2.2.2.2.1 u3.2.2.2.2.2.2.2.2.2.2 ++ (wX4 cs h3 ra3 y3_0 y3_1 y3_2 y3_3 y3_4 x3_5 x3_6 ++ (wX4 cs h4 ra4 y4_0 y4_1 y4_2 y4_3 y4_4 x4_5 x4_6 ++ (wX4 cs h5 ra5 y5_0 y5_1 y5_2 y5_3 y5_4 x5_5 x5_6)))))) hV hA [2, 3, 4, 5, 6, 7, 8, 9] [0, 1, 10, 11, 12, 13, 14, 15, 16, 17, 18, 19, 20, 21, 22, 23, 24, 25, 26, 27] [0, 1, 20, 21, 22, 23, 24, 25, 26, 27, 2, 3, 4, 5, 6, 7, 8, 9, 10, 11, 12, 13, 14, 15, 16, 17, 18, 19] rfl rfl (by decide) (by decide) rfl (by decide)) (fun H locs hV => ?_)
      refine lv_istore_n (lv' := [(3, .int u3.1), (0, .ref h0), (1, .int v1), (2, .int v2)]) hx hb dX11_recipe_29 rfl hl (by decide) rfl (fun ls hl => ?_)
      refine lv_aload_n hx hb dX11_recipe_30 rfl (lv_at hl 1 rfl) ?_
      refine q_get (v := .ref h2) hC hK hV fl_X11_10 0 rfl rfl dX11_recipe_31 ?_
      obtain ⟨u4, hc4, hf⟩ := hf_b hf
      refine aft_v (run_v hC (k_X9_clear l D cs h2 ra2 y2_0 x2_1 u3.2.2.2.2.2.2.2.2.1 u3.2.2.2.2.2.2.2.2.2.1 u3.2.2.2.2.2.2.2.2.2.2 u4 H.size hc4) cd_X9_clear cv_X9_clear ml_X11_145 rfl rfl ⟨by decide, by decide⟩ hK hV (fr_pre hK hV [8, 9] rfl (by decide)) (ci := 9) (q0 := 8) rfl rfl rfl rfl hl.1 rfl (Nat.le_of_ble_eq_true rfl) dX11_recipe_34) hV (va_free hV.2.1 hV.2.2 hA [8, 9] rfl) (fr_jn (s := s) (wn := wY11 cs h0 h2 o0_1 h3 h4 h5 h1 o0_4 o0_5 o0_6 o0_7 o0_8 o0_9 o0_10 o0_11 o0_12 o0_13 o0_14 ra0 x0_15 ++ (wX4 cs h1 ra1 u3.2.1 u3.2.2.1 u3.2.2.2.1 u3.2.2.2.2.1 u3.2.2.2.2.2.1 u3.2.2.2.2.2.2.1 u3.2.2.2.2.2.2.2.1 ++ (wX9 cs h2 ra2 y2_0 u4 u3.2.2.2.2.2.2.2.2.1 u3.2.2.2.2.2.2.2.2.2.1 u3.2.2.2.2.2.2.2.2.2.2 ++ (wX4 cs h3 ra3 y3_0 y3_1 y3_2 y3_3 y3_4 x3_5 x3_6 ++ (wX4 cs h4 ra4 y4_0 y4_1 y4_2 y4_3 y4_4 x4_5 x4_6 ++ (wX4 cs h5 ra5 y5_0 y5_1 y5_2 y5_3 y5_4 x5_5 x5_6)))))) hV hA [8, 9] [0, 1, 2, 3, 4, 5, 6, 7, 10, 11, 12, 13, 14, 15, 16, 17, 18, 19, 20, 21, 22, 23, 24, 25, 26, 27] [0, 1, 2, 3, 4, 5, 6, 7, 26, 27, 8, 9, 10, 11, 12, 13, 14, 15, 16, 17, 18, 19, 20, 21, 22, 23, 24, 25] rfl rfl (by decide) (by decide) rfl (by decide)) (fun H locs hV => ?_)
      refine lv_iload_n hx hb dX11_recipe_37 rfl (lv_at hl 0 rfl) ?_
      refine lv_if_ne (tgt := 49) hx hb dX11_recipe_38 (by decide) (fun hc => ?_) (fun hc => ?_)
      · have hf := hf_f hf hc
        refine lv_aload_n hx hb dX11_recipe_49 rfl (lv_at hl 1 rfl) ?_
        refine q_get (v := .ref (ra0 2)) hC hK hV fl_X11_25 0 rfl rfl dX11_recipe_50 ?_
        refine lv_iload_n hx hb dX11_recipe_53 rfl (lv_at hl 2 rfl) ?_
        by_cases ht5 : v1 = 0
        · have hf := hf_t hf ht5
          refine q_aald (j := 0) hC hK hV 1 rfl ht5 (by decide) rfl dX11_recipe_54 ?_
          refine lv_astore (lv' := [(4, .ref h3), (3, .int u3.1), (0, .ref h0), (1, .int v1), (2, .int v2)]) hx hb dX11_recipe_55 hl (by decide) rfl (fun ls hl => ?_)
          refine lv_aload_n hx hb dX11_recipe_57 rfl (lv_at hl 2 rfl) ?_
          refine q_get (v := .ref (ra0 2)) hC hK hV fl_X11_25 0 rfl rfl dX11_recipe_58 ?_
          refine lv_iload_n hx hb dX11_recipe_61 rfl (lv_at hl 3 rfl) ?_
          refine lv_aload_n hx hb dX11_recipe_62 rfl (lv_at hl 2 rfl) ?_
          refine q_get (v := .ref h1) hC hK hV fl_X11_30 0 rfl rfl dX11_recipe_63 ?_
          refine q_aast (j := 0) (wn := wY11 cs h0 h2 o0_1 h1 h4 h5 h1 o0_4 o0_5 o0_6 o0_7 o0_8 o0_9 o0_10 o0_11 o0_12 o0_13 o0_14 ra0 x0_15 ++ (wX4 cs h1 ra1 u3.2.1 u3.2.2.1 u3.2.2.2.1 u3.2.2.2.2.1 u3.2.2.2.2.2.1 u3.2.2.2.2.2.2.1 u3.2.2.2.2.2.2.2.1 ++ (wX9 cs h2 ra2 y2_0 u4 u3.2.2.2.2.2.2.2.2.1 u3.2.2.2.2.2.2.2.2.2.1 u3.2.2.2.2.2.2.2.2.2.2 ++ (wX4 cs h3 ra3 y3_0 y3_1 y3_2 y3_3 y3_4 x3_5 x3_6 ++ (wX4 cs h4 ra4 y4_0 y4_1 y4_2 y4_3 y4_4 x4_5 x4_6 ++ (wX4 cs h5 ra5 y5_0 y5_1 y5_2 y5_3 y5_4 x5_5 x5_6)))))) hC hK hV 1 2 4 rfl rfl rfl rfl ht5 (by decide) (rcs_up0 _ _ _ _) rfl dX11_recipe_66 (fun H locs hV => ?_)
          refine lv_aload_n hx hb dX11_recipe_67 rfl (lv_at hl 2 rfl) ?_
          refine lv_aload hx hb dX11_recipe_68 (lv_at hl 0 rfl) ?_
          refine q_put (v := .ref h3) (wn := wY11 cs h0 h2 o0_1 h1 h4 h5 h3 o0_4 o0_5 o0_6 o0_7 o0_8 o0_9 o0_10 o0_11 o0_12 o0_13 o0_14 ra0 x0_15 ++ (wX4 cs h1 ra1 u3.2.1 u3.2.2.1 u3.2.2.2.1 u3.2.2.2.2.1 u3.2.2.2.2.2.1 u3.2.2.2.2.2.2.1 u3.2.2.2.2.2.2.2.1 ++ (wX9 cs h2 ra2 y2_0 u4 u3.2.2.2.2.2.2.2.2.1 u3.2.2.2.2.2.2.2.2.2.1 u3.2.2.2.2.2.2.2.2.2.2 ++ (wX4 cs h3 ra3 y3_0 y3_1 y3_2 y3_3 y3_4 x3_5 x3_6 ++ (wX4 cs h4 ra4 y4_0 y4_1 y4_2 y4_3 y4_4 x4_5 x4_6 ++ (wX4 cs h5 ra5 y5_0 y5_1 y5_2 y5_3 y5_4 x5_5 x5_6)))))) hC hK hV fl_X11_30 ptX11 rfl rfl 0 rfl rfl rfl (Nat.le_of_ble_eq_true rfl) rfl dX11_recipe_70 (fun H locs hV => ?_)
          refine lv_aload_n hx hb dX11_recipe_73 rfl (lv_at hl 2 rfl) ?_
          refine q_get (v := .ref (ra0 2)) hC hK hV fl_X11_25 0 rfl rfl dX11_recipe_74 ?_
          refine lv_iload_n hx hb dX11_recipe_77 rfl (lv_at hl 3 rfl) ?_
          refine q_aald (j := 0) hC hK hV 1 rfl ht5 (by decide) rfl dX11_recipe_78 ?_
          refine q_get (v := .int u3.2.2.2.2.2.2.2.1) hC hK hV fl_X11_151 2 rfl rfl dX11_recipe_79 ?_
          obtain rfl := Option.some.inj hf
          exact q_ret hC hr hlocks hV dX11_recipe_82
        have hf := hf_f hf ht5
        by_cases ht6 : v1 = 1
        · have hf := hf_t hf ht6
          refine q_aald (j := 1) hC hK hV 1 rfl ht6 (by decide) rfl dX11_recipe_54 ?_
          refine lv_astore (lv' := [(4, .ref h4), (3, .int u3.1), (0, .ref h0), (1, .int v1), (2, .int v2)]) hx hb dX11_recipe_55 hl (by decide) rfl (fun ls hl => ?_)
          refine lv_aload_n hx hb dX11_recipe_57 rfl (lv_at hl 2 rfl) ?_
          refine q_get (v := .ref (ra0 2)) hC hK hV fl_X11_25 0 rfl rfl dX11_recipe_58 ?_
          refine lv_iload_n hx hb dX11_recipe_61 rfl (lv_at hl 3 rfl) ?_
          refine lv_aload_n hx hb dX11_recipe_62 rfl (lv_at hl 2 rfl) ?_
          refine q_get (v := .ref h1) hC hK hV fl_X11_30 0 rfl rfl dX11_recipe_63 ?_
          refine q_aast (j := 1) (wn := wY11 cs h0 h2 o0_1 h3 h1 h5 h1 o0_4 o0_5 o0_6 o0_7 o0_8 o0_9 o0_10 o0_11 o0_12 o0_13 o0_14 ra0 x0_15 ++ (wX4 cs h1 ra1 u3.2.1 u3.2.2.1 u3.2.2.2.1 u3.2.2.2.2.1 u3.2.2.2.2.2.1 u3.2.2.2.2.2.2.1 u3.2.2.2.2.2.2.2.1 ++ (wX9 cs h2 ra2 y2_0 u4 u3.2.2.2.2.2.2.2.2.1 u3.2.2.2.2.2.2.2.2.2.1 u3.2.2.2.2.2.2.2.2.2.2 ++ (wX4 cs h3 ra3 y3_0 y3_1 y3_2 y3_3 y3_4 x3_5 x3_6 ++ (wX4 cs h4 ra4 y4_0 y4_1 y4_2 y4_3 y4_4 x4_5 x4_6 ++ (wX4 cs h5 ra5 y5_0 y5_1 y5_2 y5_3 y5_4 x5_5 x5_6)))))) hC hK hV 1 2 4 rfl rfl rfl rfl ht6 (by decide) (rcs_up1 _ _ _ _) rfl dX11_recipe_66 (fun H locs hV => ?_)
          refine lv_aload_n hx hb dX11_recipe_67 rfl (lv_at hl 2 rfl) ?_
          refine lv_aload hx hb dX11_recipe_68 (lv_at hl 0 rfl) ?_
          refine q_put (v := .ref h4) (wn := wY11 cs h0 h2 o0_1 h3 h1 h5 h4 o0_4 o0_5 o0_6 o0_7 o0_8 o0_9 o0_10 o0_11 o0_12 o0_13 o0_14 ra0 x0_15 ++ (wX4 cs h1 ra1 u3.2.1 u3.2.2.1 u3.2.2.2.1 u3.2.2.2.2.1 u3.2.2.2.2.2.1 u3.2.2.2.2.2.2.1 u3.2.2.2.2.2.2.2.1 ++ (wX9 cs h2 ra2 y2_0 u4 u3.2.2.2.2.2.2.2.2.1 u3.2.2.2.2.2.2.2.2.2.1 u3.2.2.2.2.2.2.2.2.2.2 ++ (wX4 cs h3 ra3 y3_0 y3_1 y3_2 y3_3 y3_4 x3_5 x3_6 ++ (wX4 cs h4 ra4 y4_0 y4_1 y4_2 y4_3 y4_4 x4_5 x4_6 ++ (wX4 cs h5 ra5 y5_0 y5_1 y5_2 y5_3 y5_4 x5_5 x5_6)))))) hC hK hV fl_X11_30 ptX11 rfl rfl 0 rfl rfl rfl (Nat.le_of_ble_eq_true rfl) rfl dX11_recipe_70 (fun H locs hV => ?_)
          refine lv_aload_n hx hb dX11_recipe_73 rfl (lv_at hl 2 rfl) ?_
          refine q_get (v := .ref (ra0 2)) hC hK hV fl_X11_25 0 rfl rfl dX11_recipe_74 ?_
          refine lv_iload_n hx hb dX11_recipe_77 rfl (lv_at hl 3 rfl) ?_
          refine q_aald (j := 1) hC hK hV 1 rfl ht6 (by decide) rfl dX11_recipe_78 ?_
          refine q_get (v := .int u3.2.2.2.2.2.2.2.1) hC hK hV fl_X11_151 2 rfl rfl dX11_recipe_79 ?_
          obtain rfl := Option.some.inj hf
          exact q_ret hC hr hlocks hV dX11_recipe_82
        have hf := hf_f hf ht6
        by_cases ht7 : v1 = 2
        · have hf := hf_t hf ht7
          refine q_aald (j := 2) hC hK hV 1 rfl ht7 (by decide) rfl dX11_recipe_54 ?_
          refine lv_astore (lv' := [(4, .ref h5), (3, .int u3.1), (0, .ref h0), (1, .int v1), (2, .int v2)]) hx hb dX11_recipe_55 hl (by decide) rfl (fun ls hl => ?_)
          refine lv_aload_n hx hb dX11_recipe_57 rfl (lv_at hl 2 rfl) ?_
          refine q_get (v := .ref (ra0 2)) hC hK hV fl_X11_25 0 rfl rfl dX11_recipe_58 ?_
          refine lv_iload_n hx hb dX11_recipe_61 rfl (lv_at hl 3 rfl) ?_
          refine lv_aload_n hx hb dX11_recipe_62 rfl (lv_at hl 2 rfl) ?_
          refine q_get (v := .ref h1) hC hK hV fl_X11_30 0 rfl rfl dX11_recipe_63 ?_
          refine q_aast (j := 2) (wn := wY11 cs h0 h2 o0_1 h3 h4 h1 h1 o0_4 o0_5 o0_6 o0_7 o0_8 o0_9 o0_10 o0_11 o0_12 o0_13 o0_14 ra0 x0_15 ++ (wX4 cs h1 ra1 u3.2.1 u3.2.2.1 u3.2.2.2.1 u3.2.2.2.2.1 u3.2.2.2.2.2.1 u3.2.2.2.2.2.2.1 u3.2.2.2.2.2.2.2.1 ++ (wX9 cs h2 ra2 y2_0 u4 u3.2.2.2.2.2.2.2.2.1 u3.2.2.2.2.2.2.2.2.2.1 u3.2.2.2.2.2.2.2.2.2.2 ++ (wX4 cs h3 ra3 y3_0 y3_1 y3_2 y3_3 y3_4 x3_5 x3_6 ++ (wX4 cs h4 ra4 y4_0 y4_1 y4_2 y4_3 y4_4 x4_5 x4_6 ++ (wX4 cs h5 ra5 y5_0 y5_1 y5_2 y5_3 y5_4 x5_5 x5_6)))))) hC hK hV 1 2 4 rfl rfl rfl rfl ht7 (by decide) (rcs_up2 _ _ _ _) rfl dX11_recipe_66 (fun H locs hV => ?_)
          refine lv_aload_n hx hb dX11_recipe_67 rfl (lv_at hl 2 rfl) ?_
          refine lv_aload hx hb dX11_recipe_68 (lv_at hl 0 rfl) ?_
          refine q_put (v := .ref h5) (wn := wY11 cs h0 h2 o0_1 h3 h4 h1 h5 o0_4 o0_5 o0_6 o0_7 o0_8 o0_9 o0_10 o0_11 o0_12 o0_13 o0_14 ra0 x0_15 ++ (wX4 cs h1 ra1 u3.2.1 u3.2.2.1 u3.2.2.2.1 u3.2.2.2.2.1 u3.2.2.2.2.2.1 u3.2.2.2.2.2.2.1 u3.2.2.2.2.2.2.2.1 ++ (wX9 cs h2 ra2 y2_0 u4 u3.2.2.2.2.2.2.2.2.1 u3.2.2.2.2.2.2.2.2.2.1 u3.2.2.2.2.2.2.2.2.2.2 ++ (wX4 cs h3 ra3 y3_0 y3_1 y3_2 y3_3 y3_4 x3_5 x3_6 ++ (wX4 cs h4 ra4 y4_0 y4_1 y4_2 y4_3 y4_4 x4_5 x4_6 ++ (wX4 cs h5 ra5 y5_0 y5_1 y5_2 y5_3 y5_4 x5_5 x5_6)))))) hC hK hV fl_X11_30 ptX11 rfl rfl 0 rfl rfl rfl (Nat.le_of_ble_eq_true rfl) rfl dX11_recipe_70 (fun H locs hV => ?_)
          refine lv_aload_n hx hb dX11_recipe_73 rfl (lv_at hl 2 rfl) ?_
          refine q_get (v := .ref (ra0 2)) hC hK hV fl_X11_25 0 rfl rfl dX11_recipe_74 ?_
          refine lv_iload_n hx hb dX11_recipe_77 rfl (lv_at hl 3 rfl) ?_
          refine q_aald (j := 2) hC hK hV 1 rfl ht7 (by decide) rfl dX11_recipe_78 ?_
          refine q_get (v := .int u3.2.2.2.2.2.2.2.1) hC hK hV fl_X11_151 2 rfl rfl dX11_recipe_79 ?_
          obtain rfl := Option.some.inj hf
          exact q_ret hC hr hlocks hV dX11_recipe_82
        have hf := hf_f hf ht7
        exact hf_no (show (none : Option (Int32 × (Nat → Int32) × (Nat → Int32) × (Nat → Int32) × (Nat → Int32) × (Nat → Int32) × Int32 × Int32 × Int32 × Int32 × Int32 × Int32 × Nat × Nat × Nat × Nat)) = some u from hf)
      · have hf := hf_t hf hc
        refine lv_aload_n hx hb dX11_recipe_41 rfl (lv_at hl 1 rfl) ?_
        refine q_get (v := .ref h2) hC hK hV fl_X11_10 0 rfl rfl dX11_recipe_42 ?_
        refine q_get (v := .int u3.2.2.2.2.2.2.2.2.2.2) hC hK hV fl_X11_148 8 rfl rfl dX11_recipe_45 ?_
        obtain rfl := Option.some.inj hf
        exact q_ret hC hr hlocks hV dX11_recipe_48
    · have hf := hf_t hf hc
      refine lv_iconst (v := (-1)) hx hb dX11_recipe_15 (by decide) ?_
      obtain rfl := Option.some.inj hf
      exact q_ret hC hr hlocks hV dX11_recipe_16
set_option maxRecDepth 100000 in
theorem k_X11_recipe (l : Launch) (D : va_G) (cs : Nat → ClassId) (h0 : Nat) (o0_1 : Nat) (o0_4 : Nat) (o0_5 : Nat) (o0_6 : Nat) (o0_7 : Nat) (o0_8 : Nat) (o0_9 : Nat) (o0_10 : Nat) (o0_11 : Nat) (o0_12 : Nat) (o0_13 : Nat) (o0_14 : Nat) (ra0 : Nat → Nat) (h1 : Nat) (ra1 : Nat → Nat) (h2 : Nat) (ra2 : Nat → Nat) (h3 : Nat) (ra3 : Nat → Nat) (h4 : Nat) (ra4 : Nat → Nat) (h5 : Nat) (ra5 : Nat → Nat) (x0_15 : Int32) (y1_0 y1_1 y1_2 y1_3 y1_4 : Nat → Int32) (x1_5 x1_6 : Int32) (y2_0 : Nat → Int32) (x2_1 x2_2 x2_3 x2_4 : Int32) (y3_0 y3_1 y3_2 y3_3 y3_4 : Nat → Int32) (x3_5 x3_6 : Int32) (y4_0 y4_1 y4_2 y4_3 y4_4 : Nat → Int32) (x4_5 x4_6 : Int32) (y5_0 y5_1 y5_2 y5_3 y5_4 : Nat → Int32) (x5_5 x5_6 : Int32) (v1 v2 : Int32) (u : Int32 × (Nat → Int32) × (Nat → Int32) × (Nat → Int32) × (Nat → Int32) × (Nat → Int32) × Int32 × Int32 × Int32 × Int32 × Int32 × Int32 × Nat × Nat × Nat × Nat) (sz : Nat) (hf : f_X11_recipe h0 o0_1 o0_4 o0_5 o0_6 o0_7 o0_8 o0_9 o0_10 o0_11 o0_12 o0_13 o0_14 h1 h2 h3 h4 h5 v1 v2 y1_0 y1_1 y1_2 y1_3 y1_4 x1_5 x1_6 y2_0 x2_1 x2_2 x2_3 x2_4 x3_6 x4_6 x5_6 = some u) : Met l yX11_recipe (WS yX11_recipe cX11_recipe 5 (some .int)) rm_X11_recipe (va_Pc [.ref h0, .int v1, .int v2] (PR D cs (wY11 cs h0 h2 o0_1 h3 h4 h5 h1 o0_4 o0_5 o0_6 o0_7 o0_8 o0_9 o0_10 o0_11 o0_12 o0_13 o0_14 ra0 x0_15 ++ (wX4 cs h1 ra1 y1_0 y1_1 y1_2 y1_3 y1_4 x1_5 x1_6 ++ (wX9 cs h2 ra2 y2_0 x2_1 x2_2 x2_3 x2_4 ++ (wX4 cs h3 ra3 y3_0 y3_1 y3_2 y3_3 y3_4 x3_5 x3_6 ++ (wX4 cs h4 ra4 y4_0 y4_1 y4_2 y4_3 y4_4 x4_5 x4_6 ++ (wX4 cs h5 ra5 y5_0 y5_1 y5_2 y5_3 y5_4 x5_5 x5_6)))))) sz)) (QI D (wY11 cs h0 h2 o0_1 u.2.2.2.2.2.2.2.2.2.2.2.2.1 u.2.2.2.2.2.2.2.2.2.2.2.2.2.1 u.2.2.2.2.2.2.2.2.2.2.2.2.2.2.1 u.2.2.2.2.2.2.2.2.2.2.2.2.2.2.2 o0_4 o0_5 o0_6 o0_7 o0_8 o0_9 o0_10 o0_11 o0_12 o0_13 o0_14 ra0 x0_15 ++ (wX4 cs h1 ra1 u.2.1 u.2.2.1 u.2.2.2.1 u.2.2.2.2.1 u.2.2.2.2.2.1 u.2.2.2.2.2.2.1 u.2.2.2.2.2.2.2.1 ++ (wX9 cs h2 ra2 y2_0 u.2.2.2.2.2.2.2.2.1 u.2.2.2.2.2.2.2.2.2.1 u.2.2.2.2.2.2.2.2.2.2.1 u.2.2.2.2.2.2.2.2.2.2.2.1 ++ (wX4 cs h3 ra3 y3_0 y3_1 y3_2 y3_3 y3_4 x3_5 x3_6 ++ (wX4 cs h4 ra4 y4_0 y4_1 y4_2 y4_3 y4_4 x4_5 x4_6 ++ (wX4 cs h5 ra5 y5_0 y5_1 y5_2 y5_3 y5_4 x5_5 x5_6)))))) (va_A (wY11 cs h0 h2 o0_1 h3 h4 h5 h1 o0_4 o0_5 o0_6 o0_7 o0_8 o0_9 o0_10 o0_11 o0_12 o0_13 o0_14 ra0 x0_15 ++ (wX4 cs h1 ra1 y1_0 y1_1 y1_2 y1_3 y1_4 x1_5 x1_6 ++ (wX9 cs h2 ra2 y2_0 x2_1 x2_2 x2_3 x2_4 ++ (wX4 cs h3 ra3 y3_0 y3_1 y3_2 y3_3 y3_4 x3_5 x3_6 ++ (wX4 cs h4 ra4 y4_0 y4_1 y4_2 y4_3 y4_4 x4_5 x4_6 ++ (wX4 cs h5 ra5 y5_0 y5_1 y5_2 y5_3 y5_4 x5_5 x5_6)))))) sz) u.1) 0 0 (va_A (wY11 cs h0 h2 o0_1 h3 h4 h5 h1 o0_4 o0_5 o0_6 o0_7 o0_8 o0_9 o0_10 o0_11 o0_12 o0_13 o0_14 ra0 x0_15 ++ (wX4 cs h1 ra1 y1_0 y1_1 y1_2 y1_3 y1_4 x1_5 x1_6 ++ (wX9 cs h2 ra2 y2_0 x2_1 x2_2 x2_3 x2_4 ++ (wX4 cs h3 ra3 y3_0 y3_1 y3_2 y3_3 y3_4 x3_5 x3_6 ++ (wX4 cs h4 ra4 y4_0 y4_1 y4_2 y4_3 y4_4 x4_5 x4_6 ++ (wX4 cs h5 ra5 y5_0 y5_1 y5_2 y5_3 y5_4 x5_5 x5_6)))))) sz) := by
  refine met_of RX11 rfl (by decide) (Nat.le_of_ble_eq_true rfl) ?_
  intro p e s m args below meth c hC hr hlocks hK hsz hA hV ls hl
  exact b_X11_recipe_0 hC hr hlocks hK hA h0 o0_1 o0_4 o0_5 o0_6 o0_7 o0_8 o0_9 o0_10 o0_11 o0_12 o0_13 o0_14 ra0 h1 ra1 h2 ra2 h3 ra3 h4 ra4 h5 ra5 x0_15 y3_0 y3_1 y3_2 y3_3 y3_4 x3_5 y4_0 y4_1 y4_2 y4_3 y4_4 x4_5 y5_0 y5_1 y5_2 y5_3 y5_4 x5_5 u v1 v2 y1_0 y1_1 y1_2 y1_3 y1_4 x1_5 x1_6 y2_0 x2_1 x2_2 x2_3 x2_4 x3_6 x4_6 x5_6 s.heap [] ls hf (lv_sub hl [0, 1, 2] rfl) hV
def rm_X11_spec : Room := { frames := 1645, cells := 0, slots := 0, locals := 37853 }
set_option maxHeartbeats 4000000 in
set_option maxRecDepth 100000 in
theorem b_X11_spec_0 {p : Program} {l : Launch} {e : Env} {s : State} {m : MethodId} {args : Array Value} {below : List Frame} {meth : Method} {c : Code} {D : va_G} {cs : Nat → ClassId} {A : Nat → Prop} (hC : CallFix p m c cX11_spec 4 s args gtbl RX11) (hr : meth.sig.returnType = (some .int)) (hlocks : meth.locks = false) (hK : KN D cs s) (hA : ∀ q : Nat, s.heap.size ≤ q → A q) (h0 : Nat) (o0_1 : Nat) (o0_2a : Nat) (o0_2b : Nat) (o0_2c : Nat) (o0_3 : Nat) (o0_7 : Nat) (o0_8 : Nat) (o0_9 : Nat) (o0_10 : Nat) (o0_11 : Nat) (o0_12 : Nat) (o0_13 : Nat) (o0_14 : Nat) (ra0 : Nat → Nat) (h1 : Nat) (ra1 : Nat → Nat) (h2 : Nat) (ra2 : Nat → Nat) (h3 : Nat) (o3_1 : Nat) (h4 : Nat) (ra4 : Nat → Nat) (x0_15 : Int32) (y1_0 y1_1 : Nat → Int32) (x1_2 : Int32) (y1_3 : Nat → Int32) (x1_4 x1_5 x1_6 : Int32) (y2_3 : Nat → Int32) (x2_4 x2_5 x2_6 : Int32) (u : Int32 × (Nat → Int32) × (Nat → Int32) × Int32 × Int32 × Int32 × Int32 × Int32 × Nat × Nat × Nat) : ∀ (v1 : Int32) (y2_0 y2_1 : Nat → Int32) (x2_2 : Int32) (y4_0 : Nat → Int32) (x4_1 x4_2 x4_3 x4_4 : Int32) (H : Heap) (locs : List Loc) (ls : Array Slot), g_X11_spec_0 h0 o0_1 o0_2a o0_2b o0_2c o0_3 o0_7 o0_8 o0_9 o0_10 o0_11 o0_12 o0_13 o0_14 h1 h2 h3 o3_1 h4 v1 y2_0 y2_1 x2_2 y4_0 x4_1 x4_2 x4_3 x4_4 = some u → lv_has ls 4 [(0, .ref h0), (1, .int v1)] → VW D A s.heap (wY11 cs h0 h4 o0_1 o0_2a o0_2b o0_2c o0_3 h1 h2 h3 o0_7 o0_8 o0_9 o0_10 o0_11 o0_12 o0_13 o0_14 ra0 x0_15 ++ (wX6 cs h1 ra1 y1_0 y1_1 x1_2 y1_3 x1_4 x1_5 x1_6 ++ (wX6 cs h2 ra2 y2_0 y2_1 x2_2 y2_3 x2_4 x2_5 x2_6 ++ (wX7 cs h3 h4 o3_1 ++ (wX9 cs h4 ra4 y4_0 x4_1 x4_2 x4_3 x4_4))))) H locs → W p l e rm_X11_spec s m args below meth c H locs 0 0 (MQ below (QI D (wY11 cs h0 h4 o0_1 o0_2a o0_2b o0_2c o0_3 u.2.2.2.2.2.2.2.2.1 u.2.2.2.2.2.2.2.2.2.1 h3 o0_7 o0_8 o0_9 o0_10 o0_11 o0_12 o0_13 o0_14 ra0 x0_15 ++ (wX6 cs h1 ra1 y1_0 y1_1 x1_2 y1_3 x1_4 x1_5 x1_6 ++ (wX6 cs h2 ra2 u.2.1 u.2.2.1 u.2.2.2.1 y2_3 x2_4 x2_5 x2_6 ++ (wX7 cs h3 h4 u.2.2.2.2.2.2.2.2.2.2 ++ (wX9 cs h4 ra4 y4_0 u.2.2.2.2.1 u.2.2.2.2.2.1 u.2.2.2.2.2.2.1 u.2.2.2.2.2.2.2.1))))) A u.1) args s 0 0 A) (F0 m 0 ls []) := by
  have hx := hC.1
  have hb := hC.2.1
  have hown := hC.2.2.2.1
  have hts := hC.2.2.2.2
  intro v1 y2_0 y2_1 x2_2 y4_0 x4_1 x4_2 x4_3 x4_4 H locs ls hf hl hV
  refine lv_aload_n hx hb dX11_spec_0 rfl (lv_at hl 0 rfl) ?_
  refine lv_iload_n hx hb dX11_spec_1 rfl (lv_at hl 1 rfl) ?_
  obtain ⟨u1, hc1, hf⟩ := hf_b hf
  refine aft_i (run_v hC (k_X11_hasText l D cs h0 o0_1 o0_2a o0_2b o0_2c o0_3 h1 h2 h3 o0_7 o0_8 o0_9 o0_10 o0_11 o0_12 o0_13 o0_14 ra0 h4 ra4 x0_15 y4_0 x4_1 x4_2 x4_3 x4_4 v1 u1 H.size hc1) cd_X11_hasText cv_X11_hasText ml_X11_138 rfl rfl ⟨by decide, by decide⟩ hK hV (fr_pre hK hV [0, 1, 11, 12] rfl (by decide)) (ci := 11) (q0 := 0) rfl rfl rfl rfl hl.1 rfl (Nat.le_of_ble_eq_true rfl) dX11_spec_2) hV (va_free hV.2.1 hV.2.2 hA [0, 1, 11, 12] rfl) (fr_jn (s := s) (wn := wY11 cs h0 h4 o0_1 o0_2a o0_2b o0_2c o0_3 h1 h2 h3 o0_7 o0_8 o0_9 o0_10 o0_11 o0_12 o0_13 o0_14 ra0 x0_15 ++ (wX6 cs h1 ra1 y1_0 y1_1 x1_2 y1_3 x1_4 x1_5 x1_6 ++ (wX6 cs h2 ra2 y2_0 y2_1 x2_2 y2_3 x2_4 x2_5 x2_6 ++ (wX7 cs h3 h4 o3_1 ++ (wX9 cs h4 ra4 y4_0 x4_1 x4_2 x4_3 x4_4))))) hV hA [0, 1, 11, 12] [2, 3, 4, 5, 6, 7, 8, 9, 10] [9, 10, 0, 1, 2, 3, 4, 5, 6, 7, 8, 11, 12] rfl rfl (by decide) (by decide) rfl (by decide)) (fun H locs hV => ?_)
  refine lv_if_ne (tgt := 10) hx hb dX11_spec_5 (by decide) (fun hc => ?_) (fun hc => ?_)
  · have hf := hf_f hf hc
    refine lv_aload_n hx hb dX11_spec_10 rfl (lv_at hl 0 rfl) ?_
    refine q_get (v := .ref h3) hC hK hV fl_X11_49 0 rfl rfl dX11_spec_11 ?_
    refine lv_aload_n hx hb dX11_spec_14 rfl (lv_at hl 0 rfl) ?_
    refine q_get (v := .ref h2) hC hK hV fl_X11_41 0 rfl rfl dX11_spec_15 ?_
    refine lv_iload_n hx hb dX11_spec_18 rfl (lv_at hl 1 rfl) ?_
    obtain ⟨u2, hc2, hf⟩ := hf_b hf
    refine aft_i (run_v hC (k_X7_read l D cs h3 o3_1 h2 ra2 h4 ra4 y2_0 y2_1 x2_2 y2_3 x2_4 x2_5 x2_6 y4_0 x4_1 x4_2 x4_3 x4_4 v1 u2 H.size hc2) cd_X7_read cv_X7_read ml_X11_154 rfl rfl ⟨by decide, by decide⟩ hK hV (fr_pre hK hV [10, 6, 7, 8, 9, 11, 12] rfl (by decide)) (ci := 7) (q0 := 10) rfl rfl rfl rfl hl.1 rfl (Nat.le_of_ble_eq_true rfl) dX11_spec_19) hV (va_free hV.2.1 hV.2.2 hA [10, 6, 7, 8, 9, 11, 12] rfl) (fr_jn (s := s) (wn := wY11 cs h0 h4 o0_1 o0_2a o0_2b o0_2c o0_3 h1 h2 h3 o0_7 o0_8 o0_9 o0_10 o0_11 o0_12 o0_13 o0_14 ra0 x0_15 ++ (wX6 cs h1 ra1 y1_0 y1_1 x1_2 y1_3 x1_4 x1_5 x1_6 ++ (wX6 cs h2 ra2 u2.2.1 u2.2.2.1 u2.2.2.2.1 y2_3 x2_4 x2_5 x2_6 ++ (wX7 cs h3 h4 h2 ++ (wX9 cs h4 ra4 y4_0 x4_1 u2.2.2.2.2.1 u2.2.2.2.2.2.1 u2.2.2.2.2.2.2))))) hV hA [10, 6, 7, 8, 9, 11, 12] [0, 1, 2, 3, 4, 5] [0, 1, 2, 3, 4, 5, 7, 8, 9, 10, 6, 11, 12] rfl rfl (by decide) (by decide) rfl (by decide)) (fun H locs hV => ?_)
    refine lv_istore_n (lv' := [(2, .int u2.1), (0, .ref h0), (1, .int v1)]) hx hb dX11_spec_22 rfl hl (by decide) rfl (fun ls hl => ?_)
    refine lv_aload_n hx hb dX11_spec_23 rfl (lv_at hl 1 rfl) ?_
    refine q_get (v := .ref h4) hC hK hV fl_X11_10 0 rfl rfl dX11_spec_24 ?_
    obtain ⟨u3, hc3, hf⟩ := hf_b hf
    refine aft_v (run_v hC (k_X9_clear l D cs h4 ra4 y4_0 x4_1 u2.2.2.2.2.1 u2.2.2.2.2.2.1 u2.2.2.2.2.2.2 u3 H.size hc3) cd_X9_clear cv_X9_clear ml_X11_145 rfl rfl ⟨by decide, by decide⟩ hK hV (fr_pre hK hV [11, 12] rfl (by decide)) (ci := 9) (q0 := 11) rfl rfl rfl rfl hl.1 rfl (Nat.le_of_ble_eq_true rfl) dX11_spec_27) hV (va_free hV.2.1 hV.2.2 hA [11, 12] rfl) (fr_jn (s := s) (wn := wY11 cs h0 h4 o0_1 o0_2a o0_2b o0_2c o0_3 h1 h2 h3 o0_7 o0_8 o0_9 o0_10 o0_11 o0_12 o0_13 o0_14 ra0 x0_15 ++ (wX6 cs h1 ra1 y1_0 y1_1 x1_2 y1_3 x1_4 x1_5 x1_6 ++ (wX6 cs h2 ra2 u2.2.1 u2.2.2.1 u2.2.2.2.1 y2_3 x2_4 x2_5 x2_6 ++ (wX7 cs h3 h4 h2 ++ (wX9 cs h4 ra4 y4_0 u3 u2.2.2.2.2.1 u2.2.2.2.2.2.1 u2.2.2.2.2.2.2))))) hV hA [11, 12] [0, 1, 2, 3, 4, 5, 6, 7, 8, 9, 10] [0, 1, 2, 3, 4, 5, 6, 7, 8, 9, 10, 11, 12] rfl rfl (by decide) (by decide) rfl (by decide)) (fun H locs hV => ?_)
    refine lv_iload_n hx hb dX11_spec_30 rfl (lv_at hl 0 rfl) ?_
    refine lv_if_ne (tgt := 42) hx hb dX11_spec_31 (by decide) (fun hc => ?_) (fun hc => ?_)
    · have hf := hf_f hf hc
      refine lv_aload_n hx hb dX11_spec_42 rfl (lv_at hl 1 rfl) ?_
      refine q_get (v := .ref h1) hC hK hV fl_X11_37 0 rfl rfl dX11_spec_43 ?_
      refine lv_astore_n (lv' := [(3, .ref h1), (2, .int u2.1), (0, .ref h0), (1, .int v1)]) hx hb dX11_spec_46 rfl hl (by decide) rfl (fun ls hl => ?_)
      refine lv_aload_n hx hb dX11_spec_47 rfl (lv_at hl 2 rfl) ?_
      refine lv_aload_n hx hb dX11_spec_48 rfl (lv_at hl 2 rfl) ?_
      refine q_get (v := .ref h2) hC hK hV fl_X11_41 0 rfl rfl dX11_spec_49 ?_
      refine q_put (v := .ref h2) (wn := wY11 cs h0 h4 o0_1 o0_2a o0_2b o0_2c o0_3 h2 h2 h3 o0_7 o0_8 o0_9 o0_10 o0_11 o0_12 o0_13 o0_14 ra0 x0_15 ++ (wX6 cs h1 ra1 y1_0 y1_1 x1_2 y1_3 x1_4 x1_5 x1_6 ++ (wX6 cs h2 ra2 u2.2.1 u2.2.2.1 u2.2.2.2.1 y2_3 x2_4 x2_5 x2_6 ++ (wX7 cs h3 h4 h2 ++ (wX9 cs h4 ra4 y4_0 u3 u2.2.2.2.2.1 u2.2.2.2.2.2.1 u2.2.2.2.2.2.2))))) hC hK hV fl_X11_37 ptX11 rfl rfl 0 rfl rfl rfl (Nat.le_of_ble_eq_true rfl) rfl dX11_spec_52 (fun H locs hV => ?_)
      refine lv_aload_n hx hb dX11_spec_55 rfl (lv_at hl 2 rfl) ?_
      refine lv_aload_n hx hb dX11_spec_56 rfl (lv_at hl 0 rfl) ?_
      refine q_put (v := .ref h1) (wn := wY11 cs h0 h4 o0_1 o0_2a o0_2b o0_2c o0_3 h2 h1 h3 o0_7 o0_8 o0_9 o0_10 o0_11 o0_12 o0_13 o0_14 ra0 x0_15 ++ (wX6 cs h1 ra1 y1_0 y1_1 x1_2 y1_3 x1_4 x1_5 x1_6 ++ (wX6 cs h2 ra2 u2.2.1 u2.2.2.1 u2.2.2.2.1 y2_3 x2_4 x2_5 x2_6 ++ (wX7 cs h3 h4 h2 ++ (wX9 cs h4 ra4 y4_0 u3 u2.2.2.2.2.1 u2.2.2.2.2.2.1 u2.2.2.2.2.2.2))))) hC hK hV fl_X11_41 ptX11 rfl rfl 0 rfl rfl rfl (Nat.le_of_ble_eq_true rfl) rfl dX11_spec_57 (fun H locs hV => ?_)
      refine lv_iconst (v := 1) hx hb dX11_spec_60 (by decide) ?_
      obtain rfl := Option.some.inj hf
      exact q_ret hC hr hlocks hV dX11_spec_61
    · have hf := hf_t hf hc
      refine lv_aload_n hx hb dX11_spec_34 rfl (lv_at hl 1 rfl) ?_
      refine q_get (v := .ref h4) hC hK hV fl_X11_10 0 rfl rfl dX11_spec_35 ?_
      refine q_get (v := .int u2.2.2.2.2.2.2) hC hK hV fl_X11_148 11 rfl rfl dX11_spec_38 ?_
      obtain rfl := Option.some.inj hf
      exact q_ret hC hr hlocks hV dX11_spec_41
  · have hf := hf_t hf hc
    refine lv_iconst (v := (-1)) hx hb dX11_spec_8 (by decide) ?_
    obtain rfl := Option.some.inj hf
    exact q_ret hC hr hlocks hV dX11_spec_9
set_option maxRecDepth 100000 in
theorem k_X11_spec (l : Launch) (D : va_G) (cs : Nat → ClassId) (h0 : Nat) (o0_1 : Nat) (o0_2a : Nat) (o0_2b : Nat) (o0_2c : Nat) (o0_3 : Nat) (o0_7 : Nat) (o0_8 : Nat) (o0_9 : Nat) (o0_10 : Nat) (o0_11 : Nat) (o0_12 : Nat) (o0_13 : Nat) (o0_14 : Nat) (ra0 : Nat → Nat) (h1 : Nat) (ra1 : Nat → Nat) (h2 : Nat) (ra2 : Nat → Nat) (h3 : Nat) (o3_1 : Nat) (h4 : Nat) (ra4 : Nat → Nat) (x0_15 : Int32) (y1_0 y1_1 : Nat → Int32) (x1_2 : Int32) (y1_3 : Nat → Int32) (x1_4 x1_5 x1_6 : Int32) (y2_0 y2_1 : Nat → Int32) (x2_2 : Int32) (y2_3 : Nat → Int32) (x2_4 x2_5 x2_6 : Int32) (y4_0 : Nat → Int32) (x4_1 x4_2 x4_3 x4_4 : Int32) (v1 : Int32) (u : Int32 × (Nat → Int32) × (Nat → Int32) × Int32 × Int32 × Int32 × Int32 × Int32 × Nat × Nat × Nat) (sz : Nat) (hf : f_X11_spec h0 o0_1 o0_2a o0_2b o0_2c o0_3 o0_7 o0_8 o0_9 o0_10 o0_11 o0_12 o0_13 o0_14 h1 h2 h3 o3_1 h4 v1 y2_0 y2_1 x2_2 y4_0 x4_1 x4_2 x4_3 x4_4 = some u) : Met l yX11_spec (WS yX11_spec cX11_spec 4 (some .int)) rm_X11_spec (va_Pc [.ref h0, .int v1] (PR D cs (wY11 cs h0 h4 o0_1 o0_2a o0_2b o0_2c o0_3 h1 h2 h3 o0_7 o0_8 o0_9 o0_10 o0_11 o0_12 o0_13 o0_14 ra0 x0_15 ++ (wX6 cs h1 ra1 y1_0 y1_1 x1_2 y1_3 x1_4 x1_5 x1_6 ++ (wX6 cs h2 ra2 y2_0 y2_1 x2_2 y2_3 x2_4 x2_5 x2_6 ++ (wX7 cs h3 h4 o3_1 ++ (wX9 cs h4 ra4 y4_0 x4_1 x4_2 x4_3 x4_4))))) sz)) (QI D (wY11 cs h0 h4 o0_1 o0_2a o0_2b o0_2c o0_3 u.2.2.2.2.2.2.2.2.1 u.2.2.2.2.2.2.2.2.2.1 h3 o0_7 o0_8 o0_9 o0_10 o0_11 o0_12 o0_13 o0_14 ra0 x0_15 ++ (wX6 cs h1 ra1 y1_0 y1_1 x1_2 y1_3 x1_4 x1_5 x1_6 ++ (wX6 cs h2 ra2 u.2.1 u.2.2.1 u.2.2.2.1 y2_3 x2_4 x2_5 x2_6 ++ (wX7 cs h3 h4 u.2.2.2.2.2.2.2.2.2.2 ++ (wX9 cs h4 ra4 y4_0 u.2.2.2.2.1 u.2.2.2.2.2.1 u.2.2.2.2.2.2.1 u.2.2.2.2.2.2.2.1))))) (va_A (wY11 cs h0 h4 o0_1 o0_2a o0_2b o0_2c o0_3 h1 h2 h3 o0_7 o0_8 o0_9 o0_10 o0_11 o0_12 o0_13 o0_14 ra0 x0_15 ++ (wX6 cs h1 ra1 y1_0 y1_1 x1_2 y1_3 x1_4 x1_5 x1_6 ++ (wX6 cs h2 ra2 y2_0 y2_1 x2_2 y2_3 x2_4 x2_5 x2_6 ++ (wX7 cs h3 h4 o3_1 ++ (wX9 cs h4 ra4 y4_0 x4_1 x4_2 x4_3 x4_4))))) sz) u.1) 0 0 (va_A (wY11 cs h0 h4 o0_1 o0_2a o0_2b o0_2c o0_3 h1 h2 h3 o0_7 o0_8 o0_9 o0_10 o0_11 o0_12 o0_13 o0_14 ra0 x0_15 ++ (wX6 cs h1 ra1 y1_0 y1_1 x1_2 y1_3 x1_4 x1_5 x1_6 ++ (wX6 cs h2 ra2 y2_0 y2_1 x2_2 y2_3 x2_4 x2_5 x2_6 ++ (wX7 cs h3 h4 o3_1 ++ (wX9 cs h4 ra4 y4_0 x4_1 x4_2 x4_3 x4_4))))) sz) := by
  refine met_of RX11 rfl (by decide) (Nat.le_of_ble_eq_true rfl) ?_
  intro p e s m args below meth c hC hr hlocks hK hsz hA hV ls hl
  exact b_X11_spec_0 hC hr hlocks hK hA h0 o0_1 o0_2a o0_2b o0_2c o0_3 o0_7 o0_8 o0_9 o0_10 o0_11 o0_12 o0_13 o0_14 ra0 h1 ra1 h2 ra2 h3 o3_1 h4 ra4 x0_15 y1_0 y1_1 x1_2 y1_3 x1_4 x1_5 x1_6 y2_3 x2_4 x2_5 x2_6 u v1 y2_0 y2_1 x2_2 y4_0 x4_1 x4_2 x4_3 x4_4 s.heap [] ls hf (lv_sub hl [0, 1] rfl) hV
def rm_X11_run : Room := { frames := 4, cells := 0, slots := 0, locals := 113 }
set_option maxHeartbeats 4000000 in
set_option maxRecDepth 100000 in
theorem b_X11_run_25 {p : Program} {l : Launch} {e : Env} {s : State} {m : MethodId} {args : Array Value} {below : List Frame} {meth : Method} {c : Code} {D : va_G} {cs : Nat → ClassId} {A : Nat → Prop} (hC : CallFix p m c cX11_run 5 s args gtbl RX11) (hr : meth.sig.returnType = (some .int)) (hlocks : meth.locks = false) (hK : KN D cs s) (hA : ∀ q : Nat, s.heap.size ≤ q → A q) (h0 : Nat) (o0_0 : Nat) (o0_3 : Nat) (o0_5 : Nat) (o0_6 : Nat) (o0_8 : Nat) (o0_9 : Nat) (o0_10 : Nat) (o0_11 : Nat) (o0_12 : Nat) (o0_13 : Nat) (o0_14 : Nat) (ra0 : Nat → Nat) (h1 : Nat) (ra1 : Nat → Nat) (h2 : Nat) (ra2 : Nat → Nat) (h3 : Nat) (ra3 : Nat → Nat) (h4 : Nat) (ra4 : Nat → Nat) (h5 : Nat) (ra5 : Nat → Nat) (h6 : Nat) (ra6 : Nat → Nat) (x0_15 x4_6 x5_6 x6_6 : Int32) (u : Int32 × (Nat → Int32) × (Nat → Int32) × Int32 × Int32 × Int32 × Int32 × Int32 × Int32 × (Nat → Int32) × Int32 × Int32 × Int32 × Int32 × Int32 × (Nat → Int32) × Int32 × Int32 × Int32) : ∀ (v1 v2 v3 s0 : Int32) (y1_1 y1_2 : Nat → Int32) (x1_3 x1_4 x1_5 x1_6 x1_7 x1_8 : Int32) (y1_9 : Nat → Int32) (x1_10 x1_11 x1_12 x1_13 x1_14 : Int32) (y2_0 y2_1 : Nat → Int32) (x2_2 : Int32) (y2_3 : Nat → Int32) (x2_4 x2_5 x2_6 : Int32) (y3_0 y3_1 y3_2 : Nat → Int32) (x3_3 : Int32) (y4_0 y4_1 y4_2 y4_3 y4_4 : Nat → Int32) (x4_5 : Int32) (y5_0 y5_1 y5_2 y5_3 y5_4 : Nat → Int32) (x5_5 : Int32) (y6_0 y6_1 y6_2 y6_3 y6_4 : Nat → Int32) (x6_5 : Int32) (H : Heap) (locs : List Loc) (ls : Array Slot), g_X11_run_25 v1 v2 v3 s0 y1_1 y1_2 x1_3 x1_4 x1_5 x1_6 x1_7 x1_8 y1_9 x1_10 x1_11 x1_12 x1_13 x1_14 y2_0 y2_1 x2_2 y2_3 x2_4 x2_5 x2_6 y3_0 y3_1 y3_2 x3_3 y4_0 y4_1 y4_2 y4_3 y4_4 x4_5 y5_0 y5_1 y5_2 y5_3 y5_4 x5_5 y6_0 y6_1 y6_2 y6_3 y6_4 x6_5 = some u → lv_has ls 5 [(0, .ref h0), (1, .int v1), (2, .int v2), (3, .int v3)] → VW D A s.heap (wY11 cs h0 o0_0 h3 h4 h5 h6 o0_3 h2 o0_5 o0_6 h1 o0_8 o0_9 o0_10 o0_11 o0_12 o0_13 o0_14 ra0 x0_15 ++ (wX0 cs h1 h3 ra1 y1_1 y1_2 x1_3 x1_4 x1_5 x1_6 x1_7 x1_8 y1_9 x1_10 x1_11 x1_12 x1_13 x1_14 ++ (wX6 cs h2 ra2 y2_0 y2_1 x2_2 y2_3 x2_4 x2_5 x2_6 ++ (wX10 cs h3 ra3 y3_0 y3_1 y3_2 x3_3 ++ (wX4 cs h4 ra4 y4_0 y4_1 y4_2 y4_3 y4_4 x4_5 x4_6 ++ (wX4 cs h5 ra5 y5_0 y5_1 y5_2 y5_3 y5_4 x5_5 x5_6 ++ (wX4 cs h6 ra6 y6_0 y6_1 y6_2 y6_3 y6_4 x6_5 x6_6))))))) H locs → W p l e rm_X11_run s m args below meth c H locs 0 0 (MQ below (QI D (wY11 cs h0 o0_0 h3 h4 h5 h6 o0_3 h2 o0_5 o0_6 h1 o0_8 o0_9 o0_10 o0_11 o0_12 o0_13 o0_14 ra0 x0_15 ++ (wX0 cs h1 h3 ra1 u.2.1 u.2.2.1 u.2.2.2.1 u.2.2.2.2.1 u.2.2.2.2.2.1 u.2.2.2.2.2.2.1 u.2.2.2.2.2.2.2.1 u.2.2.2.2.2.2.2.2.1 u.2.2.2.2.2.2.2.2.2.1 u.2.2.2.2.2.2.2.2.2.2.1 u.2.2.2.2.2.2.2.2.2.2.2.1 u.2.2.2.2.2.2.2.2.2.2.2.2.1 u.2.2.2.2.2.2.2.2.2.2.2.2.2.1 u.2.2.2.2.2.2.2.2.2.2.2.2.2.2.1 ++ (wX6 cs h2 ra2 y2_0 y2_1 x2_2 u.2.2.2.2.2.2.2.2.2.2.2.2.2.2.2.1 u.2.2.2.2.2.2.2.2.2.2.2.2.2.2.2.2.1 u.2.2.2.2.2.2.2.2.2.2.2.2.2.2.2.2.2.1 u.2.2.2.2.2.2.2.2.2.2.2.2.2.2.2.2.2.2 ++ (wX10 cs h3 ra3 y3_0 y3_1 y3_2 x3_3 ++ (wX4 cs h4 ra4 y4_0 y4_1 y4_2 y4_3 y4_4 x4_5 x4_6 ++ (wX4 cs h5 ra5 y5_0 y5_1 y5_2 y5_3 y5_4 x5_5 x5_6 ++ (wX4 cs h6 ra6 y6_0 y6_1 y6_2 y6_3 y6_4 x6_5 x6_6))))))) A u.1) args s 0 0 A) (F0 m 25 ls [.int s0]) := by
  have hx := hC.1
  have hb := hC.2.1
  have hown := hC.2.2.2.1
  have hts := hC.2.2.2.2
  intro v1 v2 v3 s0 y1_1 y1_2 x1_3 x1_4 x1_5 x1_6 x1_7 x1_8 y1_9 x1_10 x1_11 x1_12 x1_13 x1_14 y2_0 y2_1 x2_2 y2_3 x2_4 x2_5 x2_6 y3_0 y3_1 y3_2 x3_3 y4_0 y4_1 y4_2 y4_3 y4_4 x4_5 y5_0 y5_1 y5_2 y5_3 y5_4 x5_5 y6_0 y6_1 y6_2 y6_3 y6_4 x6_5 H locs ls hf hl hV
  refine lv_istore (lv' := [(4, .int s0), (0, .ref h0), (1, .int v1), (2, .int v2), (3, .int v3)]) hx hb dX11_run_25 hl (by decide) rfl (fun ls hl => ?_)
  refine lv_iload_n hx hb dX11_run_27 rfl (lv_at hl 2 rfl) ?_
  obtain ⟨u1, hc1, hf⟩ := hf_b hf
  refine aft_i (run_s hC (k_X11_isRecipe l D cs v1 u1 H.size hc1) cd_X11_isRecipe st_X11_isRecipe ml_X11_134 rfl rfl ⟨by decide, by decide⟩ (fr_pre hK hV [] rfl (by decide)) rfl hl.1 rfl (Nat.le_of_ble_eq_true rfl) dX11_run_28) hV (va_free hV.2.1 hV.2.2 hA [] rfl) (fr_jn (s := s) (wn := wY11 cs h0 o0_0 h3 h4 h5 h6 o0_3 h2 o0_5 o0_6 h1 o0_8 o0_9 o0_10 o0_11 o0_12 o0_13 o0_14 ra0 x0_15 ++ (wX0 cs h1 h3 ra1 y1_1 y1_2 x1_3 x1_4 x1_5 x1_6 x1_7 x1_8 y1_9 x1_10 x1_11 x1_12 x1_13 x1_14 ++ (wX6 cs h2 ra2 y2_0 y2_1 x2_2 y2_3 x2_4 x2_5 x2_6 ++ (wX10 cs h3 ra3 y3_0 y3_1 y3_2 x3_3 ++ (wX4 cs h4 ra4 y4_0 y4_1 y4_2 y4_3 y4_4 x4_5 x4_6 ++ (wX4 cs h5 ra5 y5_0 y5_1 y5_2 y5_3 y5_4 x5_5 x5_6 ++ (wX4 cs h6 ra6 y6_0 y6_1 y6_2 y6_3 y6_4 x6_5 x6_6))))))) hV hA [] [0, 1, 2, 3, 4, 5, 6, 7, 8, 9, 10, 11, 12, 13, 14, 15, 16, 17, 18, 19, 20, 21, 22, 23, 24, 25, 26, 27, 28, 29, 30, 31] [0, 1, 2, 3, 4, 5, 6, 7, 8, 9, 10, 11, 12, 13, 14, 15, 16, 17, 18, 19, 20, 21, 22, 23, 24, 25, 26, 27, 28, 29, 30, 31] rfl rfl (by decide) (by decide) rfl (by decide)) (fun H locs hV => ?_)
  refine lv_if_eq (tgt := 50) hx hb dX11_run_31 (by decide) (fun hc => ?_) (fun hc => ?_)
  · have hf := hf_t hf hc
    refine lv_iconst (v := (-1)) hx hb dX11_run_50 (by decide) ?_
    obtain rfl := Option.some.inj hf
    exact q_ret hC hr hlocks hV dX11_run_51
  · have hf := hf_f hf hc
    refine lv_iload_n hx hb dX11_run_34 rfl (lv_at hl 3 rfl) ?_
    refine lv_iconst (v := 1) hx hb dX11_run_35 (by decide) ?_
    refine lv_sipush (v := 20000) hx hb dX11_run_36 (by decide) ?_
    obtain ⟨u2, hc2, hf⟩ := hf_b hf
    refine aft_i (run_s hC (k_X11_within l D cs v2 1 20000 u2 H.size hc2) cd_X11_within st_X11_within ml_X11_115 rfl rfl ⟨by decide, by decide⟩ (fr_pre hK hV [] rfl (by decide)) rfl hl.1 rfl (Nat.le_of_ble_eq_true rfl) dX11_run_39) hV (va_free hV.2.1 hV.2.2 hA [] rfl) (fr_jn (s := s) (wn := wY11 cs h0 o0_0 h3 h4 h5 h6 o0_3 h2 o0_5 o0_6 h1 o0_8 o0_9 o0_10 o0_11 o0_12 o0_13 o0_14 ra0 x0_15 ++ (wX0 cs h1 h3 ra1 y1_1 y1_2 x1_3 x1_4 x1_5 x1_6 x1_7 x1_8 y1_9 x1_10 x1_11 x1_12 x1_13 x1_14 ++ (wX6 cs h2 ra2 y2_0 y2_1 x2_2 y2_3 x2_4 x2_5 x2_6 ++ (wX10 cs h3 ra3 y3_0 y3_1 y3_2 x3_3 ++ (wX4 cs h4 ra4 y4_0 y4_1 y4_2 y4_3 y4_4 x4_5 x4_6 ++ (wX4 cs h5 ra5 y5_0 y5_1 y5_2 y5_3 y5_4 x5_5 x5_6 ++ (wX4 cs h6 ra6 y6_0 y6_1 y6_2 y6_3 y6_4 x6_5 x6_6))))))) hV hA [] [0, 1, 2, 3, 4, 5, 6, 7, 8, 9, 10, 11, 12, 13, 14, 15, 16, 17, 18, 19, 20, 21, 22, 23, 24, 25, 26, 27, 28, 29, 30, 31] [0, 1, 2, 3, 4, 5, 6, 7, 8, 9, 10, 11, 12, 13, 14, 15, 16, 17, 18, 19, 20, 21, 22, 23, 24, 25, 26, 27, 28, 29, 30, 31] rfl rfl (by decide) (by decide) rfl (by decide)) (fun H locs hV => ?_)
    refine lv_if_eq (tgt := 50) hx hb dX11_run_42 (by decide) (fun hc => ?_) (fun hc => ?_)
    · have hf := hf_t hf hc
      refine lv_iconst (v := (-1)) hx hb dX11_run_50 (by decide) ?_
      obtain rfl := Option.some.inj hf
      exact q_ret hC hr hlocks hV dX11_run_51
    · have hf := hf_f hf hc
      refine lv_iload hx hb dX11_run_45 (lv_at hl 0 rfl) ?_
      refine lv_if_ne (tgt := 52) hx hb dX11_run_47 (by decide) (fun hc => ?_) (fun hc => ?_)
      · have hf := hf_f hf hc
        refine lv_aload_n hx hb dX11_run_52 rfl (lv_at hl 1 rfl) ?_
        refine q_get (v := .ref h1) hC hK hV fl_X11_58 0 rfl rfl dX11_run_53 ?_
        refine lv_aload_n hx hb dX11_run_56 rfl (lv_at hl 1 rfl) ?_
        refine q_get (v := .ref h3) hC hK hV fl_X11_19 0 rfl rfl dX11_run_57 ?_
        refine q_get (v := .ref (ra3 2)) hC hK hV fl_X11_157 10 rfl rfl dX11_run_60 ?_
        refine lv_iconst (v := 0) hx hb dX11_run_63 (by decide) ?_
        obtain ⟨u3, hc3, hf⟩ := hf_b hf
        refine aft_v (run_v hC (k_X0_start l D cs h1 h3 ra1 (ra3 2) y1_1 y1_2 x1_3 x1_4 x1_5 x1_6 x1_7 x1_8 y1_9 x1_10 x1_11 x1_12 x1_13 x1_14 y3_2 0 u3 H.size hc3) cd_X0_start cv_X0_start ml_X11_161 rfl rfl ⟨by decide, by decide⟩ hK hV (fr_pre hK hV [2, 3, 4, 5, 13] rfl (by decide)) (ci := 0) (q0 := 2) rfl rfl rfl rfl hl.1 rfl (Nat.le_of_ble_eq_true rfl) dX11_run_64) hV (va_free hV.2.1 hV.2.2 hA [2, 3, 4, 5, 13] rfl) (fr_jn (s := s) (wn := wY11 cs h0 o0_0 h3 h4 h5 h6 o0_3 h2 o0_5 o0_6 h1 o0_8 o0_9 o0_10 o0_11 o0_12 o0_13 o0_14 ra0 x0_15 ++ (wX0 cs h1 h3 ra1 u3.1 u3.2.1 u3.2.2.1 u3.2.2.2.1 u3.2.2.2.2.1 u3.2.2.2.2.2.1 u3.2.2.2.2.2.2.1 u3.2.2.2.2.2.2.2 y1_9 x1_10 x1_11 x1_12 x1_13 x1_14 ++ (wX6 cs h2 ra2 y2_0 y2_1 x2_2 y2_3 x2_4 x2_5 x2_6 ++ (wX10 cs h3 ra3 y3_0 y3_1 y3_2 x3_3 ++ (wX4 cs h4 ra4 y4_0 y4_1 y4_2 y4_3 y4_4 x4_5 x4_6 ++ (wX4 cs h5 ra5 y5_0 y5_1 y5_2 y5_3 y5_4 x5_5 x5_6 ++ (wX4 cs h6 ra6 y6_0 y6_1 y6_2 y6_3 y6_4 x6_5 x6_6))))))) hV hA [2, 3, 4, 5, 13] [0, 1, 6, 7, 8, 9, 10, 11, 12, 14, 15, 16, 17, 18, 19, 20, 21, 22, 23, 24, 25, 26, 27, 28, 29, 30, 31] [0, 1, 27, 28, 29, 30, 2, 3, 4, 5, 6, 7, 8, 31, 9, 10, 11, 12, 13, 14, 15, 16, 17, 18, 19, 20, 21, 22, 23, 24, 25, 26] rfl rfl (by decide) (by decide) rfl (by decide)) (fun H locs hV => ?_)
        refine lv_aload_n hx hb dX11_run_67 rfl (lv_at hl 1 rfl) ?_
        refine q_get (v := .ref h1) hC hK hV fl_X11_58 0 rfl rfl dX11_run_68 ?_
        refine lv_aload_n hx hb dX11_run_71 rfl (lv_at hl 1 rfl) ?_
        refine q_get (v := .ref (ra0 2)) hC hK hV fl_X11_25 0 rfl rfl dX11_run_72 ?_
        refine lv_iload_n hx hb dX11_run_75 rfl (lv_at hl 2 rfl) ?_
        by_cases ht4 : v1 = 0
        · have hf := hf_t hf ht4
          refine q_aald (j := 0) hC hK hV 1 rfl ht4 (by decide) rfl dX11_run_76 ?_
          refine lv_iload_n hx hb dX11_run_77 rfl (lv_at hl 3 rfl) ?_
          obtain ⟨u5, hc5, hf⟩ := hf_b hf
          refine aft_v (run_v hC (k_X0_go l D cs h1 ra1 h4 ra4 h3 ra3 u3.1 u3.2.1 u3.2.2.1 u3.2.2.2.1 u3.2.2.2.2.1 u3.2.2.2.2.2.1 u3.2.2.2.2.2.2.1 u3.2.2.2.2.2.2.2 y1_9 x1_10 x1_11 x1_12 x1_13 x1_14 y4_0 y4_1 y4_2 y4_3 y4_4 x4_5 x4_6 y3_0 y3_1 y3_2 x3_3 v2 u5 H.size hc5) cd_X0_go cv_X0_go ml_X11_165 rfl rfl ⟨by decide, by decide⟩ hK hV (fr_pre hK hV [2, 3, 4, 5, 14, 15, 16, 17, 18, 19, 10, 11, 12, 13] rfl (by decide)) (ci := 0) (q0 := 2) rfl rfl rfl rfl hl.1 rfl (Nat.le_of_ble_eq_true rfl) dX11_run_78) hV (va_free hV.2.1 hV.2.2 hA [2, 3, 4, 5, 14, 15, 16, 17, 18, 19, 10, 11, 12, 13] rfl) (fr_jn (s := s) (wn := wY11 cs h0 o0_0 h3 h4 h5 h6 o0_3 h2 o0_5 o0_6 h1 o0_8 o0_9 o0_10 o0_11 o0_12 o0_13 o0_14 ra0 x0_15 ++ (wX0 cs h1 h3 ra1 u3.1 u5.1 u5.2.1 u5.2.2.1 u5.2.2.2.1 u5.2.2.2.2.1 u5.2.2.2.2.2.1 u5.2.2.2.2.2.2.1 u5.2.2.2.2.2.2.2.1 u5.2.2.2.2.2.2.2.2.1 u5.2.2.2.2.2.2.2.2.2.1 u5.2.2.2.2.2.2.2.2.2.2.1 u5.2.2.2.2.2.2.2.2.2.2.2.1 u5.2.2.2.2.2.2.2.2.2.2.2.2 ++ (wX6 cs h2 ra2 y2_0 y2_1 x2_2 y2_3 x2_4 x2_5 x2_6 ++ (wX10 cs h3 ra3 y3_0 y3_1 y3_2 x3_3 ++ (wX4 cs h4 ra4 y4_0 y4_1 y4_2 y4_3 y4_4 x4_5 x4_6 ++ (wX4 cs h5 ra5 y5_0 y5_1 y5_2 y5_3 y5_4 x5_5 x5_6 ++ (wX4 cs h6 ra6 y6_0 y6_1 y6_2 y6_3 y6_4 x6_5 x6_6))))))) hV hA [2, 3, 4, 5, 14, 15, 16, 17, 18, 19, 10, 11, 12, 13] [0, 1, 6, 7, 8, 9, 20, 21, 22, 23, 24, 25, 26, 27, 28, 29, 30, 31] [0, 1, 18, 19, 20, 21, 2, 3, 4, 5, 28, 29, 30, 31, 22, 23, 24, 25, 26, 27, 6, 7, 8, 9, 10, 11, 12, 13, 14, 15, 16, 17] rfl rfl (by decide) (by decide) rfl (by decide)) (fun H locs hV => ?_)
          refine lv_iload_n hx hb dX11_run_81 rfl (lv_at hl 4 rfl) ?_
          by_cases ht6 : v3 = 0
          · have hf := hf_t hf ht6
            refine lv_tableIn (off := 38) (tgt := 120) hx hb dX11_run_82 (by rw [ht6]; decide) (by rw [ht6]; decide) (by rw [ht6]; rfl) (by decide) ?_
            refine lv_aload_n hx hb dX11_run_120 rfl (lv_at hl 1 rfl) ?_
            refine q_get (v := .ref h1) hC hK hV fl_X11_58 0 rfl rfl dX11_run_121 ?_
            refine q_get (v := .int u5.2.2.2.2.2.2.1) hC hK hV fl_X11_169 2 rfl rfl dX11_run_124 ?_
            obtain rfl := Option.some.inj hf
            exact q_ret hC hr hlocks hV dX11_run_127
          have hf := hf_f hf ht6
          by_cases ht7 : v3 = 1
          · have hf := hf_t hf ht7
            refine lv_tableIn (off := 46) (tgt := 128) hx hb dX11_run_82 (by rw [ht7]; decide) (by rw [ht7]; decide) (by rw [ht7]; rfl) (by decide) ?_
            refine lv_aload_n hx hb dX11_run_128 rfl (lv_at hl 1 rfl) ?_
            refine q_get (v := .ref h1) hC hK hV fl_X11_58 0 rfl rfl dX11_run_129 ?_
            refine q_get (v := .int u5.2.2.2.2.1) hC hK hV fl_X11_172 2 rfl rfl dX11_run_132 ?_
            obtain rfl := Option.some.inj hf
            exact q_ret hC hr hlocks hV dX11_run_135
          have hf := hf_f hf ht7
          by_cases ht8 : v3 = 2
          · have hf := hf_t hf ht8
            refine lv_tableIn (off := 54) (tgt := 136) hx hb dX11_run_82 (by rw [ht8]; decide) (by rw [ht8]; decide) (by rw [ht8]; rfl) (by decide) ?_
            refine lv_aload_n hx hb dX11_run_136 rfl (lv_at hl 1 rfl) ?_
            refine q_get (v := .ref h1) hC hK hV fl_X11_58 0 rfl rfl dX11_run_137 ?_
            refine q_get (v := .int u5.2.1) hC hK hV fl_X11_175 2 rfl rfl dX11_run_140 ?_
            obtain rfl := Option.some.inj hf
            exact q_ret hC hr hlocks hV dX11_run_143
          have hf := hf_f hf ht8
          by_cases ht9 : v3 = 3
          · have hf := hf_t hf ht9
            refine lv_tableIn (off := 62) (tgt := 144) hx hb dX11_run_82 (by rw [ht9]; decide) (by rw [ht9]; decide) (by rw [ht9]; rfl) (by decide) ?_
            refine lv_aload_n hx hb dX11_run_144 rfl (lv_at hl 1 rfl) ?_
            refine q_get (v := .ref h1) hC hK hV fl_X11_58 0 rfl rfl dX11_run_145 ?_
            refine q_get (v := .int u5.2.2.1) hC hK hV fl_X11_178 2 rfl rfl dX11_run_148 ?_
            obtain rfl := Option.some.inj hf
            exact q_ret hC hr hlocks hV dX11_run_151
          have hf := hf_f hf ht9
          by_cases ht10 : v3 = 4
          · have hf := hf_t hf ht10
            refine lv_tableIn (off := 70) (tgt := 152) hx hb dX11_run_82 (by rw [ht10]; decide) (by rw [ht10]; decide) (by rw [ht10]; rfl) (by decide) ?_
            refine lv_aload_n hx hb dX11_run_152 rfl (lv_at hl 1 rfl) ?_
            refine q_get (v := .ref h1) hC hK hV fl_X11_58 0 rfl rfl dX11_run_153 ?_
            refine q_get (v := .int u5.2.2.2.1) hC hK hV fl_X11_181 2 rfl rfl dX11_run_156 ?_
            obtain rfl := Option.some.inj hf
            exact q_ret hC hr hlocks hV dX11_run_159
          have hf := hf_f hf ht10
          by_cases ht12 : v3 = 5
          · have hf := hf_t hf ht12
            refine lv_tableIn (off := 78) (tgt := 160) hx hb dX11_run_82 (by rw [ht12]; decide) (by rw [ht12]; decide) (by rw [ht12]; rfl) (by decide) ?_
            refine lv_aload_n hx hb dX11_run_160 rfl (lv_at hl 1 rfl) ?_
            refine q_get (v := .ref h2) hC hK hV fl_X11_37 0 rfl rfl dX11_run_161 ?_
            refine lv_aload_n hx hb dX11_run_164 rfl (lv_at hl 1 rfl) ?_
            refine q_get (v := .ref h1) hC hK hV fl_X11_58 0 rfl rfl dX11_run_165 ?_
            obtain ⟨u11, hc11, hf⟩ := hf_b hf
            refine aft_i (run_v hC (k_X6_holds l D cs h2 ra2 h1 h3 ra1 y2_0 y2_1 x2_2 y2_3 x2_4 x2_5 x2_6 u3.1 u5.1 u5.2.1 u5.2.2.1 u5.2.2.2.1 u5.2.2.2.2.1 u5.2.2.2.2.2.1 u5.2.2.2.2.2.2.1 u5.2.2.2.2.2.2.2.1 u5.2.2.2.2.2.2.2.2.1 u5.2.2.2.2.2.2.2.2.2.1 u5.2.2.2.2.2.2.2.2.2.2.1 u5.2.2.2.2.2.2.2.2.2.2.2.1 u5.2.2.2.2.2.2.2.2.2.2.2.2 u11 H.size hc11) cd_X6_holds cv_X6_holds ml_X11_184 rfl rfl ⟨by decide, by decide⟩ hK hV (fr_pre hK hV [6, 7, 8, 9, 2, 3, 4, 5] rfl (by decide)) (ci := 6) (q0 := 6) rfl rfl rfl rfl hl.1 rfl (Nat.le_of_ble_eq_true rfl) dX11_run_168) hV (va_free hV.2.1 hV.2.2 hA [6, 7, 8, 9, 2, 3, 4, 5] rfl) (fr_jn (s := s) (wn := wY11 cs h0 o0_0 h3 h4 h5 h6 o0_3 h2 o0_5 o0_6 h1 o0_8 o0_9 o0_10 o0_11 o0_12 o0_13 o0_14 ra0 x0_15 ++ (wX0 cs h1 h3 ra1 u3.1 u5.1 u5.2.1 u5.2.2.1 u5.2.2.2.1 u5.2.2.2.2.1 u5.2.2.2.2.2.1 u5.2.2.2.2.2.2.1 u5.2.2.2.2.2.2.2.1 u5.2.2.2.2.2.2.2.2.1 u5.2.2.2.2.2.2.2.2.2.1 u5.2.2.2.2.2.2.2.2.2.2.1 u5.2.2.2.2.2.2.2.2.2.2.2.1 u5.2.2.2.2.2.2.2.2.2.2.2.2 ++ (wX6 cs h2 ra2 y2_0 y2_1 x2_2 u11.2.1 u11.2.2.1 u11.2.2.2.1 u11.2.2.2.2 ++ (wX10 cs h3 ra3 y3_0 y3_1 y3_2 x3_3 ++ (wX4 cs h4 ra4 y4_0 y4_1 y4_2 y4_3 y4_4 x4_5 x4_6 ++ (wX4 cs h5 ra5 y5_0 y5_1 y5_2 y5_3 y5_4 x5_5 x5_6 ++ (wX4 cs h6 ra6 y6_0 y6_1 y6_2 y6_3 y6_4 x6_5 x6_6))))))) hV hA [6, 7, 8, 9, 2, 3, 4, 5] [0, 1, 10, 11, 12, 13, 14, 15, 16, 17, 18, 19, 20, 21, 22, 23, 24, 25, 26, 27, 28, 29, 30, 31] [0, 1, 28, 29, 30, 31, 24, 25, 26, 27, 2, 3, 4, 5, 6, 7, 8, 9, 10, 11, 12, 13, 14, 15, 16, 17, 18, 19, 20, 21, 22, 23] rfl rfl (by decide) (by decide) rfl (by decide)) (fun H locs hV => ?_)
            refine lv_if_eq (tgt := 178) hx hb dX11_run_171 (by decide) (fun hc => ?_) (fun hc => ?_)
            · have hf := hf_t hf hc
              refine lv_iconst (v := 0) hx hb dX11_run_178 (by decide) ?_
              obtain rfl := Option.some.inj hf
              exact q_ret hC hr hlocks hV dX11_run_179
            · have hf := hf_f hf hc
              refine lv_iconst (v := 1) hx hb dX11_run_174 (by decide) ?_
              refine lv_goto (tgt := 179) hx hb dX11_run_175 (by decide) ?_
              obtain rfl := Option.some.inj hf
              exact q_ret hC hr hlocks hV dX11_run_179
          have hf := hf_f hf ht12
          refine q_tswD (tgt := 180) hx hb dX11_run_82 rfl [0, 1, 2, 3, 4, 5] (by decide) (tn_cons (tni ht6 (by decide)) (tn_cons (tni ht7 (by decide)) (tn_cons (tni ht8 (by decide)) (tn_cons (tni ht9 (by decide)) (tn_cons (tni ht10 (by decide)) (tn_cons (tni ht12 (by decide)) (tn_nil))))))) (by decide) ?_
          refine lv_aload_n hx hb dX11_run_180 rfl (lv_at hl 1 rfl) ?_
          refine q_get (v := .ref h1) hC hK hV fl_X11_58 0 rfl rfl dX11_run_181 ?_
          refine q_get (v := .ref (ra1 2)) hC hK hV fl_X11_188 2 rfl rfl dX11_run_184 ?_
          refine lv_iload_n hx hb dX11_run_187 rfl (lv_at hl 4 rfl) ?_
          refine lv_bipush (v := 10) hx hb dX11_run_188 (by decide) ?_
          refine lv_isub hx hb dX11_run_190 ?_
          obtain ⟨hi13, hf⟩ := hf_if hf
          refine q_iald hC hK hV 4 rfl hi13 dX11_run_191 ?_
          obtain rfl := Option.some.inj hf
          exact q_ret hC hr hlocks hV dX11_run_192
        have hf := hf_f hf ht4
        by_cases ht14 : v1 = 1
        · have hf := hf_t hf ht14
          refine q_aald (j := 1) hC hK hV 1 rfl ht14 (by decide) rfl dX11_run_76 ?_
          refine lv_iload_n hx hb dX11_run_77 rfl (lv_at hl 3 rfl) ?_
          obtain ⟨u15, hc15, hf⟩ := hf_b hf
          refine aft_v (run_v hC (k_X0_go l D cs h1 ra1 h5 ra5 h3 ra3 u3.1 u3.2.1 u3.2.2.1 u3.2.2.2.1 u3.2.2.2.2.1 u3.2.2.2.2.2.1 u3.2.2.2.2.2.2.1 u3.2.2.2.2.2.2.2 y1_9 x1_10 x1_11 x1_12 x1_13 x1_14 y5_0 y5_1 y5_2 y5_3 y5_4 x5_5 x5_6 y3_0 y3_1 y3_2 x3_3 v2 u15 H.size hc15) cd_X0_go cv_X0_go ml_X11_165 rfl rfl ⟨by decide, by decide⟩ hK hV (fr_pre hK hV [2, 3, 4, 5, 20, 21, 22, 23, 24, 25, 10, 11, 12, 13] rfl (by decide)) (ci := 0) (q0 := 2) rfl rfl rfl rfl hl.1 rfl (Nat.le_of_ble_eq_true rfl) dX11_run_78) hV (va_free hV.2.1 hV.2.2 hA [2, 3, 4, 5, 20, 21, 22, 23, 24, 25, 10, 11, 12, 13] rfl) (fr_jn (s := s) (wn := wY11 cs h0 o0_0 h3 h4 h5 h6 o0_3 h2 o0_5 o0_6 h1 o0_8 o0_9 o0_10 o0_11 o0_12 o0_13 o0_14 ra0 x0_15 ++ (wX0 cs h1 h3 ra1 u3.1 u15.1 u15.2.1 u15.2.2.1 u15.2.2.2.1 u15.2.2.2.2.1 u15.2.2.2.2.2.1 u15.2.2.2.2.2.2.1 u15.2.2.2.2.2.2.2.1 u15.2.2.2.2.2.2.2.2.1 u15.2.2.2.2.2.2.2.2.2.1 u15.2.2.2.2.2.2.2.2.2.2.1 u15.2.2.2.2.2.2.2.2.2.2.2.1 u15.2.2.2.2.2.2.2.2.2.2.2.2 ++ (wX6 cs h2 ra2 y2_0 y2_1 x2_2 y2_3 x2_4 x2_5 x2_6 ++ (wX10 cs h3 ra3 y3_0 y3_1 y3_2 x3_3 ++ (wX4 cs h4 ra4 y4_0 y4_1 y4_2 y4_3 y4_4 x4_5 x4_6 ++ (wX4 cs h5 ra5 y5_0 y5_1 y5_2 y5_3 y5_4 x5_5 x5_6 ++ (wX4 cs h6 ra6 y6_0 y6_1 y6_2 y6_3 y6_4 x6_5 x6_6))))))) hV hA [2, 3, 4, 5, 20, 21, 22, 23, 24, 25, 10, 11, 12, 13] [0, 1, 6, 7, 8, 9, 14, 15, 16, 17, 18, 19, 26, 27, 28, 29, 30, 31] [0, 1, 18, 19, 20, 21, 2, 3, 4, 5, 28, 29, 30, 31, 6, 7, 8, 9, 10, 11, 22, 23, 24, 25, 26, 27, 12, 13, 14, 15, 16, 17] rfl rfl (by decide) (by decide) rfl (by decide)) (fun H locs hV => ?_)
          refine lv_iload_n hx hb dX11_run_81 rfl (lv_at hl 4 rfl) ?_
          by_cases ht16 : v3 = 0
          · have hf := hf_t hf ht16
            refine lv_tableIn (off := 38) (tgt := 120) hx hb dX11_run_82 (by rw [ht16]; decide) (by rw [ht16]; decide) (by rw [ht16]; rfl) (by decide) ?_
            refine lv_aload_n hx hb dX11_run_120 rfl (lv_at hl 1 rfl) ?_
            refine q_get (v := .ref h1) hC hK hV fl_X11_58 0 rfl rfl dX11_run_121 ?_
            refine q_get (v := .int u15.2.2.2.2.2.2.1) hC hK hV fl_X11_169 2 rfl rfl dX11_run_124 ?_
            obtain rfl := Option.some.inj hf
            exact q_ret hC hr hlocks hV dX11_run_127
          have hf := hf_f hf ht16
          by_cases ht17 : v3 = 1
          · have hf := hf_t hf ht17
            refine lv_tableIn (off := 46) (tgt := 128) hx hb dX11_run_82 (by rw [ht17]; decide) (by rw [ht17]; decide) (by rw [ht17]; rfl) (by decide) ?_
            refine lv_aload_n hx hb dX11_run_128 rfl (lv_at hl 1 rfl) ?_
            refine q_get (v := .ref h1) hC hK hV fl_X11_58 0 rfl rfl dX11_run_129 ?_
            refine q_get (v := .int u15.2.2.2.2.1) hC hK hV fl_X11_172 2 rfl rfl dX11_run_132 ?_
            obtain rfl := Option.some.inj hf
            exact q_ret hC hr hlocks hV dX11_run_135
          have hf := hf_f hf ht17
          by_cases ht18 : v3 = 2
          · have hf := hf_t hf ht18
            refine lv_tableIn (off := 54) (tgt := 136) hx hb dX11_run_82 (by rw [ht18]; decide) (by rw [ht18]; decide) (by rw [ht18]; rfl) (by decide) ?_
            refine lv_aload_n hx hb dX11_run_136 rfl (lv_at hl 1 rfl) ?_
            refine q_get (v := .ref h1) hC hK hV fl_X11_58 0 rfl rfl dX11_run_137 ?_
            refine q_get (v := .int u15.2.1) hC hK hV fl_X11_175 2 rfl rfl dX11_run_140 ?_
            obtain rfl := Option.some.inj hf
            exact q_ret hC hr hlocks hV dX11_run_143
          have hf := hf_f hf ht18
          by_cases ht19 : v3 = 3
          · have hf := hf_t hf ht19
            refine lv_tableIn (off := 62) (tgt := 144) hx hb dX11_run_82 (by rw [ht19]; decide) (by rw [ht19]; decide) (by rw [ht19]; rfl) (by decide) ?_
            refine lv_aload_n hx hb dX11_run_144 rfl (lv_at hl 1 rfl) ?_
            refine q_get (v := .ref h1) hC hK hV fl_X11_58 0 rfl rfl dX11_run_145 ?_
            refine q_get (v := .int u15.2.2.1) hC hK hV fl_X11_178 2 rfl rfl dX11_run_148 ?_
            obtain rfl := Option.some.inj hf
            exact q_ret hC hr hlocks hV dX11_run_151
          have hf := hf_f hf ht19
          by_cases ht20 : v3 = 4
          · have hf := hf_t hf ht20
            refine lv_tableIn (off := 70) (tgt := 152) hx hb dX11_run_82 (by rw [ht20]; decide) (by rw [ht20]; decide) (by rw [ht20]; rfl) (by decide) ?_
            refine lv_aload_n hx hb dX11_run_152 rfl (lv_at hl 1 rfl) ?_
            refine q_get (v := .ref h1) hC hK hV fl_X11_58 0 rfl rfl dX11_run_153 ?_
            refine q_get (v := .int u15.2.2.2.1) hC hK hV fl_X11_181 2 rfl rfl dX11_run_156 ?_
            obtain rfl := Option.some.inj hf
            exact q_ret hC hr hlocks hV dX11_run_159
          have hf := hf_f hf ht20
          by_cases ht22 : v3 = 5
          · have hf := hf_t hf ht22
            refine lv_tableIn (off := 78) (tgt := 160) hx hb dX11_run_82 (by rw [ht22]; decide) (by rw [ht22]; decide) (by rw [ht22]; rfl) (by decide) ?_
            refine lv_aload_n hx hb dX11_run_160 rfl (lv_at hl 1 rfl) ?_
            refine q_get (v := .ref h2) hC hK hV fl_X11_37 0 rfl rfl dX11_run_161 ?_
            refine lv_aload_n hx hb dX11_run_164 rfl (lv_at hl 1 rfl) ?_
            refine q_get (v := .ref h1) hC hK hV fl_X11_58 0 rfl rfl dX11_run_165 ?_
            obtain ⟨u21, hc21, hf⟩ := hf_b hf
            refine aft_i (run_v hC (k_X6_holds l D cs h2 ra2 h1 h3 ra1 y2_0 y2_1 x2_2 y2_3 x2_4 x2_5 x2_6 u3.1 u15.1 u15.2.1 u15.2.2.1 u15.2.2.2.1 u15.2.2.2.2.1 u15.2.2.2.2.2.1 u15.2.2.2.2.2.2.1 u15.2.2.2.2.2.2.2.1 u15.2.2.2.2.2.2.2.2.1 u15.2.2.2.2.2.2.2.2.2.1 u15.2.2.2.2.2.2.2.2.2.2.1 u15.2.2.2.2.2.2.2.2.2.2.2.1 u15.2.2.2.2.2.2.2.2.2.2.2.2 u21 H.size hc21) cd_X6_holds cv_X6_holds ml_X11_184 rfl rfl ⟨by decide, by decide⟩ hK hV (fr_pre hK hV [6, 7, 8, 9, 2, 3, 4, 5] rfl (by decide)) (ci := 6) (q0 := 6) rfl rfl rfl rfl hl.1 rfl (Nat.le_of_ble_eq_true rfl) dX11_run_168) hV (va_free hV.2.1 hV.2.2 hA [6, 7, 8, 9, 2, 3, 4, 5] rfl) (fr_jn (s := s) (wn := wY11 cs h0 o0_0 h3 h4 h5 h6 o0_3 h2 o0_5 o0_6 h1 o0_8 o0_9 o0_10 o0_11 o0_12 o0_13 o0_14 ra0 x0_15 ++ (wX0 cs h1 h3 ra1 u3.1 u15.1 u15.2.1 u15.2.2.1 u15.2.2.2.1 u15.2.2.2.2.1 u15.2.2.2.2.2.1 u15.2.2.2.2.2.2.1 u15.2.2.2.2.2.2.2.1 u15.2.2.2.2.2.2.2.2.1 u15.2.2.2.2.2.2.2.2.2.1 u15.2.2.2.2.2.2.2.2.2.2.1 u15.2.2.2.2.2.2.2.2.2.2.2.1 u15.2.2.2.2.2.2.2.2.2.2.2.2 ++ (wX6 cs h2 ra2 y2_0 y2_1 x2_2 u21.2.1 u21.2.2.1 u21.2.2.2.1 u21.2.2.2.2 ++ (wX10 cs h3 ra3 y3_0 y3_1 y3_2 x3_3 ++ (wX4 cs h4 ra4 y4_0 y4_1 y4_2 y4_3 y4_4 x4_5 x4_6 ++ (wX4 cs h5 ra5 y5_0 y5_1 y5_2 y5_3 y5_4 x5_5 x5_6 ++ (wX4 cs h6 ra6 y6_0 y6_1 y6_2 y6_3 y6_4 x6_5 x6_6))))))) hV hA [6, 7, 8, 9, 2, 3, 4, 5] [0, 1, 10, 11, 12, 13, 14, 15, 16, 17, 18, 19, 20, 21, 22, 23, 24, 25, 26, 27, 28, 29, 30, 31] [0, 1, 28, 29, 30, 31, 24, 25, 26, 27, 2, 3, 4, 5, 6, 7, 8, 9, 10, 11, 12, 13, 14, 15, 16, 17, 18, 19, 20, 21, 22, 23] rfl rfl (by decide) (by decide) rfl (by decide)) (fun H locs hV => ?_)
            refine lv_if_eq (tgt := 178) hx hb dX11_run_171 (by decide) (fun hc => ?_) (fun hc => ?_)
            · have hf := hf_t hf hc
              refine lv_iconst (v := 0) hx hb dX11_run_178 (by decide) ?_
              obtain rfl := Option.some.inj hf
              exact q_ret hC hr hlocks hV dX11_run_179
            · have hf := hf_f hf hc
              refine lv_iconst (v := 1) hx hb dX11_run_174 (by decide) ?_
              refine lv_goto (tgt := 179) hx hb dX11_run_175 (by decide) ?_
              obtain rfl := Option.some.inj hf
              exact q_ret hC hr hlocks hV dX11_run_179
          have hf := hf_f hf ht22
          refine q_tswD (tgt := 180) hx hb dX11_run_82 rfl [0, 1, 2, 3, 4, 5] (by decide) (tn_cons (tni ht16 (by decide)) (tn_cons (tni ht17 (by decide)) (tn_cons (tni ht18 (by decide)) (tn_cons (tni ht19 (by decide)) (tn_cons (tni ht20 (by decide)) (tn_cons (tni ht22 (by decide)) (tn_nil))))))) (by decide) ?_
          refine lv_aload_n hx hb dX11_run_180 rfl (lv_at hl 1 rfl) ?_
          refine q_get (v := .ref h1) hC hK hV fl_X11_58 0 rfl rfl dX11_run_181 ?_
          refine q_get (v := .ref (ra1 2)) hC hK hV fl_X11_188 2 rfl rfl dX11_run_184 ?_
          refine lv_iload_n hx hb dX11_run_187 rfl (lv_at hl 4 rfl) ?_
          refine lv_bipush (v := 10) hx hb dX11_run_188 (by decide) ?_
          refine lv_isub hx hb dX11_run_190 ?_
          obtain ⟨hi23, hf⟩ := hf_if hf
          refine q_iald hC hK hV 4 rfl hi23 dX11_run_191 ?_
          obtain rfl := Option.some.inj hf
          exact q_ret hC hr hlocks hV dX11_run_192
        have hf := hf_f hf ht14
        by_cases ht24 : v1 = 2
        · have hf := hf_t hf ht24
          refine q_aald (j := 2) hC hK hV 1 rfl ht24 (by decide) rfl dX11_run_76 ?_
          refine lv_iload_n hx hb dX11_run_77 rfl (lv_at hl 3 rfl) ?_
          obtain ⟨u25, hc25, hf⟩ := hf_b hf
          refine aft_v (run_v hC (k_X0_go l D cs h1 ra1 h6 ra6 h3 ra3 u3.1 u3.2.1 u3.2.2.1 u3.2.2.2.1 u3.2.2.2.2.1 u3.2.2.2.2.2.1 u3.2.2.2.2.2.2.1 u3.2.2.2.2.2.2.2 y1_9 x1_10 x1_11 x1_12 x1_13 x1_14 y6_0 y6_1 y6_2 y6_3 y6_4 x6_5 x6_6 y3_0 y3_1 y3_2 x3_3 v2 u25 H.size hc25) cd_X0_go cv_X0_go ml_X11_165 rfl rfl ⟨by decide, by decide⟩ hK hV (fr_pre hK hV [2, 3, 4, 5, 26, 27, 28, 29, 30, 31, 10, 11, 12, 13] rfl (by decide)) (ci := 0) (q0 := 2) rfl rfl rfl rfl hl.1 rfl (Nat.le_of_ble_eq_true rfl) dX11_run_78) hV (va_free hV.2.1 hV.2.2 hA [2, 3, 4, 5, 26, 27, 28, 29, 30, 31, 10, 11, 12, 13] rfl) (fr_jn (s := s) (wn := wY11 cs h0 o0_0 h3 h4 h5 h6 o0_3 h2 o0_5 o0_6 h1 o0_8 o0_9 o0_10 o0_11 o0_12 o0_13 o0_14 ra0 x0_15 ++ (wX0 cs h1 h3 ra1 u3.1 u25.1 u25.2.1 u25.2.2.1 u25.2.2.2.1 u25.2.2.2.2.1 u25.2.2.2.2.2.1 u25.2.2.2.2.2.2.1 u25.2.2.2.2.2.2.2.1 u25.2.2.2.2.2.2.2.2.1 u25.2.2.2.2.2.2.2.2.2.1 u25.2.2.2.2.2.2.2.2.2.2.1 u25.2.2.2.2.2.2.2.2.2.2.2.1 u25.2.2.2.2.2.2.2.2.2.2.2.2 ++ (wX6 cs h2 ra2 y2_0 y2_1 x2_2 y2_3 x2_4 x2_5 x2_6 ++ (wX10 cs h3 ra3 y3_0 y3_1 y3_2 x3_3 ++ (wX4 cs h4 ra4 y4_0 y4_1 y4_2 y4_3 y4_4 x4_5 x4_6 ++ (wX4 cs h5 ra5 y5_0 y5_1 y5_2 y5_3 y5_4 x5_5 x5_6 ++ (wX4 cs h6 ra6 y6_0 y6_1 y6_2 y6_3 y6_4 x6_5 x6_6))))))) hV hA [2, 3, 4, 5, 26, 27, 28, 29, 30, 31, 10, 11, 12, 13] [0, 1, 6, 7, 8, 9, 14, 15, 16, 17, 18, 19, 20, 21, 22, 23, 24, 25] [0, 1, 18, 19, 20, 21, 2, 3, 4, 5, 28, 29, 30, 31, 6, 7, 8, 9, 10, 11, 12, 13, 14, 15, 16, 17, 22, 23, 24, 25, 26, 27] rfl rfl (by decide) (by decide) rfl (by decide)) (fun H locs hV => ?_)
          refine lv_iload_n hx hb dX11_run_81 rfl (lv_at hl 4 rfl) ?_
          by_cases ht26 : v3 = 0
          · have hf := hf_t hf ht26
            refine lv_tableIn (off := 38) (tgt := 120) hx hb dX11_run_82 (by rw [ht26]; decide) (by rw [ht26]; decide) (by rw [ht26]; rfl) (by decide) ?_
            refine lv_aload_n hx hb dX11_run_120 rfl (lv_at hl 1 rfl) ?_
            refine q_get (v := .ref h1) hC hK hV fl_X11_58 0 rfl rfl dX11_run_121 ?_
            refine q_get (v := .int u25.2.2.2.2.2.2.1) hC hK hV fl_X11_169 2 rfl rfl dX11_run_124 ?_
            obtain rfl := Option.some.inj hf
            exact q_ret hC hr hlocks hV dX11_run_127
          have hf := hf_f hf ht26
          by_cases ht27 : v3 = 1
          · have hf := hf_t hf ht27
            refine lv_tableIn (off := 46) (tgt := 128) hx hb dX11_run_82 (by rw [ht27]; decide) (by rw [ht27]; decide) (by rw [ht27]; rfl) (by decide) ?_
            refine lv_aload_n hx hb dX11_run_128 rfl (lv_at hl 1 rfl) ?_
            refine q_get (v := .ref h1) hC hK hV fl_X11_58 0 rfl rfl dX11_run_129 ?_
            refine q_get (v := .int u25.2.2.2.2.1) hC hK hV fl_X11_172 2 rfl rfl dX11_run_132 ?_
            obtain rfl := Option.some.inj hf
            exact q_ret hC hr hlocks hV dX11_run_135
          have hf := hf_f hf ht27
          by_cases ht28 : v3 = 2
          · have hf := hf_t hf ht28
            refine lv_tableIn (off := 54) (tgt := 136) hx hb dX11_run_82 (by rw [ht28]; decide) (by rw [ht28]; decide) (by rw [ht28]; rfl) (by decide) ?_
            refine lv_aload_n hx hb dX11_run_136 rfl (lv_at hl 1 rfl) ?_
            refine q_get (v := .ref h1) hC hK hV fl_X11_58 0 rfl rfl dX11_run_137 ?_
            refine q_get (v := .int u25.2.1) hC hK hV fl_X11_175 2 rfl rfl dX11_run_140 ?_
            obtain rfl := Option.some.inj hf
            exact q_ret hC hr hlocks hV dX11_run_143
          have hf := hf_f hf ht28
          by_cases ht29 : v3 = 3
          · have hf := hf_t hf ht29
            refine lv_tableIn (off := 62) (tgt := 144) hx hb dX11_run_82 (by rw [ht29]; decide) (by rw [ht29]; decide) (by rw [ht29]; rfl) (by decide) ?_
            refine lv_aload_n hx hb dX11_run_144 rfl (lv_at hl 1 rfl) ?_
            refine q_get (v := .ref h1) hC hK hV fl_X11_58 0 rfl rfl dX11_run_145 ?_
            refine q_get (v := .int u25.2.2.1) hC hK hV fl_X11_178 2 rfl rfl dX11_run_148 ?_
            obtain rfl := Option.some.inj hf
            exact q_ret hC hr hlocks hV dX11_run_151
          have hf := hf_f hf ht29
          by_cases ht30 : v3 = 4
          · have hf := hf_t hf ht30
            refine lv_tableIn (off := 70) (tgt := 152) hx hb dX11_run_82 (by rw [ht30]; decide) (by rw [ht30]; decide) (by rw [ht30]; rfl) (by decide) ?_
            refine lv_aload_n hx hb dX11_run_152 rfl (lv_at hl 1 rfl) ?_
            refine q_get (v := .ref h1) hC hK hV fl_X11_58 0 rfl rfl dX11_run_153 ?_
            refine q_get (v := .int u25.2.2.2.1) hC hK hV fl_X11_181 2 rfl rfl dX11_run_156 ?_
            obtain rfl := Option.some.inj hf
            exact q_ret hC hr hlocks hV dX11_run_159
          have hf := hf_f hf ht30
          by_cases ht32 : v3 = 5
          · have hf := hf_t hf ht32
            refine lv_tableIn (off := 78) (tgt := 160) hx hb dX11_run_82 (by rw [ht32]; decide) (by rw [ht32]; decide) (by rw [ht32]; rfl) (by decide) ?_
            refine lv_aload_n hx hb dX11_run_160 rfl (lv_at hl 1 rfl) ?_
            refine q_get (v := .ref h2) hC hK hV fl_X11_37 0 rfl rfl dX11_run_161 ?_
            refine lv_aload_n hx hb dX11_run_164 rfl (lv_at hl 1 rfl) ?_
            refine q_get (v := .ref h1) hC hK hV fl_X11_58 0 rfl rfl dX11_run_165 ?_
            obtain ⟨u31, hc31, hf⟩ := hf_b hf
            refine aft_i (run_v hC (k_X6_holds l D cs h2 ra2 h1 h3 ra1 y2_0 y2_1 x2_2 y2_3 x2_4 x2_5 x2_6 u3.1 u25.1 u25.2.1 u25.2.2.1 u25.2.2.2.1 u25.2.2.2.2.1 u25.2.2.2.2.2.1 u25.2.2.2.2.2.2.1 u25.2.2.2.2.2.2.2.1 u25.2.2.2.2.2.2.2.2.1 u25.2.2.2.2.2.2.2.2.2.1 u25.2.2.2.2.2.2.2.2.2.2.1 u25.2.2.2.2.2.2.2.2.2.2.2.1 u25.2.2.2.2.2.2.2.2.2.2.2.2 u31 H.size hc31) cd_X6_holds cv_X6_holds ml_X11_184 rfl rfl ⟨by decide, by decide⟩ hK hV (fr_pre hK hV [6, 7, 8, 9, 2, 3, 4, 5] rfl (by decide)) (ci := 6) (q0 := 6) rfl rfl rfl rfl hl.1 rfl (Nat.le_of_ble_eq_true rfl) dX11_run_168) hV (va_free hV.2.1 hV.2.2 hA [6, 7, 8, 9, 2, 3, 4, 5] rfl) (fr_jn (s := s) (wn := wY11 cs h0 o0_0 h3 h4 h5 h6 o0_3 h2 o0_5 o0_6 h1 o0_8 o0_9 o0_10 o0_11 o0_12 o0_13 o0_14 ra0 x0_15 ++ (wX0 cs h1 h3 ra1 u3.1 u25.1 u25.2.1 u25.2.2.1 u25.2.2.2.1 u25.2.2.2.2.1 u25.2.2.2.2.2.1 u25.2.2.2.2.2.2.1 u25.2.2.2.2.2.2.2.1 u25.2.2.2.2.2.2.2.2.1 u25.2.2.2.2.2.2.2.2.2.1 u25.2.2.2.2.2.2.2.2.2.2.1 u25.2.2.2.2.2.2.2.2.2.2.2.1 u25.2.2.2.2.2.2.2.2.2.2.2.2 ++ (wX6 cs h2 ra2 y2_0 y2_1 x2_2 u31.2.1 u31.2.2.1 u31.2.2.2.1 u31.2.2.2.2 ++ (wX10 cs h3 ra3 y3_0 y3_1 y3_2 x3_3 ++ (wX4 cs h4 ra4 y4_0 y4_1 y4_2 y4_3 y4_4 x4_5 x4_6 ++ (wX4 cs h5 ra5 y5_0 y5_1 y5_2 y5_3 y5_4 x5_5 x5_6 ++ (wX4 cs h6 ra6 y6_0 y6_1 y6_2 y6_3 y6_4 x6_5 x6_6))))))) hV hA [6, 7, 8, 9, 2, 3, 4, 5] [0, 1, 10, 11, 12, 13, 14, 15, 16, 17, 18, 19, 20, 21, 22, 23, 24, 25, 26, 27, 28, 29, 30, 31] [0, 1, 28, 29, 30, 31, 24, 25, 26, 27, 2, 3, 4, 5, 6, 7, 8, 9, 10, 11, 12, 13, 14, 15, 16, 17, 18, 19, 20, 21, 22, 23] rfl rfl (by decide) (by decide) rfl (by decide)) (fun H locs hV => ?_)
            refine lv_if_eq (tgt := 178) hx hb dX11_run_171 (by decide) (fun hc => ?_) (fun hc => ?_)
            · have hf := hf_t hf hc
              refine lv_iconst (v := 0) hx hb dX11_run_178 (by decide) ?_
              obtain rfl := Option.some.inj hf
              exact q_ret hC hr hlocks hV dX11_run_179
            · have hf := hf_f hf hc
              refine lv_iconst (v := 1) hx hb dX11_run_174 (by decide) ?_
              refine lv_goto (tgt := 179) hx hb dX11_run_175 (by decide) ?_
              obtain rfl := Option.some.inj hf
              exact q_ret hC hr hlocks hV dX11_run_179
          have hf := hf_f hf ht32
          refine q_tswD (tgt := 180) hx hb dX11_run_82 rfl [0, 1, 2, 3, 4, 5] (by decide) (tn_cons (tni ht26 (by decide)) (tn_cons (tni ht27 (by decide)) (tn_cons (tni ht28 (by decide)) (tn_cons (tni ht29 (by decide)) (tn_cons (tni ht30 (by decide)) (tn_cons (tni ht32 (by decide)) (tn_nil))))))) (by decide) ?_
          refine lv_aload_n hx hb dX11_run_180 rfl (lv_at hl 1 rfl) ?_
          refine q_get (v := .ref h1) hC hK hV fl_X11_58 0 rfl rfl dX11_run_181 ?_
          refine q_get (v := .ref (ra1 2)) hC hK hV fl_X11_188 2 rfl rfl dX11_run_184 ?_
          refine lv_iload_n hx hb dX11_run_187 rfl (lv_at hl 4 rfl) ?_
          refine lv_bipush (v := 10) hx hb dX11_run_188 (by decide) ?_
          refine lv_isub hx hb dX11_run_190 ?_
          obtain ⟨hi33, hf⟩ := hf_if hf
          refine q_iald hC hK hV 4 rfl hi33 dX11_run_191 ?_
          obtain rfl := Option.some.inj hf
          exact q_ret hC hr hlocks hV dX11_run_192
        have hf := hf_f hf ht24
        exact hf_no (show (none : Option (Int32 × (Nat → Int32) × (Nat → Int32) × Int32 × Int32 × Int32 × Int32 × Int32 × Int32 × (Nat → Int32) × Int32 × Int32 × Int32 × Int32 × Int32 × (Nat → Int32) × Int32 × Int32 × Int32)) = some u from hf)
      · have hf := hf_t hf hc
        refine lv_iconst (v := (-1)) hx hb dX11_run_50 (by decide) ?_
        obtain rfl := Option.some.inj hf
        exact q_ret hC hr hlocks hV dX11_run_51
set_option maxHeartbeats 4000000 in
set_option maxRecDepth 100000 in
theorem b_X11_run_20 {p : Program} {l : Launch} {e : Env} {s : State} {m : MethodId} {args : Array Value} {below : List Frame} {meth : Method} {c : Code} {D : va_G} {cs : Nat → ClassId} {A : Nat → Prop} (hC : CallFix p m c cX11_run 5 s args gtbl RX11) (hr : meth.sig.returnType = (some .int)) (hlocks : meth.locks = false) (hK : KN D cs s) (hA : ∀ q : Nat, s.heap.size ≤ q → A q) (h0 : Nat) (o0_0 : Nat) (o0_3 : Nat) (o0_5 : Nat) (o0_6 : Nat) (o0_8 : Nat) (o0_9 : Nat) (o0_10 : Nat) (o0_11 : Nat) (o0_12 : Nat) (o0_13 : Nat) (o0_14 : Nat) (ra0 : Nat → Nat) (h1 : Nat) (ra1 : Nat → Nat) (h2 : Nat) (ra2 : Nat → Nat) (h3 : Nat) (ra3 : Nat → Nat) (h4 : Nat) (ra4 : Nat → Nat) (h5 : Nat) (ra5 : Nat → Nat) (h6 : Nat) (ra6 : Nat → Nat) (x0_15 x4_6 x5_6 x6_6 : Int32) (u : Int32 × (Nat → Int32) × (Nat → Int32) × Int32 × Int32 × Int32 × Int32 × Int32 × Int32 × (Nat → Int32) × Int32 × Int32 × Int32 × Int32 × Int32 × (Nat → Int32) × Int32 × Int32 × Int32) : ∀ (v1 v2 v3 : Int32) (y1_1 y1_2 : Nat → Int32) (x1_3 x1_4 x1_5 x1_6 x1_7 x1_8 : Int32) (y1_9 : Nat → Int32) (x1_10 x1_11 x1_12 x1_13 x1_14 : Int32) (y2_0 y2_1 : Nat → Int32) (x2_2 : Int32) (y2_3 : Nat → Int32) (x2_4 x2_5 x2_6 : Int32) (y3_0 y3_1 y3_2 : Nat → Int32) (x3_3 : Int32) (y4_0 y4_1 y4_2 y4_3 y4_4 : Nat → Int32) (x4_5 : Int32) (y5_0 y5_1 y5_2 y5_3 y5_4 : Nat → Int32) (x5_5 : Int32) (y6_0 y6_1 y6_2 y6_3 y6_4 : Nat → Int32) (x6_5 : Int32) (H : Heap) (locs : List Loc) (ls : Array Slot), g_X11_run_20 v1 v2 v3 y1_1 y1_2 x1_3 x1_4 x1_5 x1_6 x1_7 x1_8 y1_9 x1_10 x1_11 x1_12 x1_13 x1_14 y2_0 y2_1 x2_2 y2_3 x2_4 x2_5 x2_6 y3_0 y3_1 y3_2 x3_3 y4_0 y4_1 y4_2 y4_3 y4_4 x4_5 y5_0 y5_1 y5_2 y5_3 y5_4 x5_5 y6_0 y6_1 y6_2 y6_3 y6_4 x6_5 = some u → lv_has ls 5 [(0, .ref h0), (1, .int v1), (2, .int v2), (3, .int v3)] → VW D A s.heap (wY11 cs h0 o0_0 h3 h4 h5 h6 o0_3 h2 o0_5 o0_6 h1 o0_8 o0_9 o0_10 o0_11 o0_12 o0_13 o0_14 ra0 x0_15 ++ (wX0 cs h1 h3 ra1 y1_1 y1_2 x1_3 x1_4 x1_5 x1_6 x1_7 x1_8 y1_9 x1_10 x1_11 x1_12 x1_13 x1_14 ++ (wX6 cs h2 ra2 y2_0 y2_1 x2_2 y2_3 x2_4 x2_5 x2_6 ++ (wX10 cs h3 ra3 y3_0 y3_1 y3_2 x3_3 ++ (wX4 cs h4 ra4 y4_0 y4_1 y4_2 y4_3 y4_4 x4_5 x4_6 ++ (wX4 cs h5 ra5 y5_0 y5_1 y5_2 y5_3 y5_4 x5_5 x5_6 ++ (wX4 cs h6 ra6 y6_0 y6_1 y6_2 y6_3 y6_4 x6_5 x6_6))))))) H locs → W p l e rm_X11_run s m args below meth c H locs 0 0 (MQ below (QI D (wY11 cs h0 o0_0 h3 h4 h5 h6 o0_3 h2 o0_5 o0_6 h1 o0_8 o0_9 o0_10 o0_11 o0_12 o0_13 o0_14 ra0 x0_15 ++ (wX0 cs h1 h3 ra1 u.2.1 u.2.2.1 u.2.2.2.1 u.2.2.2.2.1 u.2.2.2.2.2.1 u.2.2.2.2.2.2.1 u.2.2.2.2.2.2.2.1 u.2.2.2.2.2.2.2.2.1 u.2.2.2.2.2.2.2.2.2.1 u.2.2.2.2.2.2.2.2.2.2.1 u.2.2.2.2.2.2.2.2.2.2.2.1 u.2.2.2.2.2.2.2.2.2.2.2.2.1 u.2.2.2.2.2.2.2.2.2.2.2.2.2.1 u.2.2.2.2.2.2.2.2.2.2.2.2.2.2.1 ++ (wX6 cs h2 ra2 y2_0 y2_1 x2_2 u.2.2.2.2.2.2.2.2.2.2.2.2.2.2.2.1 u.2.2.2.2.2.2.2.2.2.2.2.2.2.2.2.2.1 u.2.2.2.2.2.2.2.2.2.2.2.2.2.2.2.2.2.1 u.2.2.2.2.2.2.2.2.2.2.2.2.2.2.2.2.2.2 ++ (wX10 cs h3 ra3 y3_0 y3_1 y3_2 x3_3 ++ (wX4 cs h4 ra4 y4_0 y4_1 y4_2 y4_3 y4_4 x4_5 x4_6 ++ (wX4 cs h5 ra5 y5_0 y5_1 y5_2 y5_3 y5_4 x5_5 x5_6 ++ (wX4 cs h6 ra6 y6_0 y6_1 y6_2 y6_3 y6_4 x6_5 x6_6))))))) A u.1) args s 0 0 A) (F0 m 20 ls []) := by
  have hx := hC.1
  have hb := hC.2.1
  have hown := hC.2.2.2.1
  have hts := hC.2.2.2.2
  intro v1 v2 v3 y1_1 y1_2 x1_3 x1_4 x1_5 x1_6 x1_7 x1_8 y1_9 x1_10 x1_11 x1_12 x1_13 x1_14 y2_0 y2_1 x2_2 y2_3 x2_4 x2_5 x2_6 y3_0 y3_1 y3_2 x3_3 y4_0 y4_1 y4_2 y4_3 y4_4 x4_5 y5_0 y5_1 y5_2 y5_3 y5_4 x5_5 y6_0 y6_1 y6_2 y6_3 y6_4 x6_5 H locs ls hf hl hV
  refine lv_iconst (v := 1) hx hb dX11_run_20 (by decide) ?_
  refine lv_goto (tgt := 25) hx hb dX11_run_21 (by decide) ?_
  exact b_X11_run_25 hC hr hlocks hK hA h0 o0_0 o0_3 o0_5 o0_6 o0_8 o0_9 o0_10 o0_11 o0_12 o0_13 o0_14 ra0 h1 ra1 h2 ra2 h3 ra3 h4 ra4 h5 ra5 h6 ra6 x0_15 x4_6 x5_6 x6_6 u v1 v2 v3 1 y1_1 y1_2 x1_3 x1_4 x1_5 x1_6 x1_7 x1_8 y1_9 x1_10 x1_11 x1_12 x1_13 x1_14 y2_0 y2_1 x2_2 y2_3 x2_4 x2_5 x2_6 y3_0 y3_1 y3_2 x3_3 y4_0 y4_1 y4_2 y4_3 y4_4 x4_5 y5_0 y5_1 y5_2 y5_3 y5_4 x5_5 y6_0 y6_1 y6_2 y6_3 y6_4 x6_5 H locs ls hf (lv_sub hl [0, 1, 2, 3] rfl) hV
set_option maxHeartbeats 4000000 in
set_option maxRecDepth 100000 in
theorem b_X11_run_0 {p : Program} {l : Launch} {e : Env} {s : State} {m : MethodId} {args : Array Value} {below : List Frame} {meth : Method} {c : Code} {D : va_G} {cs : Nat → ClassId} {A : Nat → Prop} (hC : CallFix p m c cX11_run 5 s args gtbl RX11) (hr : meth.sig.returnType = (some .int)) (hlocks : meth.locks = false) (hK : KN D cs s) (hA : ∀ q : Nat, s.heap.size ≤ q → A q) (h0 : Nat) (o0_0 : Nat) (o0_3 : Nat) (o0_5 : Nat) (o0_6 : Nat) (o0_8 : Nat) (o0_9 : Nat) (o0_10 : Nat) (o0_11 : Nat) (o0_12 : Nat) (o0_13 : Nat) (o0_14 : Nat) (ra0 : Nat → Nat) (h1 : Nat) (ra1 : Nat → Nat) (h2 : Nat) (ra2 : Nat → Nat) (h3 : Nat) (ra3 : Nat → Nat) (h4 : Nat) (ra4 : Nat → Nat) (h5 : Nat) (ra5 : Nat → Nat) (h6 : Nat) (ra6 : Nat → Nat) (x0_15 x4_6 x5_6 x6_6 : Int32) (u : Int32 × (Nat → Int32) × (Nat → Int32) × Int32 × Int32 × Int32 × Int32 × Int32 × Int32 × (Nat → Int32) × Int32 × Int32 × Int32 × Int32 × Int32 × (Nat → Int32) × Int32 × Int32 × Int32) : ∀ (v1 v2 v3 : Int32) (y1_1 y1_2 : Nat → Int32) (x1_3 x1_4 x1_5 x1_6 x1_7 x1_8 : Int32) (y1_9 : Nat → Int32) (x1_10 x1_11 x1_12 x1_13 x1_14 : Int32) (y2_0 y2_1 : Nat → Int32) (x2_2 : Int32) (y2_3 : Nat → Int32) (x2_4 x2_5 x2_6 : Int32) (y3_0 y3_1 y3_2 : Nat → Int32) (x3_3 : Int32) (y4_0 y4_1 y4_2 y4_3 y4_4 : Nat → Int32) (x4_5 : Int32) (y5_0 y5_1 y5_2 y5_3 y5_4 : Nat → Int32) (x5_5 : Int32) (y6_0 y6_1 y6_2 y6_3 y6_4 : Nat → Int32) (x6_5 : Int32) (H : Heap) (locs : List Loc) (ls : Array Slot), g_X11_run_0 v1 v2 v3 y1_1 y1_2 x1_3 x1_4 x1_5 x1_6 x1_7 x1_8 y1_9 x1_10 x1_11 x1_12 x1_13 x1_14 y2_0 y2_1 x2_2 y2_3 x2_4 x2_5 x2_6 y3_0 y3_1 y3_2 x3_3 y4_0 y4_1 y4_2 y4_3 y4_4 x4_5 y5_0 y5_1 y5_2 y5_3 y5_4 x5_5 y6_0 y6_1 y6_2 y6_3 y6_4 x6_5 = some u → lv_has ls 5 [(0, .ref h0), (1, .int v1), (2, .int v2), (3, .int v3)] → VW D A s.heap (wY11 cs h0 o0_0 h3 h4 h5 h6 o0_3 h2 o0_5 o0_6 h1 o0_8 o0_9 o0_10 o0_11 o0_12 o0_13 o0_14 ra0 x0_15 ++ (wX0 cs h1 h3 ra1 y1_1 y1_2 x1_3 x1_4 x1_5 x1_6 x1_7 x1_8 y1_9 x1_10 x1_11 x1_12 x1_13 x1_14 ++ (wX6 cs h2 ra2 y2_0 y2_1 x2_2 y2_3 x2_4 x2_5 x2_6 ++ (wX10 cs h3 ra3 y3_0 y3_1 y3_2 x3_3 ++ (wX4 cs h4 ra4 y4_0 y4_1 y4_2 y4_3 y4_4 x4_5 x4_6 ++ (wX4 cs h5 ra5 y5_0 y5_1 y5_2 y5_3 y5_4 x5_5 x5_6 ++ (wX4 cs h6 ra6 y6_0 y6_1 y6_2 y6_3 y6_4 x6_5 x6_6))))))) H locs → W p l e rm_X11_run s m args below meth c H locs 0 0 (MQ below (QI D (wY11 cs h0 o0_0 h3 h4 h5 h6 o0_3 h2 o0_5 o0_6 h1 o0_8 o0_9 o0_10 o0_11 o0_12 o0_13 o0_14 ra0 x0_15 ++ (wX0 cs h1 h3 ra1 u.2.1 u.2.2.1 u.2.2.2.1 u.2.2.2.2.1 u.2.2.2.2.2.1 u.2.2.2.2.2.2.1 u.2.2.2.2.2.2.2.1 u.2.2.2.2.2.2.2.2.1 u.2.2.2.2.2.2.2.2.2.1 u.2.2.2.2.2.2.2.2.2.2.1 u.2.2.2.2.2.2.2.2.2.2.2.1 u.2.2.2.2.2.2.2.2.2.2.2.2.1 u.2.2.2.2.2.2.2.2.2.2.2.2.2.1 u.2.2.2.2.2.2.2.2.2.2.2.2.2.2.1 ++ (wX6 cs h2 ra2 y2_0 y2_1 x2_2 u.2.2.2.2.2.2.2.2.2.2.2.2.2.2.2.1 u.2.2.2.2.2.2.2.2.2.2.2.2.2.2.2.2.1 u.2.2.2.2.2.2.2.2.2.2.2.2.2.2.2.2.2.1 u.2.2.2.2.2.2.2.2.2.2.2.2.2.2.2.2.2.2 ++ (wX10 cs h3 ra3 y3_0 y3_1 y3_2 x3_3 ++ (wX4 cs h4 ra4 y4_0 y4_1 y4_2 y4_3 y4_4 x4_5 x4_6 ++ (wX4 cs h5 ra5 y5_0 y5_1 y5_2 y5_3 y5_4 x5_5 x5_6 ++ (wX4 cs h6 ra6 y6_0 y6_1 y6_2 y6_3 y6_4 x6_5 x6_6))))))) A u.1) args s 0 0 A) (F0 m 0 ls []) := by
  have hx := hC.1
  have hb := hC.2.1
  have hown := hC.2.2.2.1
  have hts := hC.2.2.2.2
  intro v1 v2 v3 y1_1 y1_2 x1_3 x1_4 x1_5 x1_6 x1_7 x1_8 y1_9 x1_10 x1_11 x1_12 x1_13 x1_14 y2_0 y2_1 x2_2 y2_3 x2_4 x2_5 x2_6 y3_0 y3_1 y3_2 x3_3 y4_0 y4_1 y4_2 y4_3 y4_4 x4_5 y5_0 y5_1 y5_2 y5_3 y5_4 x5_5 y6_0 y6_1 y6_2 y6_3 y6_4 x6_5 H locs ls hf hl hV
  refine lv_iload_n hx hb dX11_run_0 rfl (lv_at hl 3 rfl) ?_
  refine lv_iconst (v := 0) hx hb dX11_run_1 (by decide) ?_
  refine lv_iconst (v := 5) hx hb dX11_run_2 (by decide) ?_
  obtain ⟨u1, hc1, hf⟩ := hf_b hf
  refine aft_i (run_s hC (k_X11_within l D cs v3 0 5 u1 H.size hc1) cd_X11_within st_X11_within ml_X11_115 rfl rfl ⟨by decide, by decide⟩ (fr_pre hK hV [] rfl (by decide)) rfl hl.1 rfl (Nat.le_of_ble_eq_true rfl) dX11_run_3) hV (va_free hV.2.1 hV.2.2 hA [] rfl) (fr_jn (s := s) (wn := wY11 cs h0 o0_0 h3 h4 h5 h6 o0_3 h2 o0_5 o0_6 h1 o0_8 o0_9 o0_10 o0_11 o0_12 o0_13 o0_14 ra0 x0_15 ++ (wX0 cs h1 h3 ra1 y1_1 y1_2 x1_3 x1_4 x1_5 x1_6 x1_7 x1_8 y1_9 x1_10 x1_11 x1_12 x1_13 x1_14 ++ (wX6 cs h2 ra2 y2_0 y2_1 x2_2 y2_3 x2_4 x2_5 x2_6 ++ (wX10 cs h3 ra3 y3_0 y3_1 y3_2 x3_3 ++ (wX4 cs h4 ra4 y4_0 y4_1 y4_2 y4_3 y4_4 x4_5 x4_6 ++ (wX4 cs h5 ra5 y5_0 y5_1 y5_2 y5_3 y5_4 x5_5 x5_6 ++ (wX4 cs h6 ra6 y6_0 y6_1 y6_2 y6_3 y6_4 x6_5 x6_6))))))) hV hA [] [0, 1, 2, 3, 4, 5, 6, 7, 8, 9, 10, 11, 12, 13, 14, 15, 16, 17, 18, 19, 20, 21, 22, 23, 24, 25, 26, 27, 28, 29, 30, 31] [0, 1, 2, 3, 4, 5, 6, 7, 8, 9, 10, 11, 12, 13, 14, 15, 16, 17, 18, 19, 20, 21, 22, 23, 24, 25, 26, 27, 28, 29, 30, 31] rfl rfl (by decide) (by decide) rfl (by decide)) (fun H locs hV => ?_)
  refine lv_if_ne (tgt := 20) hx hb dX11_run_6 (by decide) (fun hc => ?_) (fun hc => ?_)
  · have hf := hf_f hf hc
    exact b_X11_run_20 hC hr hlocks hK hA h0 o0_0 o0_3 o0_5 o0_6 o0_8 o0_9 o0_10 o0_11 o0_12 o0_13 o0_14 ra0 h1 ra1 h2 ra2 h3 ra3 h4 ra4 h5 ra5 h6 ra6 x0_15 x4_6 x5_6 x6_6 u v1 v2 v3 y1_1 y1_2 x1_3 x1_4 x1_5 x1_6 x1_7 x1_8 y1_9 x1_10 x1_11 x1_12 x1_13 x1_14 y2_0 y2_1 x2_2 y2_3 x2_4 x2_5 x2_6 y3_0 y3_1 y3_2 x3_3 y4_0 y4_1 y4_2 y4_3 y4_4 x4_5 y5_0 y5_1 y5_2 y5_3 y5_4 x5_5 y6_0 y6_1 y6_2 y6_3 y6_4 x6_5 H locs ls hf (lv_sub hl [0, 1, 2, 3] rfl) hV
  · have hf := hf_t hf hc
    refine lv_iload_n hx hb dX11_run_9 rfl (lv_at hl 3 rfl) ?_
    refine lv_bipush (v := 10) hx hb dX11_run_10 (by decide) ?_
    refine lv_bipush (v := 15) hx hb dX11_run_12 (by decide) ?_
    obtain ⟨u2, hc2, hf⟩ := hf_b hf
    refine aft_i (run_s hC (k_X11_within l D cs v3 10 15 u2 H.size hc2) cd_X11_within st_X11_within ml_X11_115 rfl rfl ⟨by decide, by decide⟩ (fr_pre hK hV [] rfl (by decide)) rfl hl.1 rfl (Nat.le_of_ble_eq_true rfl) dX11_run_14) hV (va_free hV.2.1 hV.2.2 hA [] rfl) (fr_jn (s := s) (wn := wY11 cs h0 o0_0 h3 h4 h5 h6 o0_3 h2 o0_5 o0_6 h1 o0_8 o0_9 o0_10 o0_11 o0_12 o0_13 o0_14 ra0 x0_15 ++ (wX0 cs h1 h3 ra1 y1_1 y1_2 x1_3 x1_4 x1_5 x1_6 x1_7 x1_8 y1_9 x1_10 x1_11 x1_12 x1_13 x1_14 ++ (wX6 cs h2 ra2 y2_0 y2_1 x2_2 y2_3 x2_4 x2_5 x2_6 ++ (wX10 cs h3 ra3 y3_0 y3_1 y3_2 x3_3 ++ (wX4 cs h4 ra4 y4_0 y4_1 y4_2 y4_3 y4_4 x4_5 x4_6 ++ (wX4 cs h5 ra5 y5_0 y5_1 y5_2 y5_3 y5_4 x5_5 x5_6 ++ (wX4 cs h6 ra6 y6_0 y6_1 y6_2 y6_3 y6_4 x6_5 x6_6))))))) hV hA [] [0, 1, 2, 3, 4, 5, 6, 7, 8, 9, 10, 11, 12, 13, 14, 15, 16, 17, 18, 19, 20, 21, 22, 23, 24, 25, 26, 27, 28, 29, 30, 31] [0, 1, 2, 3, 4, 5, 6, 7, 8, 9, 10, 11, 12, 13, 14, 15, 16, 17, 18, 19, 20, 21, 22, 23, 24, 25, 26, 27, 28, 29, 30, 31] rfl rfl (by decide) (by decide) rfl (by decide)) (fun H locs hV => ?_)
    refine lv_if_eq (tgt := 24) hx hb dX11_run_17 (by decide) (fun hc => ?_) (fun hc => ?_)
    · have hf := hf_t hf hc
      refine lv_iconst (v := 0) hx hb dX11_run_24 (by decide) ?_
      exact b_X11_run_25 hC hr hlocks hK hA h0 o0_0 o0_3 o0_5 o0_6 o0_8 o0_9 o0_10 o0_11 o0_12 o0_13 o0_14 ra0 h1 ra1 h2 ra2 h3 ra3 h4 ra4 h5 ra5 h6 ra6 x0_15 x4_6 x5_6 x6_6 u v1 v2 v3 0 y1_1 y1_2 x1_3 x1_4 x1_5 x1_6 x1_7 x1_8 y1_9 x1_10 x1_11 x1_12 x1_13 x1_14 y2_0 y2_1 x2_2 y2_3 x2_4 x2_5 x2_6 y3_0 y3_1 y3_2 x3_3 y4_0 y4_1 y4_2 y4_3 y4_4 x4_5 y5_0 y5_1 y5_2 y5_3 y5_4 x5_5 y6_0 y6_1 y6_2 y6_3 y6_4 x6_5 H locs ls hf (lv_sub hl [0, 1, 2, 3] rfl) hV
    · have hf := hf_f hf hc
      exact b_X11_run_20 hC hr hlocks hK hA h0 o0_0 o0_3 o0_5 o0_6 o0_8 o0_9 o0_10 o0_11 o0_12 o0_13 o0_14 ra0 h1 ra1 h2 ra2 h3 ra3 h4 ra4 h5 ra5 h6 ra6 x0_15 x4_6 x5_6 x6_6 u v1 v2 v3 y1_1 y1_2 x1_3 x1_4 x1_5 x1_6 x1_7 x1_8 y1_9 x1_10 x1_11 x1_12 x1_13 x1_14 y2_0 y2_1 x2_2 y2_3 x2_4 x2_5 x2_6 y3_0 y3_1 y3_2 x3_3 y4_0 y4_1 y4_2 y4_3 y4_4 x4_5 y5_0 y5_1 y5_2 y5_3 y5_4 x5_5 y6_0 y6_1 y6_2 y6_3 y6_4 x6_5 H locs ls hf (lv_sub hl [0, 1, 2, 3] rfl) hV
set_option maxRecDepth 100000 in
theorem k_X11_run (l : Launch) (D : va_G) (cs : Nat → ClassId) (h0 : Nat) (o0_0 : Nat) (o0_3 : Nat) (o0_5 : Nat) (o0_6 : Nat) (o0_8 : Nat) (o0_9 : Nat) (o0_10 : Nat) (o0_11 : Nat) (o0_12 : Nat) (o0_13 : Nat) (o0_14 : Nat) (ra0 : Nat → Nat) (h1 : Nat) (ra1 : Nat → Nat) (h2 : Nat) (ra2 : Nat → Nat) (h3 : Nat) (ra3 : Nat → Nat) (h4 : Nat) (ra4 : Nat → Nat) (h5 : Nat) (ra5 : Nat → Nat) (h6 : Nat) (ra6 : Nat → Nat) (x0_15 : Int32) (y1_1 y1_2 : Nat → Int32) (x1_3 x1_4 x1_5 x1_6 x1_7 x1_8 : Int32) (y1_9 : Nat → Int32) (x1_10 x1_11 x1_12 x1_13 x1_14 : Int32) (y2_0 y2_1 : Nat → Int32) (x2_2 : Int32) (y2_3 : Nat → Int32) (x2_4 x2_5 x2_6 : Int32) (y3_0 y3_1 y3_2 : Nat → Int32) (x3_3 : Int32) (y4_0 y4_1 y4_2 y4_3 y4_4 : Nat → Int32) (x4_5 x4_6 : Int32) (y5_0 y5_1 y5_2 y5_3 y5_4 : Nat → Int32) (x5_5 x5_6 : Int32) (y6_0 y6_1 y6_2 y6_3 y6_4 : Nat → Int32) (x6_5 x6_6 : Int32) (v1 v2 v3 : Int32) (u : Int32 × (Nat → Int32) × (Nat → Int32) × Int32 × Int32 × Int32 × Int32 × Int32 × Int32 × (Nat → Int32) × Int32 × Int32 × Int32 × Int32 × Int32 × (Nat → Int32) × Int32 × Int32 × Int32) (sz : Nat) (hf : f_X11_run v1 v2 v3 y1_1 y1_2 x1_3 x1_4 x1_5 x1_6 x1_7 x1_8 y1_9 x1_10 x1_11 x1_12 x1_13 x1_14 y2_0 y2_1 x2_2 y2_3 x2_4 x2_5 x2_6 y3_0 y3_1 y3_2 x3_3 y4_0 y4_1 y4_2 y4_3 y4_4 x4_5 y5_0 y5_1 y5_2 y5_3 y5_4 x5_5 y6_0 y6_1 y6_2 y6_3 y6_4 x6_5 = some u) : Met l yX11_run (WS yX11_run cX11_run 5 (some .int)) rm_X11_run (va_Pc [.ref h0, .int v1, .int v2, .int v3] (PR D cs (wY11 cs h0 o0_0 h3 h4 h5 h6 o0_3 h2 o0_5 o0_6 h1 o0_8 o0_9 o0_10 o0_11 o0_12 o0_13 o0_14 ra0 x0_15 ++ (wX0 cs h1 h3 ra1 y1_1 y1_2 x1_3 x1_4 x1_5 x1_6 x1_7 x1_8 y1_9 x1_10 x1_11 x1_12 x1_13 x1_14 ++ (wX6 cs h2 ra2 y2_0 y2_1 x2_2 y2_3 x2_4 x2_5 x2_6 ++ (wX10 cs h3 ra3 y3_0 y3_1 y3_2 x3_3 ++ (wX4 cs h4 ra4 y4_0 y4_1 y4_2 y4_3 y4_4 x4_5 x4_6 ++ (wX4 cs h5 ra5 y5_0 y5_1 y5_2 y5_3 y5_4 x5_5 x5_6 ++ (wX4 cs h6 ra6 y6_0 y6_1 y6_2 y6_3 y6_4 x6_5 x6_6))))))) sz)) (QI D (wY11 cs h0 o0_0 h3 h4 h5 h6 o0_3 h2 o0_5 o0_6 h1 o0_8 o0_9 o0_10 o0_11 o0_12 o0_13 o0_14 ra0 x0_15 ++ (wX0 cs h1 h3 ra1 u.2.1 u.2.2.1 u.2.2.2.1 u.2.2.2.2.1 u.2.2.2.2.2.1 u.2.2.2.2.2.2.1 u.2.2.2.2.2.2.2.1 u.2.2.2.2.2.2.2.2.1 u.2.2.2.2.2.2.2.2.2.1 u.2.2.2.2.2.2.2.2.2.2.1 u.2.2.2.2.2.2.2.2.2.2.2.1 u.2.2.2.2.2.2.2.2.2.2.2.2.1 u.2.2.2.2.2.2.2.2.2.2.2.2.2.1 u.2.2.2.2.2.2.2.2.2.2.2.2.2.2.1 ++ (wX6 cs h2 ra2 y2_0 y2_1 x2_2 u.2.2.2.2.2.2.2.2.2.2.2.2.2.2.2.1 u.2.2.2.2.2.2.2.2.2.2.2.2.2.2.2.2.1 u.2.2.2.2.2.2.2.2.2.2.2.2.2.2.2.2.2.1 u.2.2.2.2.2.2.2.2.2.2.2.2.2.2.2.2.2.2 ++ (wX10 cs h3 ra3 y3_0 y3_1 y3_2 x3_3 ++ (wX4 cs h4 ra4 y4_0 y4_1 y4_2 y4_3 y4_4 x4_5 x4_6 ++ (wX4 cs h5 ra5 y5_0 y5_1 y5_2 y5_3 y5_4 x5_5 x5_6 ++ (wX4 cs h6 ra6 y6_0 y6_1 y6_2 y6_3 y6_4 x6_5 x6_6))))))) (va_A (wY11 cs h0 o0_0 h3 h4 h5 h6 o0_3 h2 o0_5 o0_6 h1 o0_8 o0_9 o0_10 o0_11 o0_12 o0_13 o0_14 ra0 x0_15 ++ (wX0 cs h1 h3 ra1 y1_1 y1_2 x1_3 x1_4 x1_5 x1_6 x1_7 x1_8 y1_9 x1_10 x1_11 x1_12 x1_13 x1_14 ++ (wX6 cs h2 ra2 y2_0 y2_1 x2_2 y2_3 x2_4 x2_5 x2_6 ++ (wX10 cs h3 ra3 y3_0 y3_1 y3_2 x3_3 ++ (wX4 cs h4 ra4 y4_0 y4_1 y4_2 y4_3 y4_4 x4_5 x4_6 ++ (wX4 cs h5 ra5 y5_0 y5_1 y5_2 y5_3 y5_4 x5_5 x5_6 ++ (wX4 cs h6 ra6 y6_0 y6_1 y6_2 y6_3 y6_4 x6_5 x6_6))))))) sz) u.1) 0 0 (va_A (wY11 cs h0 o0_0 h3 h4 h5 h6 o0_3 h2 o0_5 o0_6 h1 o0_8 o0_9 o0_10 o0_11 o0_12 o0_13 o0_14 ra0 x0_15 ++ (wX0 cs h1 h3 ra1 y1_1 y1_2 x1_3 x1_4 x1_5 x1_6 x1_7 x1_8 y1_9 x1_10 x1_11 x1_12 x1_13 x1_14 ++ (wX6 cs h2 ra2 y2_0 y2_1 x2_2 y2_3 x2_4 x2_5 x2_6 ++ (wX10 cs h3 ra3 y3_0 y3_1 y3_2 x3_3 ++ (wX4 cs h4 ra4 y4_0 y4_1 y4_2 y4_3 y4_4 x4_5 x4_6 ++ (wX4 cs h5 ra5 y5_0 y5_1 y5_2 y5_3 y5_4 x5_5 x5_6 ++ (wX4 cs h6 ra6 y6_0 y6_1 y6_2 y6_3 y6_4 x6_5 x6_6))))))) sz) := by
  refine met_of RX11 rfl (by decide) (Nat.le_of_ble_eq_true rfl) ?_
  intro p e s m args below meth c hC hr hlocks hK hsz hA hV ls hl
  exact b_X11_run_0 hC hr hlocks hK hA h0 o0_0 o0_3 o0_5 o0_6 o0_8 o0_9 o0_10 o0_11 o0_12 o0_13 o0_14 ra0 h1 ra1 h2 ra2 h3 ra3 h4 ra4 h5 ra5 h6 ra6 x0_15 x4_6 x5_6 x6_6 u v1 v2 v3 y1_1 y1_2 x1_3 x1_4 x1_5 x1_6 x1_7 x1_8 y1_9 x1_10 x1_11 x1_12 x1_13 x1_14 y2_0 y2_1 x2_2 y2_3 x2_4 x2_5 x2_6 y3_0 y3_1 y3_2 x3_3 y4_0 y4_1 y4_2 y4_3 y4_4 x4_5 y5_0 y5_1 y5_2 y5_3 y5_4 x5_5 y6_0 y6_1 y6_2 y6_3 y6_4 x6_5 s.heap [] ls hf (lv_sub hl [0, 1, 2, 3] rfl) hV
def rm_X11_done : Room := { frames := 4, cells := 0, slots := 0, locals := 113 }
set_option maxHeartbeats 4000000 in
set_option maxRecDepth 100000 in
theorem b_X11_done_0 {p : Program} {l : Launch} {e : Env} {s : State} {m : MethodId} {args : Array Value} {below : List Frame} {meth : Method} {c : Code} {D : va_G} {cs : Nat → ClassId} {A : Nat → Prop} (hC : CallFix p m c cX11_done 3 s args gtbl RX11) (hr : meth.sig.returnType = (some .int)) (hlocks : meth.locks = false) (hK : KN D cs s) (hA : ∀ q : Nat, s.heap.size ≤ q → A q) (h0 : Nat) (o0_0 : Nat) (o0_3 : Nat) (o0_4 : Nat) (o0_5 : Nat) (o0_6 : Nat) (o0_8 : Nat) (o0_9 : Nat) (o0_10 : Nat) (o0_11 : Nat) (o0_12 : Nat) (o0_14 : Nat) (ra0 : Nat → Nat) (h1 : Nat) (ra1 : Nat → Nat) (h2 : Nat) (ra2 : Nat → Nat) (h3 : Nat) (ra3 : Nat → Nat) (h4 : Nat) (ra4 : Nat → Nat) (h5 : Nat) (ra5 : Nat → Nat) (h6 : Nat) (ra6 : Nat → Nat) (x0_15 : Int32) (y2_0 : Nat → Int32) (x2_4 x4_6 x5_6 x6_6 : Int32) (u : Int32 × (Nat → Int32) × (Nat → Int32) × Int32 × Int32 × Int32 × Int32 × Int32 × Int32 × (Nat → Int32) × Int32 × Int32 × Int32 × Int32 × Int32 × Int32 × Int32 × Int32 × (Nat → Int32)) : ∀ (v1 v2 : Int32) (y1_1 y1_2 : Nat → Int32) (x1_3 x1_4 x1_5 x1_6 x1_7 x1_8 : Int32) (y1_9 : Nat → Int32) (x1_10 x1_11 x1_12 x1_13 x1_14 x2_1 x2_2 x2_3 : Int32) (y3_0 y3_1 y3_2 : Nat → Int32) (x3_3 : Int32) (y4_0 y4_1 y4_2 y4_3 y4_4 : Nat → Int32) (x4_5 : Int32) (y5_0 y5_1 y5_2 y5_3 y5_4 : Nat → Int32) (x5_5 : Int32) (y6_0 y6_1 y6_2 y6_3 y6_4 : Nat → Int32) (x6_5 : Int32) (H : Heap) (locs : List Loc) (ls : Array Slot), g_X11_done_0 v1 v2 y1_1 y1_2 x1_3 x1_4 x1_5 x1_6 x1_7 x1_8 y1_9 x1_10 x1_11 x1_12 x1_13 x1_14 x2_1 x2_2 x2_3 y3_0 y3_1 y3_2 x3_3 y4_0 y4_1 y4_2 y4_3 y4_4 x4_5 y5_0 y5_1 y5_2 y5_3 y5_4 x5_5 y6_0 y6_1 y6_2 y6_3 y6_4 x6_5 = some u → lv_has ls 3 [(0, .ref h0), (1, .int v1), (2, .int v2)] → VW D A s.heap (wY11 cs h0 o0_0 h3 h4 h5 h6 o0_3 o0_4 o0_5 o0_6 h1 o0_8 o0_9 o0_10 o0_11 o0_12 h2 o0_14 ra0 x0_15 ++ (wX0 cs h1 h3 ra1 y1_1 y1_2 x1_3 x1_4 x1_5 x1_6 x1_7 x1_8 y1_9 x1_10 x1_11 x1_12 x1_13 x1_14 ++ (wX1 cs h2 ra2 y2_0 x2_1 x2_2 x2_3 x2_4 ++ (wX10 cs h3 ra3 y3_0 y3_1 y3_2 x3_3 ++ (wX4 cs h4 ra4 y4_0 y4_1 y4_2 y4_3 y4_4 x4_5 x4_6 ++ (wX4 cs h5 ra5 y5_0 y5_1 y5_2 y5_3 y5_4 x5_5 x5_6 ++ (wX4 cs h6 ra6 y6_0 y6_1 y6_2 y6_3 y6_4 x6_5 x6_6))))))) H locs → W p l e rm_X11_done s m args below meth c H locs 0 0 (MQ below (QI D (wY11 cs h0 o0_0 h3 h4 h5 h6 o0_3 o0_4 o0_5 o0_6 h1 o0_8 o0_9 o0_10 o0_11 o0_12 h2 o0_14 ra0 x0_15 ++ (wX0 cs h1 h3 ra1 u.2.1 u.2.2.1 u.2.2.2.1 u.2.2.2.2.1 u.2.2.2.2.2.1 u.2.2.2.2.2.2.1 u.2.2.2.2.2.2.2.1 u.2.2.2.2.2.2.2.2.1 u.2.2.2.2.2.2.2.2.2.1 u.2.2.2.2.2.2.2.2.2.2.1 u.2.2.2.2.2.2.2.2.2.2.2.1 u.2.2.2.2.2.2.2.2.2.2.2.2.1 u.2.2.2.2.2.2.2.2.2.2.2.2.2.1 u.2.2.2.2.2.2.2.2.2.2.2.2.2.2.1 ++ (wX1 cs h2 ra2 y2_0 u.2.2.2.2.2.2.2.2.2.2.2.2.2.2.2.1 u.2.2.2.2.2.2.2.2.2.2.2.2.2.2.2.2.1 u.2.2.2.2.2.2.2.2.2.2.2.2.2.2.2.2.2.1 x2_4 ++ (wX10 cs h3 ra3 y3_0 y3_1 u.2.2.2.2.2.2.2.2.2.2.2.2.2.2.2.2.2.2 x3_3 ++ (wX4 cs h4 ra4 y4_0 y4_1 y4_2 y4_3 y4_4 x4_5 x4_6 ++ (wX4 cs h5 ra5 y5_0 y5_1 y5_2 y5_3 y5_4 x5_5 x5_6 ++ (wX4 cs h6 ra6 y6_0 y6_1 y6_2 y6_3 y6_4 x6_5 x6_6))))))) A u.1) args s 0 0 A) (F0 m 0 ls []) := by
  have hx := hC.1
  have hb := hC.2.1
  have hown := hC.2.2.2.1
  have hts := hC.2.2.2.2
  intro v1 v2 y1_1 y1_2 x1_3 x1_4 x1_5 x1_6 x1_7 x1_8 y1_9 x1_10 x1_11 x1_12 x1_13 x1_14 x2_1 x2_2 x2_3 y3_0 y3_1 y3_2 x3_3 y4_0 y4_1 y4_2 y4_3 y4_4 x4_5 y5_0 y5_1 y5_2 y5_3 y5_4 x5_5 y6_0 y6_1 y6_2 y6_3 y6_4 x6_5 H locs ls hf hl hV
  refine lv_iload_n hx hb dX11_done_0 rfl (lv_at hl 1 rfl) ?_
  obtain ⟨u1, hc1, hf⟩ := hf_b hf
  refine aft_i (run_s hC (k_X11_isRecipe l D cs v1 u1 H.size hc1) cd_X11_isRecipe st_X11_isRecipe ml_X11_134 rfl rfl ⟨by decide, by decide⟩ (fr_pre hK hV [] rfl (by decide)) rfl hl.1 rfl (Nat.le_of_ble_eq_true rfl) dX11_done_1) hV (va_free hV.2.1 hV.2.2 hA [] rfl) (fr_jn (s := s) (wn := wY11 cs h0 o0_0 h3 h4 h5 h6 o0_3 o0_4 o0_5 o0_6 h1 o0_8 o0_9 o0_10 o0_11 o0_12 h2 o0_14 ra0 x0_15 ++ (wX0 cs h1 h3 ra1 y1_1 y1_2 x1_3 x1_4 x1_5 x1_6 x1_7 x1_8 y1_9 x1_10 x1_11 x1_12 x1_13 x1_14 ++ (wX1 cs h2 ra2 y2_0 x2_1 x2_2 x2_3 x2_4 ++ (wX10 cs h3 ra3 y3_0 y3_1 y3_2 x3_3 ++ (wX4 cs h4 ra4 y4_0 y4_1 y4_2 y4_3 y4_4 x4_5 x4_6 ++ (wX4 cs h5 ra5 y5_0 y5_1 y5_2 y5_3 y5_4 x5_5 x5_6 ++ (wX4 cs h6 ra6 y6_0 y6_1 y6_2 y6_3 y6_4 x6_5 x6_6))))))) hV hA [] [0, 1, 2, 3, 4, 5, 6, 7, 8, 9, 10, 11, 12, 13, 14, 15, 16, 17, 18, 19, 20, 21, 22, 23, 24, 25, 26, 27, 28, 29] [0, 1, 2, 3, 4, 5, 6, 7, 8, 9, 10, 11, 12, 13, 14, 15, 16, 17, 18, 19, 20, 21, 22, 23, 24, 25, 26, 27, 28, 29] rfl rfl (by decide) (by decide) rfl (by decide)) (fun H locs hV => ?_)
  refine lv_if_eq (tgt := 18) hx hb dX11_done_4 (by decide) (fun hc => ?_) (fun hc => ?_)
  · have hf := hf_t hf hc
    refine lv_iconst (v := (-1)) hx hb dX11_done_18 (by decide) ?_
    obtain rfl := Option.some.inj hf
    exact q_ret hC hr hlocks hV dX11_done_19
  · have hf := hf_f hf hc
    refine lv_iload_n hx hb dX11_done_7 rfl (lv_at hl 2 rfl) ?_
    refine lv_iconst (v := 1) hx hb dX11_done_8 (by decide) ?_
    refine lv_sipush (v := 20000) hx hb dX11_done_9 (by decide) ?_
    obtain ⟨u2, hc2, hf⟩ := hf_b hf
    refine aft_i (run_s hC (k_X11_within l D cs v2 1 20000 u2 H.size hc2) cd_X11_within st_X11_within ml_X11_115 rfl rfl ⟨by decide, by decide⟩ (fr_pre hK hV [] rfl (by decide)) rfl hl.1 rfl (Nat.le_of_ble_eq_true rfl) dX11_done_12) hV (va_free hV.2.1 hV.2.2 hA [] rfl) (fr_jn (s := s) (wn := wY11 cs h0 o0_0 h3 h4 h5 h6 o0_3 o0_4 o0_5 o0_6 h1 o0_8 o0_9 o0_10 o0_11 o0_12 h2 o0_14 ra0 x0_15 ++ (wX0 cs h1 h3 ra1 y1_1 y1_2 x1_3 x1_4 x1_5 x1_6 x1_7 x1_8 y1_9 x1_10 x1_11 x1_12 x1_13 x1_14 ++ (wX1 cs h2 ra2 y2_0 x2_1 x2_2 x2_3 x2_4 ++ (wX10 cs h3 ra3 y3_0 y3_1 y3_2 x3_3 ++ (wX4 cs h4 ra4 y4_0 y4_1 y4_2 y4_3 y4_4 x4_5 x4_6 ++ (wX4 cs h5 ra5 y5_0 y5_1 y5_2 y5_3 y5_4 x5_5 x5_6 ++ (wX4 cs h6 ra6 y6_0 y6_1 y6_2 y6_3 y6_4 x6_5 x6_6))))))) hV hA [] [0, 1, 2, 3, 4, 5, 6, 7, 8, 9, 10, 11, 12, 13, 14, 15, 16, 17, 18, 19, 20, 21, 22, 23, 24, 25, 26, 27, 28, 29] [0, 1, 2, 3, 4, 5, 6, 7, 8, 9, 10, 11, 12, 13, 14, 15, 16, 17, 18, 19, 20, 21, 22, 23, 24, 25, 26, 27, 28, 29] rfl rfl (by decide) (by decide) rfl (by decide)) (fun H locs hV => ?_)
    refine lv_if_ne (tgt := 20) hx hb dX11_done_15 (by decide) (fun hc => ?_) (fun hc => ?_)
    · have hf := hf_f hf hc
      refine lv_aload_n hx hb dX11_done_20 rfl (lv_at hl 0 rfl) ?_
      refine q_get (v := .ref h1) hC hK hV fl_X11_58 0 rfl rfl dX11_done_21 ?_
      refine lv_aload_n hx hb dX11_done_24 rfl (lv_at hl 0 rfl) ?_
      refine q_get (v := .ref h3) hC hK hV fl_X11_19 0 rfl rfl dX11_done_25 ?_
      refine q_get (v := .ref (ra3 2)) hC hK hV fl_X11_157 8 rfl rfl dX11_done_28 ?_
      refine lv_aload_n hx hb dX11_done_31 rfl (lv_at hl 0 rfl) ?_
      refine q_get (v := .ref h2) hC hK hV fl_X11_100 0 rfl rfl dX11_done_32 ?_
      refine q_get (v := .int x2_3) hC hK hV fl_X11_191 6 rfl rfl dX11_done_35 ?_
      obtain ⟨u3, hc3, hf⟩ := hf_b hf
      refine aft_v (run_v hC (k_X0_start l D cs h1 h3 ra1 (ra3 2) y1_1 y1_2 x1_3 x1_4 x1_5 x1_6 x1_7 x1_8 y1_9 x1_10 x1_11 x1_12 x1_13 x1_14 y3_2 x2_3 u3 H.size hc3) cd_X0_start cv_X0_start ml_X11_161 rfl rfl ⟨by decide, by decide⟩ hK hV (fr_pre hK hV [2, 3, 4, 5, 11] rfl (by decide)) (ci := 0) (q0 := 2) rfl rfl rfl rfl hl.1 rfl (Nat.le_of_ble_eq_true rfl) dX11_done_38) hV (va_free hV.2.1 hV.2.2 hA [2, 3, 4, 5, 11] rfl) (fr_jn (s := s) (wn := wY11 cs h0 o0_0 h3 h4 h5 h6 o0_3 o0_4 o0_5 o0_6 h1 o0_8 o0_9 o0_10 o0_11 o0_12 h2 o0_14 ra0 x0_15 ++ (wX0 cs h1 h3 ra1 u3.1 u3.2.1 u3.2.2.1 u3.2.2.2.1 u3.2.2.2.2.1 u3.2.2.2.2.2.1 u3.2.2.2.2.2.2.1 u3.2.2.2.2.2.2.2 y1_9 x1_10 x1_11 x1_12 x1_13 x1_14 ++ (wX1 cs h2 ra2 y2_0 x2_1 x2_2 x2_3 x2_4 ++ (wX10 cs h3 ra3 y3_0 y3_1 y3_2 x3_3 ++ (wX4 cs h4 ra4 y4_0 y4_1 y4_2 y4_3 y4_4 x4_5 x4_6 ++ (wX4 cs h5 ra5 y5_0 y5_1 y5_2 y5_3 y5_4 x5_5 x5_6 ++ (wX4 cs h6 ra6 y6_0 y6_1 y6_2 y6_3 y6_4 x6_5 x6_6))))))) hV hA [2, 3, 4, 5, 11] [0, 1, 6, 7, 8, 9, 10, 12, 13, 14, 15, 16, 17, 18, 19, 20, 21, 22, 23, 24, 25, 26, 27, 28, 29] [0, 1, 25, 26, 27, 28, 2, 3, 4, 5, 6, 29, 7, 8, 9, 10, 11, 12, 13, 14, 15, 16, 17, 18, 19, 20, 21, 22, 23, 24] rfl rfl (by decide) (by decide) rfl (by decide)) (fun H locs hV => ?_)
      refine lv_aload_n hx hb dX11_done_41 rfl (lv_at hl 0 rfl) ?_
      refine q_get (v := .ref h1) hC hK hV fl_X11_58 0 rfl rfl dX11_done_42 ?_
      refine lv_aload_n hx hb dX11_done_45 rfl (lv_at hl 0 rfl) ?_
      refine q_get (v := .ref (ra0 2)) hC hK hV fl_X11_25 0 rfl rfl dX11_done_46 ?_
      refine lv_iload_n hx hb dX11_done_49 rfl (lv_at hl 1 rfl) ?_
      by_cases ht4 : v1 = 0
      · have hf := hf_t hf ht4
        refine q_aald (j := 0) hC hK hV 1 rfl ht4 (by decide) rfl dX11_done_50 ?_
        refine lv_iload_n hx hb dX11_done_51 rfl (lv_at hl 2 rfl) ?_
        obtain ⟨u5, hc5, hf⟩ := hf_b hf
        refine aft_v (run_v hC (k_X0_go l D cs h1 ra1 h4 ra4 h3 ra3 u3.1 u3.2.1 u3.2.2.1 u3.2.2.2.1 u3.2.2.2.2.1 u3.2.2.2.2.2.1 u3.2.2.2.2.2.2.1 u3.2.2.2.2.2.2.2 y1_9 x1_10 x1_11 x1_12 x1_13 x1_14 y4_0 y4_1 y4_2 y4_3 y4_4 x4_5 x4_6 y3_0 y3_1 y3_2 x3_3 v2 u5 H.size hc5) cd_X0_go cv_X0_go ml_X11_165 rfl rfl ⟨by decide, by decide⟩ hK hV (fr_pre hK hV [2, 3, 4, 5, 12, 13, 14, 15, 16, 17, 8, 9, 10, 11] rfl (by decide)) (ci := 0) (q0 := 2) rfl rfl rfl rfl hl.1 rfl (Nat.le_of_ble_eq_true rfl) dX11_done_52) hV (va_free hV.2.1 hV.2.2 hA [2, 3, 4, 5, 12, 13, 14, 15, 16, 17, 8, 9, 10, 11] rfl) (fr_jn (s := s) (wn := wY11 cs h0 o0_0 h3 h4 h5 h6 o0_3 o0_4 o0_5 o0_6 h1 o0_8 o0_9 o0_10 o0_11 o0_12 h2 o0_14 ra0 x0_15 ++ (wX0 cs h1 h3 ra1 u3.1 u5.1 u5.2.1 u5.2.2.1 u5.2.2.2.1 u5.2.2.2.2.1 u5.2.2.2.2.2.1 u5.2.2.2.2.2.2.1 u5.2.2.2.2.2.2.2.1 u5.2.2.2.2.2.2.2.2.1 u5.2.2.2.2.2.2.2.2.2.1 u5.2.2.2.2.2.2.2.2.2.2.1 u5.2.2.2.2.2.2.2.2.2.2.2.1 u5.2.2.2.2.2.2.2.2.2.2.2.2 ++ (wX1 cs h2 ra2 y2_0 x2_1 x2_2 x2_3 x2_4 ++ (wX10 cs h3 ra3 y3_0 y3_1 y3_2 x3_3 ++ (wX4 cs h4 ra4 y4_0 y4_1 y4_2 y4_3 y4_4 x4_5 x4_6 ++ (wX4 cs h5 ra5 y5_0 y5_1 y5_2 y5_3 y5_4 x5_5 x5_6 ++ (wX4 cs h6 ra6 y6_0 y6_1 y6_2 y6_3 y6_4 x6_5 x6_6))))))) hV hA [2, 3, 4, 5, 12, 13, 14, 15, 16, 17, 8, 9, 10, 11] [0, 1, 6, 7, 18, 19, 20, 21, 22, 23, 24, 25, 26, 27, 28, 29] [0, 1, 16, 17, 18, 19, 2, 3, 26, 27, 28, 29, 20, 21, 22, 23, 24, 25, 4, 5, 6, 7, 8, 9, 10, 11, 12, 13, 14, 15] rfl rfl (by decide) (by decide) rfl (by decide)) (fun H locs hV => ?_)
        refine lv_aload_n hx hb dX11_done_55 rfl (lv_at hl 0 rfl) ?_
        refine q_get (v := .ref h1) hC hK hV fl_X11_58 0 rfl rfl dX11_done_56 ?_
        refine q_get (v := .ref (ra1 2)) hC hK hV fl_X11_188 2 rfl rfl dX11_done_59 ?_
        refine lv_aload_n hx hb dX11_done_62 rfl (lv_at hl 0 rfl) ?_
        refine q_get (v := .ref h3) hC hK hV fl_X11_19 0 rfl rfl dX11_done_63 ?_
        refine q_get (v := .ref (ra3 2)) hC hK hV fl_X11_157 8 rfl rfl dX11_done_66 ?_
        obtain ⟨u6, hc6, hf⟩ := hf_b hf
        refine aft_v (run_s hC (k_X11_copyMeasures l D cs (ra1 2) (ra3 2) u5.1 y3_2 u6 H.size hc6) cd_X11_copyMeasures st_X11_copyMeasures ml_X11_192 rfl rfl ⟨by decide, by decide⟩ (fr_pre hK hV [4, 11] rfl (by decide)) rfl hl.1 rfl (Nat.le_of_ble_eq_true rfl) dX11_done_69) hV (va_free hV.2.1 hV.2.2 hA [4, 11] rfl) (fr_jn (s := s) (wn := wY11 cs h0 o0_0 h3 h4 h5 h6 o0_3 o0_4 o0_5 o0_6 h1 o0_8 o0_9 o0_10 o0_11 o0_12 h2 o0_14 ra0 x0_15 ++ (wX0 cs h1 h3 ra1 u3.1 u5.1 u5.2.1 u5.2.2.1 u5.2.2.2.1 u5.2.2.2.2.1 u5.2.2.2.2.2.1 u5.2.2.2.2.2.2.1 u5.2.2.2.2.2.2.2.1 u5.2.2.2.2.2.2.2.2.1 u5.2.2.2.2.2.2.2.2.2.1 u5.2.2.2.2.2.2.2.2.2.2.1 u5.2.2.2.2.2.2.2.2.2.2.2.1 u5.2.2.2.2.2.2.2.2.2.2.2.2 ++ (wX1 cs h2 ra2 y2_0 x2_1 x2_2 x2_3 x2_4 ++ (wX10 cs h3 ra3 y3_0 y3_1 u6 x3_3 ++ (wX4 cs h4 ra4 y4_0 y4_1 y4_2 y4_3 y4_4 x4_5 x4_6 ++ (wX4 cs h5 ra5 y5_0 y5_1 y5_2 y5_3 y5_4 x5_5 x5_6 ++ (wX4 cs h6 ra6 y6_0 y6_1 y6_2 y6_3 y6_4 x6_5 x6_6))))))) hV hA [4, 11] [0, 1, 2, 3, 5, 6, 7, 8, 9, 10, 12, 13, 14, 15, 16, 17, 18, 19, 20, 21, 22, 23, 24, 25, 26, 27, 28, 29] [0, 1, 2, 3, 28, 4, 5, 6, 7, 8, 9, 29, 10, 11, 12, 13, 14, 15, 16, 17, 18, 19, 20, 21, 22, 23, 24, 25, 26, 27] rfl rfl (by decide) (by decide) rfl (by decide)) (fun H locs hV => ?_)
        refine lv_aload_n hx hb dX11_done_72 rfl (lv_at hl 0 rfl) ?_
        refine q_get (v := .ref h2) hC hK hV fl_X11_100 0 rfl rfl dX11_done_73 ?_
        refine lv_dup hx hb dX11_done_76 rfl ?_
        refine q_get (v := .int x2_1) hC hK hV fl_X11_196 6 rfl rfl dX11_done_77 ?_
        refine lv_aload_n hx hb dX11_done_80 rfl (lv_at hl 0 rfl) ?_
        refine q_get (v := .ref h1) hC hK hV fl_X11_58 0 rfl rfl dX11_done_81 ?_
        refine q_get (v := .int u5.2.1) hC hK hV fl_X11_175 2 rfl rfl dX11_done_84 ?_
        refine lv_iadd hx hb dX11_done_87 ?_
        refine q_puti (wn := wY11 cs h0 o0_0 h3 h4 h5 h6 o0_3 o0_4 o0_5 o0_6 h1 o0_8 o0_9 o0_10 o0_11 o0_12 h2 o0_14 ra0 x0_15 ++ (wX0 cs h1 h3 ra1 u3.1 u5.1 u5.2.1 u5.2.2.1 u5.2.2.2.1 u5.2.2.2.2.1 u5.2.2.2.2.2.1 u5.2.2.2.2.2.2.1 u5.2.2.2.2.2.2.2.1 u5.2.2.2.2.2.2.2.2.1 u5.2.2.2.2.2.2.2.2.2.1 u5.2.2.2.2.2.2.2.2.2.2.1 u5.2.2.2.2.2.2.2.2.2.2.2.1 u5.2.2.2.2.2.2.2.2.2.2.2.2 ++ (wX1 cs h2 ra2 y2_0 (x2_1 + u5.2.1) x2_2 x2_3 x2_4 ++ (wX10 cs h3 ra3 y3_0 y3_1 u6 x3_3 ++ (wX4 cs h4 ra4 y4_0 y4_1 y4_2 y4_3 y4_4 x4_5 x4_6 ++ (wX4 cs h5 ra5 y5_0 y5_1 y5_2 y5_3 y5_4 x5_5 x5_6 ++ (wX4 cs h6 ra6 y6_0 y6_1 y6_2 y6_3 y6_4 x6_5 x6_6))))))) hC hK hV fl_X11_196 ptX1 rfl rfl 6 rfl (Nat.le_of_ble_eq_true rfl) rfl dX11_done_88 (fun H locs hV => ?_)
        refine lv_aload_n hx hb dX11_done_91 rfl (lv_at hl 0 rfl) ?_
        refine q_get (v := .ref h2) hC hK hV fl_X11_100 0 rfl rfl dX11_done_92 ?_
        refine lv_dup hx hb dX11_done_95 rfl ?_
        refine q_get (v := .int x2_2) hC hK hV fl_X11_197 6 rfl rfl dX11_done_96 ?_
        refine lv_aload_n hx hb dX11_done_99 rfl (lv_at hl 0 rfl) ?_
        refine q_get (v := .ref h1) hC hK hV fl_X11_58 0 rfl rfl dX11_done_100 ?_
        refine q_get (v := .int u5.2.2.1) hC hK hV fl_X11_178 2 rfl rfl dX11_done_103 ?_
        refine lv_iadd hx hb dX11_done_106 ?_
        refine q_puti (wn := wY11 cs h0 o0_0 h3 h4 h5 h6 o0_3 o0_4 o0_5 o0_6 h1 o0_8 o0_9 o0_10 o0_11 o0_12 h2 o0_14 ra0 x0_15 ++ (wX0 cs h1 h3 ra1 u3.1 u5.1 u5.2.1 u5.2.2.1 u5.2.2.2.1 u5.2.2.2.2.1 u5.2.2.2.2.2.1 u5.2.2.2.2.2.2.1 u5.2.2.2.2.2.2.2.1 u5.2.2.2.2.2.2.2.2.1 u5.2.2.2.2.2.2.2.2.2.1 u5.2.2.2.2.2.2.2.2.2.2.1 u5.2.2.2.2.2.2.2.2.2.2.2.1 u5.2.2.2.2.2.2.2.2.2.2.2.2 ++ (wX1 cs h2 ra2 y2_0 (x2_1 + u5.2.1) (x2_2 + u5.2.2.1) x2_3 x2_4 ++ (wX10 cs h3 ra3 y3_0 y3_1 u6 x3_3 ++ (wX4 cs h4 ra4 y4_0 y4_1 y4_2 y4_3 y4_4 x4_5 x4_6 ++ (wX4 cs h5 ra5 y5_0 y5_1 y5_2 y5_3 y5_4 x5_5 x5_6 ++ (wX4 cs h6 ra6 y6_0 y6_1 y6_2 y6_3 y6_4 x6_5 x6_6))))))) hC hK hV fl_X11_197 ptX1 rfl rfl 6 rfl (Nat.le_of_ble_eq_true rfl) rfl dX11_done_107 (fun H locs hV => ?_)
        refine lv_aload_n hx hb dX11_done_110 rfl (lv_at hl 0 rfl) ?_
        refine q_get (v := .ref h2) hC hK hV fl_X11_100 0 rfl rfl dX11_done_111 ?_
        refine lv_aload_n hx hb dX11_done_114 rfl (lv_at hl 0 rfl) ?_
        refine q_get (v := .ref h1) hC hK hV fl_X11_58 0 rfl rfl dX11_done_115 ?_
        refine q_get (v := .int u5.2.2.2.1) hC hK hV fl_X11_181 2 rfl rfl dX11_done_118 ?_
        refine q_puti (wn := wY11 cs h0 o0_0 h3 h4 h5 h6 o0_3 o0_4 o0_5 o0_6 h1 o0_8 o0_9 o0_10 o0_11 o0_12 h2 o0_14 ra0 x0_15 ++ (wX0 cs h1 h3 ra1 u3.1 u5.1 u5.2.1 u5.2.2.1 u5.2.2.2.1 u5.2.2.2.2.1 u5.2.2.2.2.2.1 u5.2.2.2.2.2.2.1 u5.2.2.2.2.2.2.2.1 u5.2.2.2.2.2.2.2.2.1 u5.2.2.2.2.2.2.2.2.2.1 u5.2.2.2.2.2.2.2.2.2.2.1 u5.2.2.2.2.2.2.2.2.2.2.2.1 u5.2.2.2.2.2.2.2.2.2.2.2.2 ++ (wX1 cs h2 ra2 y2_0 (x2_1 + u5.2.1) (x2_2 + u5.2.2.1) u5.2.2.2.1 x2_4 ++ (wX10 cs h3 ra3 y3_0 y3_1 u6 x3_3 ++ (wX4 cs h4 ra4 y4_0 y4_1 y4_2 y4_3 y4_4 x4_5 x4_6 ++ (wX4 cs h5 ra5 y5_0 y5_1 y5_2 y5_3 y5_4 x5_5 x5_6 ++ (wX4 cs h6 ra6 y6_0 y6_1 y6_2 y6_3 y6_4 x6_5 x6_6))))))) hC hK hV fl_X11_191 ptX1 rfl rfl 6 rfl (Nat.le_of_ble_eq_true rfl) rfl dX11_done_121 (fun H locs hV => ?_)
        refine lv_aload_n hx hb dX11_done_124 rfl (lv_at hl 0 rfl) ?_
        refine q_get (v := .ref h1) hC hK hV fl_X11_58 0 rfl rfl dX11_done_125 ?_
        refine q_get (v := .int u5.2.2.2.2.2.2.1) hC hK hV fl_X11_169 2 rfl rfl dX11_done_128 ?_
        obtain rfl := Option.some.inj hf
        exact q_ret hC hr hlocks hV dX11_done_131
      have hf := hf_f hf ht4
      by_cases ht7 : v1 = 1
      · have hf := hf_t hf ht7
        refine q_aald (j := 1) hC hK hV 1 rfl ht7 (by decide) rfl dX11_done_50 ?_
        refine lv_iload_n hx hb dX11_done_51 rfl (lv_at hl 2 rfl) ?_
        obtain ⟨u8, hc8, hf⟩ := hf_b hf
        refine aft_v (run_v hC (k_X0_go l D cs h1 ra1 h5 ra5 h3 ra3 u3.1 u3.2.1 u3.2.2.1 u3.2.2.2.1 u3.2.2.2.2.1 u3.2.2.2.2.2.1 u3.2.2.2.2.2.2.1 u3.2.2.2.2.2.2.2 y1_9 x1_10 x1_11 x1_12 x1_13 x1_14 y5_0 y5_1 y5_2 y5_3 y5_4 x5_5 x5_6 y3_0 y3_1 y3_2 x3_3 v2 u8 H.size hc8) cd_X0_go cv_X0_go ml_X11_165 rfl rfl ⟨by decide, by decide⟩ hK hV (fr_pre hK hV [2, 3, 4, 5, 18, 19, 20, 21, 22, 23, 8, 9, 10, 11] rfl (by decide)) (ci := 0) (q0 := 2) rfl rfl rfl rfl hl.1 rfl (Nat.le_of_ble_eq_true rfl) dX11_done_52) hV (va_free hV.2.1 hV.2.2 hA [2, 3, 4, 5, 18, 19, 20, 21, 22, 23, 8, 9, 10, 11] rfl) (fr_jn (s := s) (wn := wY11 cs h0 o0_0 h3 h4 h5 h6 o0_3 o0_4 o0_5 o0_6 h1 o0_8 o0_9 o0_10 o0_11 o0_12 h2 o0_14 ra0 x0_15 ++ (wX0 cs h1 h3 ra1 u3.1 u8.1 u8.2.1 u8.2.2.1 u8.2.2.2.1 u8.2.2.2.2.1 u8.2.2.2.2.2.1 u8.2.2.2.2.2.2.1 u8.2.2.2.2.2.2.2.1 u8.2.2.2.2.2.2.2.2.1 u8.2.2.2.2.2.2.2.2.2.1 u8.2.2.2.2.2.2.2.2.2.2.1 u8.2.2.2.2.2.2.2.2.2.2.2.1 u8.2.2.2.2.2.2.2.2.2.2.2.2 ++ (wX1 cs h2 ra2 y2_0 x2_1 x2_2 x2_3 x2_4 ++ (wX10 cs h3 ra3 y3_0 y3_1 y3_2 x3_3 ++ (wX4 cs h4 ra4 y4_0 y4_1 y4_2 y4_3 y4_4 x4_5 x4_6 ++ (wX4 cs h5 ra5 y5_0 y5_1 y5_2 y5_3 y5_4 x5_5 x5_6 ++ (wX4 cs h6 ra6 y6_0 y6_1 y6_2 y6_3 y6_4 x6_5 x6_6))))))) hV hA [2, 3, 4, 5, 18, 19, 20, 21, 22, 23, 8, 9, 10, 11] [0, 1, 6, 7, 12, 13, 14, 15, 16, 17, 24, 25, 26, 27, 28, 29] [0, 1, 16, 17, 18, 19, 2, 3, 26, 27, 28, 29, 4, 5, 6, 7, 8, 9, 20, 21, 22, 23, 24, 25, 10, 11, 12, 13, 14, 15] rfl rfl (by decide) (by decide) rfl (by decide)) (fun H locs hV => ?_)
        refine lv_aload_n hx hb dX11_done_55 rfl (lv_at hl 0 rfl) ?_
        refine q_get (v := .ref h1) hC hK hV fl_X11_58 0 rfl rfl dX11_done_56 ?_
        refine q_get (v := .ref (ra1 2)) hC hK hV fl_X11_188 2 rfl rfl dX11_done_59 ?_
        refine lv_aload_n hx hb dX11_done_62 rfl (lv_at hl 0 rfl) ?_
        refine q_get (v := .ref h3) hC hK hV fl_X11_19 0 rfl rfl dX11_done_63 ?_
        refine q_get (v := .ref (ra3 2)) hC hK hV fl_X11_157 8 rfl rfl dX11_done_66 ?_
        obtain ⟨u9, hc9, hf⟩ := hf_b hf
        refine aft_v (run_s hC (k_X11_copyMeasures l D cs (ra1 2) (ra3 2) u8.1 y3_2 u9 H.size hc9) cd_X11_copyMeasures st_X11_copyMeasures ml_X11_192 rfl rfl ⟨by decide, by decide⟩ (fr_pre hK hV [4, 11] rfl (by decide)) rfl hl.1 rfl (Nat.le_of_ble_eq_true rfl) dX11_done_69) hV (va_free hV.2.1 hV.2.2 hA [4, 11] rfl) (fr_jn (s := s) (wn := wY11 cs h0 o0_0 h3 h4 h5 h6 o0_3 o0_4 o0_5 o0_6 h1 o0_8 o0_9 o0_10 o0_11 o0_12 h2 o0_14 ra0 x0_15 ++ (wX0 cs h1 h3 ra1 u3.1 u8.1 u8.2.1 u8.2.2.1 u8.2.2.2.1 u8.2.2.2.2.1 u8.2.2.2.2.2.1 u8.2.2.2.2.2.2.1 u8.2.2.2.2.2.2.2.1 u8.2.2.2.2.2.2.2.2.1 u8.2.2.2.2.2.2.2.2.2.1 u8.2.2.2.2.2.2.2.2.2.2.1 u8.2.2.2.2.2.2.2.2.2.2.2.1 u8.2.2.2.2.2.2.2.2.2.2.2.2 ++ (wX1 cs h2 ra2 y2_0 x2_1 x2_2 x2_3 x2_4 ++ (wX10 cs h3 ra3 y3_0 y3_1 u9 x3_3 ++ (wX4 cs h4 ra4 y4_0 y4_1 y4_2 y4_3 y4_4 x4_5 x4_6 ++ (wX4 cs h5 ra5 y5_0 y5_1 y5_2 y5_3 y5_4 x5_5 x5_6 ++ (wX4 cs h6 ra6 y6_0 y6_1 y6_2 y6_3 y6_4 x6_5 x6_6))))))) hV hA [4, 11] [0, 1, 2, 3, 5, 6, 7, 8, 9, 10, 12, 13, 14, 15, 16, 17, 18, 19, 20, 21, 22, 23, 24, 25, 26, 27, 28, 29] [0, 1, 2, 3, 28, 4, 5, 6, 7, 8, 9, 29, 10, 11, 12, 13, 14, 15, 16, 17, 18, 19, 20, 21, 22, 23, 24, 25, 26, 27] rfl rfl (by decide) (by decide) rfl (by decide)) (fun H locs hV => ?_)
        refine lv_aload_n hx hb dX11_done_72 rfl (lv_at hl 0 rfl) ?_
        refine q_get (v := .ref h2) hC hK hV fl_X11_100 0 rfl rfl dX11_done_73 ?_
        refine lv_dup hx hb dX11_done_76 rfl ?_
        refine q_get (v := .int x2_1) hC hK hV fl_X11_196 6 rfl rfl dX11_done_77 ?_
        refine lv_aload_n hx hb dX11_done_80 rfl (lv_at hl 0 rfl) ?_
        refine q_get (v := .ref h1) hC hK hV fl_X11_58 0 rfl rfl dX11_done_81 ?_
        refine q_get (v := .int u8.2.1) hC hK hV fl_X11_175 2 rfl rfl dX11_done_84 ?_
        refine lv_iadd hx hb dX11_done_87 ?_
        refine q_puti (wn := wY11 cs h0 o0_0 h3 h4 h5 h6 o0_3 o0_4 o0_5 o0_6 h1 o0_8 o0_9 o0_10 o0_11 o0_12 h2 o0_14 ra0 x0_15 ++ (wX0 cs h1 h3 ra1 u3.1 u8.1 u8.2.1 u8.2.2.1 u8.2.2.2.1 u8.2.2.2.2.1 u8.2.2.2.2.2.1 u8.2.2.2.2.2.2.1 u8.2.2.2.2.2.2.2.1 u8.2.2.2.2.2.2.2.2.1 u8.2.2.2.2.2.2.2.2.2.1 u8.2.2.2.2.2.2.2.2.2.2.1 u8.2.2.2.2.2.2.2.2.2.2.2.1 u8.2.2.2.2.2.2.2.2.2.2.2.2 ++ (wX1 cs h2 ra2 y2_0 (x2_1 + u8.2.1) x2_2 x2_3 x2_4 ++ (wX10 cs h3 ra3 y3_0 y3_1 u9 x3_3 ++ (wX4 cs h4 ra4 y4_0 y4_1 y4_2 y4_3 y4_4 x4_5 x4_6 ++ (wX4 cs h5 ra5 y5_0 y5_1 y5_2 y5_3 y5_4 x5_5 x5_6 ++ (wX4 cs h6 ra6 y6_0 y6_1 y6_2 y6_3 y6_4 x6_5 x6_6))))))) hC hK hV fl_X11_196 ptX1 rfl rfl 6 rfl (Nat.le_of_ble_eq_true rfl) rfl dX11_done_88 (fun H locs hV => ?_)
        refine lv_aload_n hx hb dX11_done_91 rfl (lv_at hl 0 rfl) ?_
        refine q_get (v := .ref h2) hC hK hV fl_X11_100 0 rfl rfl dX11_done_92 ?_
        refine lv_dup hx hb dX11_done_95 rfl ?_
        refine q_get (v := .int x2_2) hC hK hV fl_X11_197 6 rfl rfl dX11_done_96 ?_
        refine lv_aload_n hx hb dX11_done_99 rfl (lv_at hl 0 rfl) ?_
        refine q_get (v := .ref h1) hC hK hV fl_X11_58 0 rfl rfl dX11_done_100 ?_
        refine q_get (v := .int u8.2.2.1) hC hK hV fl_X11_178 2 rfl rfl dX11_done_103 ?_
        refine lv_iadd hx hb dX11_done_106 ?_
        refine q_puti (wn := wY11 cs h0 o0_0 h3 h4 h5 h6 o0_3 o0_4 o0_5 o0_6 h1 o0_8 o0_9 o0_10 o0_11 o0_12 h2 o0_14 ra0 x0_15 ++ (wX0 cs h1 h3 ra1 u3.1 u8.1 u8.2.1 u8.2.2.1 u8.2.2.2.1 u8.2.2.2.2.1 u8.2.2.2.2.2.1 u8.2.2.2.2.2.2.1 u8.2.2.2.2.2.2.2.1 u8.2.2.2.2.2.2.2.2.1 u8.2.2.2.2.2.2.2.2.2.1 u8.2.2.2.2.2.2.2.2.2.2.1 u8.2.2.2.2.2.2.2.2.2.2.2.1 u8.2.2.2.2.2.2.2.2.2.2.2.2 ++ (wX1 cs h2 ra2 y2_0 (x2_1 + u8.2.1) (x2_2 + u8.2.2.1) x2_3 x2_4 ++ (wX10 cs h3 ra3 y3_0 y3_1 u9 x3_3 ++ (wX4 cs h4 ra4 y4_0 y4_1 y4_2 y4_3 y4_4 x4_5 x4_6 ++ (wX4 cs h5 ra5 y5_0 y5_1 y5_2 y5_3 y5_4 x5_5 x5_6 ++ (wX4 cs h6 ra6 y6_0 y6_1 y6_2 y6_3 y6_4 x6_5 x6_6))))))) hC hK hV fl_X11_197 ptX1 rfl rfl 6 rfl (Nat.le_of_ble_eq_true rfl) rfl dX11_done_107 (fun H locs hV => ?_)
        refine lv_aload_n hx hb dX11_done_110 rfl (lv_at hl 0 rfl) ?_
        refine q_get (v := .ref h2) hC hK hV fl_X11_100 0 rfl rfl dX11_done_111 ?_
        refine lv_aload_n hx hb dX11_done_114 rfl (lv_at hl 0 rfl) ?_
        refine q_get (v := .ref h1) hC hK hV fl_X11_58 0 rfl rfl dX11_done_115 ?_
        refine q_get (v := .int u8.2.2.2.1) hC hK hV fl_X11_181 2 rfl rfl dX11_done_118 ?_
        refine q_puti (wn := wY11 cs h0 o0_0 h3 h4 h5 h6 o0_3 o0_4 o0_5 o0_6 h1 o0_8 o0_9 o0_10 o0_11 o0_12 h2 o0_14 ra0 x0_15 ++ (wX0 cs h1 h3 ra1 u3.1 u8.1 u8.2.1 u8.2.2.1 u8.2.2.2.1 u8.2.2.2.2.1 u8.2.2.2.2.2.1 u8.2.2.2.2.2.2.1 u8.2.2.2.2.2.2.2.1 u8.2.2.2.2.2.2.2.2.1 u8.2.2.2.2.2.2.2.2.2.1 u8.2.2.2.2.2.2.2.2.2.2.1 u8.2.2.2.2.2.2.2.2.2.2.2.1 u8.2.2.2.2.2.2.2.2.2.2.2.2 ++ (wX1 cs h2 ra2 y2_0 (x2_1 + u8.2.1) (x2_2 + u8.2.2.1) u8.2.2.2.1 x2_4 ++ (wX10 cs h3 ra3 y3_0 y3_1 u9 x3_3 ++ (wX4 cs h4 ra4 y4_0 y4_1 y4_2 y4_3 y4_4 x4_5 x4_6 ++ (wX4 cs h5 ra5 y5_0 y5_1 y5_2 y5_3 y5_4 x5_5 x5_6 ++ (wX4 cs h6 ra6 y6_0 y6_1 y6_2 y6_3 y6_4 x6_5 x6_6))))))) hC hK hV fl_X11_191 ptX1 rfl rfl 6 rfl (Nat.le_of_ble_eq_true rfl) rfl dX11_done_121 (fun H locs hV => ?_)
        refine lv_aload_n hx hb dX11_done_124 rfl (lv_at hl 0 rfl) ?_
        refine q_get (v := .ref h1) hC hK hV fl_X11_58 0 rfl rfl dX11_done_125 ?_
        refine q_get (v := .int u8.2.2.2.2.2.2.1) hC hK hV fl_X11_169 2 rfl rfl dX11_done_128 ?_
        obtain rfl := Option.some.inj hf
        exact q_ret hC hr hlocks hV dX11_done_131
      have hf := hf_f hf ht7
      by_cases ht10 : v1 = 2
      · have hf := hf_t hf ht10
        refine q_aald (j := 2) hC hK hV 1 rfl ht10 (by decide) rfl dX11_done_50 ?_
        refine lv_iload_n hx hb dX11_done_51 rfl (lv_at hl 2 rfl) ?_
        obtain ⟨u11, hc11, hf⟩ := hf_b hf
        refine aft_v (run_v hC (k_X0_go l D cs h1 ra1 h6 ra6 h3 ra3 u3.1 u3.2.1 u3.2.2.1 u3.2.2.2.1 u3.2.2.2.2.1 u3.2.2.2.2.2.1 u3.2.2.2.2.2.2.1 u3.2.2.2.2.2.2.2 y1_9 x1_10 x1_11 x1_12 x1_13 x1_14 y6_0 y6_1 y6_2 y6_3 y6_4 x6_5 x6_6 y3_0 y3_1 y3_2 x3_3 v2 u11 H.size hc11) cd_X0_go cv_X0_go ml_X11_165 rfl rfl ⟨by decide, by decide⟩ hK hV (fr_pre hK hV [2, 3, 4, 5, 24, 25, 26, 27, 28, 29, 8, 9, 10, 11] rfl (by decide)) (ci := 0) (q0 := 2) rfl rfl rfl rfl hl.1 rfl (Nat.le_of_ble_eq_true rfl) dX11_done_52) hV (va_free hV.2.1 hV.2.2 hA [2, 3, 4, 5, 24, 25, 26, 27, 28, 29, 8, 9, 10, 11] rfl) (fr_jn (s := s) (wn := wY11 cs h0 o0_0 h3 h4 h5 h6 o0_3 o0_4 o0_5 o0_6 h1 o0_8 o0_9 o0_10 o0_11 o0_12 h2 o0_14 ra0 x0_15 ++ (wX0 cs h1 h3 ra1 u3.1 u11.1 u11.2.1 u11.2.2.1 u11.2.2.2.1 u11.2.2.2.2.1 u11.2.2.2.2.2.1 u11.2.2.2.2.2.2.1 u11.2.2.2.2.2.2.2.1 u11.2.2.2.2.2.2.2.2.1 u11.2.2.2.2.2.2.2.2.2.1 u11.2.2.2.2.2.2.2.2.2.2.1 u11.2.2.2.2.2.2.2.2.2.2.2.1 u11.2.2.2.2.2.2.2.2.2.2.2.2 ++ (wX1 cs h2 ra2 y2_0 x2_1 x2_2 x2_3 x2_4 ++ (wX10 cs h3 ra3 y3_0 y3_1 y3_2 x3_3 ++ (wX4 cs h4 ra4 y4_0 y4_1 y4_2 y4_3 y4_4 x4_5 x4_6 ++ (wX4 cs h5 ra5 y5_0 y5_1 y5_2 y5_3 y5_4 x5_5 x5_6 ++ (wX4 cs h6 ra6 y6_0 y6_1 y6_2 y6_3 y6_4 x6_5 x6_6))))))) hV hA [2, 3, 4, 5, 24, 25, 26, 27, 28, 29, 8, 9, 10, 11] [0, 1, 6, 7, 12, 13, 14, 15, 16, 17, 18, 19, 20, 21, 22, 23] [0, 1, 16, 17, 18, 19, 2, 3, 26, 27, 28, 29, 4, 5, 6, 7, 8, 9, 10, 11, 12, 13, 14, 15, 20, 21, 22, 23, 24, 25] rfl rfl (by decide) (by decide) rfl (by decide)) (fun H locs hV => ?_)
        refine lv_aload_n hx hb dX11_done_55 rfl (lv_at hl 0 rfl) ?_
        refine q_get (v := .ref h1) hC hK hV fl_X11_58 0 rfl rfl dX11_done_56 ?_
        refine q_get (v := .ref (ra1 2)) hC hK hV fl_X11_188 2 rfl rfl dX11_done_59 ?_
        refine lv_aload_n hx hb dX11_done_62 rfl (lv_at hl 0 rfl) ?_
        refine q_get (v := .ref h3) hC hK hV fl_X11_19 0 rfl rfl dX11_done_63 ?_
        refine q_get (v := .ref (ra3 2)) hC hK hV fl_X11_157 8 rfl rfl dX11_done_66 ?_
        obtain ⟨u12, hc12, hf⟩ := hf_b hf
        refine aft_v (run_s hC (k_X11_copyMeasures l D cs (ra1 2) (ra3 2) u11.1 y3_2 u12 H.size hc12) cd_X11_copyMeasures st_X11_copyMeasures ml_X11_192 rfl rfl ⟨by decide, by decide⟩ (fr_pre hK hV [4, 11] rfl (by decide)) rfl hl.1 rfl (Nat.le_of_ble_eq_true rfl) dX11_done_69) hV (va_free hV.2.1 hV.2.2 hA [4, 11] rfl) (fr_jn (s := s) (wn := wY11 cs h0 o0_0 h3 h4 h5 h6 o0_3 o0_4 o0_5 o0_6 h1 o0_8 o0_9 o0_10 o0_11 o0_12 h2 o0_14 ra0 x0_15 ++ (wX0 cs h1 h3 ra1 u3.1 u11.1 u11.2.1 u11.2.2.1 u11.2.2.2.1 u11.2.2.2.2.1 u11.2.2.2.2.2.1 u11.2.2.2.2.2.2.1 u11.2.2.2.2.2.2.2.1 u11.2.2.2.2.2.2.2.2.1 u11.2.2.2.2.2.2.2.2.2.1 u11.2.2.2.2.2.2.2.2.2.2.1 u11.2.2.2.2.2.2.2.2.2.2.2.1 u11.2.2.2.2.2.2.2.2.2.2.2.2 ++ (wX1 cs h2 ra2 y2_0 x2_1 x2_2 x2_3 x2_4 ++ (wX10 cs h3 ra3 y3_0 y3_1 u12 x3_3 ++ (wX4 cs h4 ra4 y4_0 y4_1 y4_2 y4_3 y4_4 x4_5 x4_6 ++ (wX4 cs h5 ra5 y5_0 y5_1 y5_2 y5_3 y5_4 x5_5 x5_6 ++ (wX4 cs h6 ra6 y6_0 y6_1 y6_2 y6_3 y6_4 x6_5 x6_6))))))) hV hA [4, 11] [0, 1, 2, 3, 5, 6, 7, 8, 9, 10, 12, 13, 14, 15, 16, 17, 18, 19, 20, 21, 22, 23, 24, 25, 26, 27, 28, 29] [0, 1, 2, 3, 28, 4, 5, 6, 7, 8, 9, 29, 10, 11, 12, 13, 14, 15, 16, 17, 18, 19, 20, 21, 22, 23, 24, 25, 26, 27] rfl rfl (by decide) (by decide) rfl (by decide)) (fun H locs hV => ?_)
        refine lv_aload_n hx hb dX11_done_72 rfl (lv_at hl 0 rfl) ?_
        refine q_get (v := .ref h2) hC hK hV fl_X11_100 0 rfl rfl dX11_done_73 ?_
        refine lv_dup hx hb dX11_done_76 rfl ?_
        refine q_get (v := .int x2_1) hC hK hV fl_X11_196 6 rfl rfl dX11_done_77 ?_
        refine lv_aload_n hx hb dX11_done_80 rfl (lv_at hl 0 rfl) ?_
        refine q_get (v := .ref h1) hC hK hV fl_X11_58 0 rfl rfl dX11_done_81 ?_
        refine q_get (v := .int u11.2.1) hC hK hV fl_X11_175 2 rfl rfl dX11_done_84 ?_
        refine lv_iadd hx hb dX11_done_87 ?_
        refine q_puti (wn := wY11 cs h0 o0_0 h3 h4 h5 h6 o0_3 o0_4 o0_5 o0_6 h1 o0_8 o0_9 o0_10 o0_11 o0_12 h2 o0_14 ra0 x0_15 ++ (wX0 cs h1 h3 ra1 u3.1 u11.1 u11.2.1 u11.2.2.1 u11.2.2.2.1 u11.2.2.2.2.1 u11.2.2.2.2.2.1 u11.2.2.2.2.2.2.1 u11.2.2.2.2.2.2.2.1 u11.2.2.2.2.2.2.2.2.1 u11.2.2.2.2.2.2.2.2.2.1 u11.2.2.2.2.2.2.2.2.2.2.1 u11.2.2.2.2.2.2.2.2.2.2.2.1 u11.2.2.2.2.2.2.2.2.2.2.2.2 ++ (wX1 cs h2 ra2 y2_0 (x2_1 + u11.2.1) x2_2 x2_3 x2_4 ++ (wX10 cs h3 ra3 y3_0 y3_1 u12 x3_3 ++ (wX4 cs h4 ra4 y4_0 y4_1 y4_2 y4_3 y4_4 x4_5 x4_6 ++ (wX4 cs h5 ra5 y5_0 y5_1 y5_2 y5_3 y5_4 x5_5 x5_6 ++ (wX4 cs h6 ra6 y6_0 y6_1 y6_2 y6_3 y6_4 x6_5 x6_6))))))) hC hK hV fl_X11_196 ptX1 rfl rfl 6 rfl (Nat.le_of_ble_eq_true rfl) rfl dX11_done_88 (fun H locs hV => ?_)
        refine lv_aload_n hx hb dX11_done_91 rfl (lv_at hl 0 rfl) ?_
        refine q_get (v := .ref h2) hC hK hV fl_X11_100 0 rfl rfl dX11_done_92 ?_
        refine lv_dup hx hb dX11_done_95 rfl ?_
        refine q_get (v := .int x2_2) hC hK hV fl_X11_197 6 rfl rfl dX11_done_96 ?_
        refine lv_aload_n hx hb dX11_done_99 rfl (lv_at hl 0 rfl) ?_
        refine q_get (v := .ref h1) hC hK hV fl_X11_58 0 rfl rfl dX11_done_100 ?_
        refine q_get (v := .int u11.2.2.1) hC hK hV fl_X11_178 2 rfl rfl dX11_done_103 ?_
        refine lv_iadd hx hb dX11_done_106 ?_
        refine q_puti (wn := wY11 cs h0 o0_0 h3 h4 h5 h6 o0_3 o0_4 o0_5 o0_6 h1 o0_8 o0_9 o0_10 o0_11 o0_12 h2 o0_14 ra0 x0_15 ++ (wX0 cs h1 h3 ra1 u3.1 u11.1 u11.2.1 u11.2.2.1 u11.2.2.2.1 u11.2.2.2.2.1 u11.2.2.2.2.2.1 u11.2.2.2.2.2.2.1 u11.2.2.2.2.2.2.2.1 u11.2.2.2.2.2.2.2.2.1 u11.2.2.2.2.2.2.2.2.2.1 u11.2.2.2.2.2.2.2.2.2.2.1 u11.2.2.2.2.2.2.2.2.2.2.2.1 u11.2.2.2.2.2.2.2.2.2.2.2.2 ++ (wX1 cs h2 ra2 y2_0 (x2_1 + u11.2.1) (x2_2 + u11.2.2.1) x2_3 x2_4 ++ (wX10 cs h3 ra3 y3_0 y3_1 u12 x3_3 ++ (wX4 cs h4 ra4 y4_0 y4_1 y4_2 y4_3 y4_4 x4_5 x4_6 ++ (wX4 cs h5 ra5 y5_0 y5_1 y5_2 y5_3 y5_4 x5_5 x5_6 ++ (wX4 cs h6 ra6 y6_0 y6_1 y6_2 y6_3 y6_4 x6_5 x6_6))))))) hC hK hV fl_X11_197 ptX1 rfl rfl 6 rfl (Nat.le_of_ble_eq_true rfl) rfl dX11_done_107 (fun H locs hV => ?_)
        refine lv_aload_n hx hb dX11_done_110 rfl (lv_at hl 0 rfl) ?_
        refine q_get (v := .ref h2) hC hK hV fl_X11_100 0 rfl rfl dX11_done_111 ?_
        refine lv_aload_n hx hb dX11_done_114 rfl (lv_at hl 0 rfl) ?_
        refine q_get (v := .ref h1) hC hK hV fl_X11_58 0 rfl rfl dX11_done_115 ?_
        refine q_get (v := .int u11.2.2.2.1) hC hK hV fl_X11_181 2 rfl rfl dX11_done_118 ?_
        refine q_puti (wn := wY11 cs h0 o0_0 h3 h4 h5 h6 o0_3 o0_4 o0_5 o0_6 h1 o0_8 o0_9 o0_10 o0_11 o0_12 h2 o0_14 ra0 x0_15 ++ (wX0 cs h1 h3 ra1 u3.1 u11.1 u11.2.1 u11.2.2.1 u11.2.2.2.1 u11.2.2.2.2.1 u11.2.2.2.2.2.1 u11.2.2.2.2.2.2.1 u11.2.2.2.2.2.2.2.1 u11.2.2.2.2.2.2.2.2.1 u11.2.2.2.2.2.2.2.2.2.1 u11.2.2.2.2.2.2.2.2.2.2.1 u11.2.2.2.2.2.2.2.2.2.2.2.1 u11.2.2.2.2.2.2.2.2.2.2.2.2 ++ (wX1 cs h2 ra2 y2_0 (x2_1 + u11.2.1) (x2_2 + u11.2.2.1) u11.2.2.2.1 x2_4 ++ (wX10 cs h3 ra3 y3_0 y3_1 u12 x3_3 ++ (wX4 cs h4 ra4 y4_0 y4_1 y4_2 y4_3 y4_4 x4_5 x4_6 ++ (wX4 cs h5 ra5 y5_0 y5_1 y5_2 y5_3 y5_4 x5_5 x5_6 ++ (wX4 cs h6 ra6 y6_0 y6_1 y6_2 y6_3 y6_4 x6_5 x6_6))))))) hC hK hV fl_X11_191 ptX1 rfl rfl 6 rfl (Nat.le_of_ble_eq_true rfl) rfl dX11_done_121 (fun H locs hV => ?_)
        refine lv_aload_n hx hb dX11_done_124 rfl (lv_at hl 0 rfl) ?_
        refine q_get (v := .ref h1) hC hK hV fl_X11_58 0 rfl rfl dX11_done_125 ?_
        refine q_get (v := .int u11.2.2.2.2.2.2.1) hC hK hV fl_X11_169 2 rfl rfl dX11_done_128 ?_
        obtain rfl := Option.some.inj hf
        exact q_ret hC hr hlocks hV dX11_done_131
      have hf := hf_f hf ht10
      exact hf_no (show (none : Option (Int32 × (Nat → Int32) × (Nat → Int32) × Int32 × Int32 × Int32 × Int32 × Int32 × Int32 × (Nat → Int32) × Int32 × Int32 × Int32 × Int32 × Int32 × Int32 × Int32 × Int32 × (Nat → Int32))) = some u from hf)
    · have hf := hf_t hf hc
      refine lv_iconst (v := (-1)) hx hb dX11_done_18 (by decide) ?_
      obtain rfl := Option.some.inj hf
      exact q_ret hC hr hlocks hV dX11_done_19
set_option maxRecDepth 100000 in
theorem k_X11_done (l : Launch) (D : va_G) (cs : Nat → ClassId) (h0 : Nat) (o0_0 : Nat) (o0_3 : Nat) (o0_4 : Nat) (o0_5 : Nat) (o0_6 : Nat) (o0_8 : Nat) (o0_9 : Nat) (o0_10 : Nat) (o0_11 : Nat) (o0_12 : Nat) (o0_14 : Nat) (ra0 : Nat → Nat) (h1 : Nat) (ra1 : Nat → Nat) (h2 : Nat) (ra2 : Nat → Nat) (h3 : Nat) (ra3 : Nat → Nat) (h4 : Nat) (ra4 : Nat → Nat) (h5 : Nat) (ra5 : Nat → Nat) (h6 : Nat) (ra6 : Nat → Nat) (x0_15 : Int32) (y1_1 y1_2 : Nat → Int32) (x1_3 x1_4 x1_5 x1_6 x1_7 x1_8 : Int32) (y1_9 : Nat → Int32) (x1_10 x1_11 x1_12 x1_13 x1_14 : Int32) (y2_0 : Nat → Int32) (x2_1 x2_2 x2_3 x2_4 : Int32) (y3_0 y3_1 y3_2 : Nat → Int32) (x3_3 : Int32) (y4_0 y4_1 y4_2 y4_3 y4_4 : Nat → Int32) (x4_5 x4_6 : Int32) (y5_0 y5_1 y5_2 y5_3 y5_4 : Nat → Int32) (x5_5 x5_6 : Int32) (y6_0 y6_1 y6_2 y6_3 y6_4 : Nat → Int32) (x6_5 x6_6 : Int32) (v1 v2 : Int32) (u : Int32 × (Nat → Int32) × (Nat → Int32) × Int32 × Int32 × Int32 × Int32 × Int32 × Int32 × (Nat → Int32) × Int32 × Int32 × Int32 × Int32 × Int32 × Int32 × Int32 × Int32 × (Nat → Int32)) (sz : Nat) (hf : f_X11_done v1 v2 y1_1 y1_2 x1_3 x1_4 x1_5 x1_6 x1_7 x1_8 y1_9 x1_10 x1_11 x1_12 x1_13 x1_14 x2_1 x2_2 x2_3 y3_0 y3_1 y3_2 x3_3 y4_0 y4_1 y4_2 y4_3 y4_4 x4_5 y5_0 y5_1 y5_2 y5_3 y5_4 x5_5 y6_0 y6_1 y6_2 y6_3 y6_4 x6_5 = some u) : Met l yX11_done (WS yX11_done cX11_done 3 (some .int)) rm_X11_done (va_Pc [.ref h0, .int v1, .int v2] (PR D cs (wY11 cs h0 o0_0 h3 h4 h5 h6 o0_3 o0_4 o0_5 o0_6 h1 o0_8 o0_9 o0_10 o0_11 o0_12 h2 o0_14 ra0 x0_15 ++ (wX0 cs h1 h3 ra1 y1_1 y1_2 x1_3 x1_4 x1_5 x1_6 x1_7 x1_8 y1_9 x1_10 x1_11 x1_12 x1_13 x1_14 ++ (wX1 cs h2 ra2 y2_0 x2_1 x2_2 x2_3 x2_4 ++ (wX10 cs h3 ra3 y3_0 y3_1 y3_2 x3_3 ++ (wX4 cs h4 ra4 y4_0 y4_1 y4_2 y4_3 y4_4 x4_5 x4_6 ++ (wX4 cs h5 ra5 y5_0 y5_1 y5_2 y5_3 y5_4 x5_5 x5_6 ++ (wX4 cs h6 ra6 y6_0 y6_1 y6_2 y6_3 y6_4 x6_5 x6_6))))))) sz)) (QI D (wY11 cs h0 o0_0 h3 h4 h5 h6 o0_3 o0_4 o0_5 o0_6 h1 o0_8 o0_9 o0_10 o0_11 o0_12 h2 o0_14 ra0 x0_15 ++ (wX0 cs h1 h3 ra1 u.2.1 u.2.2.1 u.2.2.2.1 u.2.2.2.2.1 u.2.2.2.2.2.1 u.2.2.2.2.2.2.1 u.2.2.2.2.2.2.2.1 u.2.2.2.2.2.2.2.2.1 u.2.2.2.2.2.2.2.2.2.1 u.2.2.2.2.2.2.2.2.2.2.1 u.2.2.2.2.2.2.2.2.2.2.2.1 u.2.2.2.2.2.2.2.2.2.2.2.2.1 u.2.2.2.2.2.2.2.2.2.2.2.2.2.1 u.2.2.2.2.2.2.2.2.2.2.2.2.2.2.1 ++ (wX1 cs h2 ra2 y2_0 u.2.2.2.2.2.2.2.2.2.2.2.2.2.2.2.1 u.2.2.2.2.2.2.2.2.2.2.2.2.2.2.2.2.1 u.2.2.2.2.2.2.2.2.2.2.2.2.2.2.2.2.2.1 x2_4 ++ (wX10 cs h3 ra3 y3_0 y3_1 u.2.2.2.2.2.2.2.2.2.2.2.2.2.2.2.2.2.2 x3_3 ++ (wX4 cs h4 ra4 y4_0 y4_1 y4_2 y4_3 y4_4 x4_5 x4_6 ++ (wX4 cs h5 ra5 y5_0 y5_1 y5_2 y5_3 y5_4 x5_5 x5_6 ++ (wX4 cs h6 ra6 y6_0 y6_1 y6_2 y6_3 y6_4 x6_5 x6_6))))))) (va_A (wY11 cs h0 o0_0 h3 h4 h5 h6 o0_3 o0_4 o0_5 o0_6 h1 o0_8 o0_9 o0_10 o0_11 o0_12 h2 o0_14 ra0 x0_15 ++ (wX0 cs h1 h3 ra1 y1_1 y1_2 x1_3 x1_4 x1_5 x1_6 x1_7 x1_8 y1_9 x1_10 x1_11 x1_12 x1_13 x1_14 ++ (wX1 cs h2 ra2 y2_0 x2_1 x2_2 x2_3 x2_4 ++ (wX10 cs h3 ra3 y3_0 y3_1 y3_2 x3_3 ++ (wX4 cs h4 ra4 y4_0 y4_1 y4_2 y4_3 y4_4 x4_5 x4_6 ++ (wX4 cs h5 ra5 y5_0 y5_1 y5_2 y5_3 y5_4 x5_5 x5_6 ++ (wX4 cs h6 ra6 y6_0 y6_1 y6_2 y6_3 y6_4 x6_5 x6_6))))))) sz) u.1) 0 0 (va_A (wY11 cs h0 o0_0 h3 h4 h5 h6 o0_3 o0_4 o0_5 o0_6 h1 o0_8 o0_9 o0_10 o0_11 o0_12 h2 o0_14 ra0 x0_15 ++ (wX0 cs h1 h3 ra1 y1_1 y1_2 x1_3 x1_4 x1_5 x1_6 x1_7 x1_8 y1_9 x1_10 x1_11 x1_12 x1_13 x1_14 ++ (wX1 cs h2 ra2 y2_0 x2_1 x2_2 x2_3 x2_4 ++ (wX10 cs h3 ra3 y3_0 y3_1 y3_2 x3_3 ++ (wX4 cs h4 ra4 y4_0 y4_1 y4_2 y4_3 y4_4 x4_5 x4_6 ++ (wX4 cs h5 ra5 y5_0 y5_1 y5_2 y5_3 y5_4 x5_5 x5_6 ++ (wX4 cs h6 ra6 y6_0 y6_1 y6_2 y6_3 y6_4 x6_5 x6_6))))))) sz) := by
  refine met_of RX11 rfl (by decide) (Nat.le_of_ble_eq_true rfl) ?_
  intro p e s m args below meth c hC hr hlocks hK hsz hA hV ls hl
  exact b_X11_done_0 hC hr hlocks hK hA h0 o0_0 o0_3 o0_4 o0_5 o0_6 o0_8 o0_9 o0_10 o0_11 o0_12 o0_14 ra0 h1 ra1 h2 ra2 h3 ra3 h4 ra4 h5 ra5 h6 ra6 x0_15 y2_0 x2_4 x4_6 x5_6 x6_6 u v1 v2 y1_1 y1_2 x1_3 x1_4 x1_5 x1_6 x1_7 x1_8 y1_9 x1_10 x1_11 x1_12 x1_13 x1_14 x2_1 x2_2 x2_3 y3_0 y3_1 y3_2 x3_3 y4_0 y4_1 y4_2 y4_3 y4_4 x4_5 y5_0 y5_1 y5_2 y5_3 y5_4 x5_5 y6_0 y6_1 y6_2 y6_3 y6_4 x6_5 s.heap [] ls hf (lv_sub hl [0, 1, 2] rfl) hV
def rm_X11_isSurvey : Room := { frames := 1, cells := 0, slots := 0, locals := 22 }
set_option maxHeartbeats 4000000 in
set_option maxRecDepth 100000 in
theorem b_X11_isSurvey_0 {p : Program} {l : Launch} {e : Env} {s : State} {m : MethodId} {args : Array Value} {below : List Frame} {meth : Method} {c : Code} {D : va_G} {cs : Nat → ClassId} {A : Nat → Prop} (hC : CallFix p m c cX11_isSurvey 3 s args gtbl RX11) (hr : meth.sig.returnType = (some .boolean)) (hlocks : meth.locks = false) (hK : KN D cs s) (hA : ∀ q : Nat, s.heap.size ≤ q → A q) (u : Int32) : ∀ (v0 v1 v2 : Int32) (H : Heap) (locs : List Loc) (ls : Array Slot), g_X11_isSurvey_0 v0 v1 v2 = some u → lv_has ls 3 [(0, .int v0), (1, .int v1), (2, .int v2)] → VW D A s.heap ([]) H locs → W p l e rm_X11_isSurvey s m args below meth c H locs 0 0 (MQ below (QI D ([]) A u) args s 0 0 A) (F0 m 0 ls []) := by
  have hx := hC.1
  have hb := hC.2.1
  have hown := hC.2.2.2.1
  have hts := hC.2.2.2.2
  intro v0 v1 v2 H locs ls hf hl hV
  refine lv_iload_n hx hb dX11_isSurvey_0 rfl (lv_at hl 0 rfl) ?_
  refine lv_iconst (v := 1) hx hb dX11_isSurvey_1 (by decide) ?_
  refine lv_bipush (v := 63) hx hb dX11_isSurvey_2 (by decide) ?_
  obtain ⟨u1, hc1, hf⟩ := hf_b hf
  refine aft_i (run_s hC (k_X11_within l D cs v0 1 63 u1 H.size hc1) cd_X11_within st_X11_within ml_X11_115 rfl rfl ⟨by decide, by decide⟩ (fr_pre0 hK hV) rfl hl.1 rfl (Nat.le_of_ble_eq_true rfl) dX11_isSurvey_4) hV (fr_free0 hV hA) (fr_join0 hV hA) (fun H locs hV => ?_)
  refine lv_if_eq (tgt := 41) hx hb dX11_isSurvey_7 (by decide) (fun hc => ?_) (fun hc => ?_)
  · have hf := hf_t hf hc
    refine lv_iconst (v := 0) hx hb dX11_isSurvey_41 (by decide) ?_
    obtain rfl := Option.some.inj hf
    exact q_retz hC hr hlocks hV (Or.inl rfl) dX11_isSurvey_42
  · have hf := hf_f hf hc
    refine lv_iload_n hx hb dX11_isSurvey_10 rfl (lv_at hl 0 rfl) ?_
    obtain ⟨u2, hc2, hf⟩ := hf_b hf
    refine aft_i (run_s hC (k_J6_bitCount_0f7a4 l D cs v0 u2 H.size hc2) cd_J6_bitCount_0f7a4 st_J6_bitCount_0f7a4 ml_X11_261 rfl rfl ⟨by decide, by decide⟩ (fr_pre0 hK hV) rfl hl.1 rfl (Nat.le_of_ble_eq_true rfl) dX11_isSurvey_11) hV (fr_free0 hV hA) (fr_join0 hV hA) (fun H locs hV => ?_)
    refine lv_iconst (v := 3) hx hb dX11_isSurvey_14 (by decide) ?_
    refine lv_icmp_gt (tgt := 41) hx hb dX11_isSurvey_15 (by decide) (fun hc => ?_) (fun hc => ?_)
    · have hf := hf_t hf hc
      refine lv_iconst (v := 0) hx hb dX11_isSurvey_41 (by decide) ?_
      obtain rfl := Option.some.inj hf
      exact q_retz hC hr hlocks hV (Or.inl rfl) dX11_isSurvey_42
    · have hf := hf_f hf hc
      refine lv_iload_n hx hb dX11_isSurvey_18 rfl (lv_at hl 1 rfl) ?_
      refine lv_iconst (v := 1) hx hb dX11_isSurvey_19 (by decide) ?_
      refine lv_bipush (v := 20) hx hb dX11_isSurvey_20 (by decide) ?_
      obtain ⟨u3, hc3, hf⟩ := hf_b hf
      refine aft_i (run_s hC (k_X11_within l D cs v1 1 20 u3 H.size hc3) cd_X11_within st_X11_within ml_X11_115 rfl rfl ⟨by decide, by decide⟩ (fr_pre0 hK hV) rfl hl.1 rfl (Nat.le_of_ble_eq_true rfl) dX11_isSurvey_22) hV (fr_free0 hV hA) (fr_join0 hV hA) (fun H locs hV => ?_)
      refine lv_if_eq (tgt := 41) hx hb dX11_isSurvey_25 (by decide) (fun hc => ?_) (fun hc => ?_)
      · have hf := hf_t hf hc
        refine lv_iconst (v := 0) hx hb dX11_isSurvey_41 (by decide) ?_
        obtain rfl := Option.some.inj hf
        exact q_retz hC hr hlocks hV (Or.inl rfl) dX11_isSurvey_42
      · have hf := hf_f hf hc
        refine lv_iload_n hx hb dX11_isSurvey_28 rfl (lv_at hl 2 rfl) ?_
        refine lv_iconst (v := (-1)) hx hb dX11_isSurvey_29 (by decide) ?_
        refine lv_iconst (v := 5) hx hb dX11_isSurvey_30 (by decide) ?_
        obtain ⟨u4, hc4, hf⟩ := hf_b hf
        refine aft_i (run_s hC (k_X11_within l D cs v2 (-1) 5 u4 H.size hc4) cd_X11_within st_X11_within ml_X11_115 rfl rfl ⟨by decide, by decide⟩ (fr_pre0 hK hV) rfl hl.1 rfl (Nat.le_of_ble_eq_true rfl) dX11_isSurvey_31) hV (fr_free0 hV hA) (fr_join0 hV hA) (fun H locs hV => ?_)
        refine lv_if_eq (tgt := 41) hx hb dX11_isSurvey_34 (by decide) (fun hc => ?_) (fun hc => ?_)
        · have hf := hf_t hf hc
          refine lv_iconst (v := 0) hx hb dX11_isSurvey_41 (by decide) ?_
          obtain rfl := Option.some.inj hf
          exact q_retz hC hr hlocks hV (Or.inl rfl) dX11_isSurvey_42
        · have hf := hf_f hf hc
          refine lv_iconst (v := 1) hx hb dX11_isSurvey_37 (by decide) ?_
          refine lv_goto (tgt := 42) hx hb dX11_isSurvey_38 (by decide) ?_
          obtain rfl := Option.some.inj hf
          exact q_retz hC hr hlocks hV (Or.inr rfl) dX11_isSurvey_42
set_option maxRecDepth 100000 in
theorem k_X11_isSurvey (l : Launch) (D : va_G) (cs : Nat → ClassId) (v0 v1 v2 : Int32) (u : Int32) (sz : Nat) (hf : f_X11_isSurvey v0 v1 v2 = some u) : Met l yX11_isSurvey (WS yX11_isSurvey cX11_isSurvey 3 (some .boolean)) rm_X11_isSurvey (va_Pc [.int v0, .int v1, .int v2] (PR D cs ([]) sz)) (QI D ([]) (va_A ([]) sz) u) 0 0 (va_A ([]) sz) := by
  refine met_of RX11 rfl (by decide) (Nat.le_of_ble_eq_true rfl) ?_
  intro p e s m args below meth c hC hr hlocks hK hsz hA hV ls hl
  exact b_X11_isSurvey_0 hC hr hlocks hK hA u v0 v1 v2 s.heap [] ls hf (lv_sub hl [0, 1, 2] rfl) hV
def rm_X11_proved : Room := { frames := 6, cells := 0, slots := 0, locals := 160 }
set_option maxHeartbeats 4000000 in
set_option maxRecDepth 100000 in
theorem b_X11_proved_0 {p : Program} {l : Launch} {e : Env} {s : State} {m : MethodId} {args : Array Value} {below : List Frame} {meth : Method} {c : Code} {D : va_G} {cs : Nat → ClassId} {A : Nat → Prop} (hC : CallFix p m c cX11_proved 5 s args gtbl RX11) (hr : meth.sig.returnType = (some .int)) (hlocks : meth.locks = false) (hK : KN D cs s) (hA : ∀ q : Nat, s.heap.size ≤ q → A q) (h0 : Nat) (o0_0 : Nat) (o0_3 : Nat) (o0_5 : Nat) (o0_6 : Nat) (o0_8 : Nat) (o0_10 : Nat) (o0_11 : Nat) (o0_12 : Nat) (o0_13 : Nat) (o0_14 : Nat) (ra0 : Nat → Nat) (h1 : Nat) (ra1 : Nat → Nat) (h2 : Nat) (ra2 : Nat → Nat) (h3 : Nat) (o3_2 : Nat) (ra3 : Nat → Nat) (h4 : Nat) (ra4 : Nat → Nat) (h5 : Nat) (ra5 : Nat → Nat) (h6 : Nat) (ra6 : Nat → Nat) (h7 : Nat) (ra7 : Nat → Nat) (x0_15 x5_6 x6_6 x7_6 : Int32) (u : Int32 × (Nat → Int32) × (Nat → Int32) × Int32 × Int32 × Int32 × Int32 × Int32 × Int32 × (Nat → Int32) × Int32 × Int32 × Int32 × Int32 × Int32 × (Nat → Int32) × Int32 × Int32 × Int32 × (Nat → Int32) × (Nat → Int32) × Int32) : ∀ (v1 v2 v3 v4 : Int32) (y1_1 y1_2 : Nat → Int32) (x1_3 x1_4 x1_5 x1_6 x1_7 x1_8 : Int32) (y1_9 : Nat → Int32) (x1_10 x1_11 x1_12 x1_13 x1_14 : Int32) (y2_0 y2_1 : Nat → Int32) (x2_2 : Int32) (y2_3 : Nat → Int32) (x2_4 x2_5 x2_6 : Int32) (y3_3 y3_4 : Nat → Int32) (x3_5 : Int32) (y4_0 y4_1 y4_2 : Nat → Int32) (x4_3 : Int32) (y5_0 y5_1 y5_2 y5_3 y5_4 : Nat → Int32) (x5_5 : Int32) (y6_0 y6_1 y6_2 y6_3 y6_4 : Nat → Int32) (x6_5 : Int32) (y7_0 y7_1 y7_2 y7_3 y7_4 : Nat → Int32) (x7_5 : Int32) (H : Heap) (locs : List Loc) (ls : Array Slot), g_X11_proved_0 v1 v2 v3 v4 y1_1 y1_2 x1_3 x1_4 x1_5 x1_6 x1_7 x1_8 y1_9 x1_10 x1_11 x1_12 x1_13 x1_14 y2_0 y2_1 x2_2 y2_3 x2_4 x2_5 x2_6 y3_3 y3_4 x3_5 y4_0 y4_1 y4_2 x4_3 y5_0 y5_1 y5_2 y5_3 y5_4 x5_5 y6_0 y6_1 y6_2 y6_3 y6_4 x6_5 y7_0 y7_1 y7_2 y7_3 y7_4 x7_5 = some u → lv_has ls 5 [(0, .ref h0), (1, .int v1), (2, .int v2), (3, .int v3), (4, .int v4)] → VW D A s.heap (wY11 cs h0 o0_0 h4 h5 h6 h7 o0_3 h2 o0_5 o0_6 h1 o0_8 h3 o0_10 o0_11 o0_12 o0_13 o0_14 ra0 x0_15 ++ (wX0 cs h1 h4 ra1 y1_1 y1_2 x1_3 x1_4 x1_5 x1_6 x1_7 x1_8 y1_9 x1_10 x1_11 x1_12 x1_13 x1_14 ++ (wX6 cs h2 ra2 y2_0 y2_1 x2_2 y2_3 x2_4 x2_5 x2_6 ++ (wX8 cs h3 h4 h1 o3_2 ra3 y3_3 y3_4 x3_5 ++ (wX10 cs h4 ra4 y4_0 y4_1 y4_2 x4_3 ++ (wX4 cs h5 ra5 y5_0 y5_1 y5_2 y5_3 y5_4 x5_5 x5_6 ++ (wX4 cs h6 ra6 y6_0 y6_1 y6_2 y6_3 y6_4 x6_5 x6_6 ++ (wX4 cs h7 ra7 y7_0 y7_1 y7_2 y7_3 y7_4 x7_5 x7_6)))))))) H locs → W p l e rm_X11_proved s m args below meth c H locs 0 0 (MQ below (QI D (wY11 cs h0 o0_0 h4 h5 h6 h7 o0_3 h2 o0_5 o0_6 h1 o0_8 h3 o0_10 o0_11 o0_12 o0_13 o0_14 ra0 x0_15 ++ (wX0 cs h1 h4 ra1 u.2.1 u.2.2.1 u.2.2.2.1 u.2.2.2.2.1 u.2.2.2.2.2.1 u.2.2.2.2.2.2.1 u.2.2.2.2.2.2.2.1 u.2.2.2.2.2.2.2.2.1 u.2.2.2.2.2.2.2.2.2.1 u.2.2.2.2.2.2.2.2.2.2.1 u.2.2.2.2.2.2.2.2.2.2.2.1 u.2.2.2.2.2.2.2.2.2.2.2.2.1 u.2.2.2.2.2.2.2.2.2.2.2.2.2.1 u.2.2.2.2.2.2.2.2.2.2.2.2.2.2.1 ++ (wX6 cs h2 ra2 y2_0 y2_1 x2_2 u.2.2.2.2.2.2.2.2.2.2.2.2.2.2.2.1 u.2.2.2.2.2.2.2.2.2.2.2.2.2.2.2.2.1 u.2.2.2.2.2.2.2.2.2.2.2.2.2.2.2.2.2.1 u.2.2.2.2.2.2.2.2.2.2.2.2.2.2.2.2.2.2.1 ++ (wX8 cs h3 h4 h1 o3_2 ra3 u.2.2.2.2.2.2.2.2.2.2.2.2.2.2.2.2.2.2.2.1 u.2.2.2.2.2.2.2.2.2.2.2.2.2.2.2.2.2.2.2.2.1 u.2.2.2.2.2.2.2.2.2.2.2.2.2.2.2.2.2.2.2.2.2 ++ (wX10 cs h4 ra4 y4_0 y4_1 y4_2 x4_3 ++ (wX4 cs h5 ra5 y5_0 y5_1 y5_2 y5_3 y5_4 x5_5 x5_6 ++ (wX4 cs h6 ra6 y6_0 y6_1 y6_2 y6_3 y6_4 x6_5 x6_6 ++ (wX4 cs h7 ra7 y7_0 y7_1 y7_2 y7_3 y7_4 x7_5 x7_6)))))))) A u.1) args s 0 0 A) (F0 m 0 ls []) := by
  have hx := hC.1
  have hb := hC.2.1
  have hown := hC.2.2.2.1
  have hts := hC.2.2.2.2
  intro v1 v2 v3 v4 y1_1 y1_2 x1_3 x1_4 x1_5 x1_6 x1_7 x1_8 y1_9 x1_10 x1_11 x1_12 x1_13 x1_14 y2_0 y2_1 x2_2 y2_3 x2_4 x2_5 x2_6 y3_3 y3_4 x3_5 y4_0 y4_1 y4_2 x4_3 y5_0 y5_1 y5_2 y5_3 y5_4 x5_5 y6_0 y6_1 y6_2 y6_3 y6_4 x6_5 y7_0 y7_1 y7_2 y7_3 y7_4 x7_5 H locs ls hf hl hV
  refine lv_iload_n hx hb dX11_proved_0 rfl (lv_at hl 1 rfl) ?_
  obtain ⟨u1, hc1, hf⟩ := hf_b hf
  refine aft_i (run_s hC (k_X11_isRecipe l D cs v1 u1 H.size hc1) cd_X11_isRecipe st_X11_isRecipe ml_X11_134 rfl rfl ⟨by decide, by decide⟩ (fr_pre hK hV [] rfl (by decide)) rfl hl.1 rfl (Nat.le_of_ble_eq_true rfl) dX11_proved_1) hV (va_free hV.2.1 hV.2.2 hA [] rfl) (fr_jn (s := s) (wn := wY11 cs h0 o0_0 h4 h5 h6 h7 o0_3 h2 o0_5 o0_6 h1 o0_8 h3 o0_10 o0_11 o0_12 o0_13 o0_14 ra0 x0_15 ++ (wX0 cs h1 h4 ra1 y1_1 y1_2 x1_3 x1_4 x1_5 x1_6 x1_7 x1_8 y1_9 x1_10 x1_11 x1_12 x1_13 x1_14 ++ (wX6 cs h2 ra2 y2_0 y2_1 x2_2 y2_3 x2_4 x2_5 x2_6 ++ (wX8 cs h3 h4 h1 o3_2 ra3 y3_3 y3_4 x3_5 ++ (wX10 cs h4 ra4 y4_0 y4_1 y4_2 x4_3 ++ (wX4 cs h5 ra5 y5_0 y5_1 y5_2 y5_3 y5_4 x5_5 x5_6 ++ (wX4 cs h6 ra6 y6_0 y6_1 y6_2 y6_3 y6_4 x6_5 x6_6 ++ (wX4 cs h7 ra7 y7_0 y7_1 y7_2 y7_3 y7_4 x7_5 x7_6)))))))) hV hA [] [0, 1, 2, 3, 4, 5, 6, 7, 8, 9, 10, 11, 12, 13, 14, 15, 16, 17, 18, 19, 20, 21, 22, 23, 24, 25, 26, 27, 28, 29, 30, 31, 32, 33, 34] [0, 1, 2, 3, 4, 5, 6, 7, 8, 9, 10, 11, 12, 13, 14, 15, 16, 17, 18, 19, 20, 21, 22, 23, 24, 25, 26, 27, 28, 29, 30, 31, 32, 33, 34] rfl rfl (by decide) (by decide) rfl (by decide)) (fun H locs hV => ?_)
  refine lv_if_eq (tgt := 17) hx hb dX11_proved_4 (by decide) (fun hc => ?_) (fun hc => ?_)
  · have hf := hf_t hf hc
    refine lv_bipush (v := (-3)) hx hb dX11_proved_17 (by decide) ?_
    obtain rfl := Option.some.inj hf
    exact q_ret hC hr hlocks hV dX11_proved_19
  · have hf := hf_f hf hc
    refine lv_iload_n hx hb dX11_proved_7 rfl (lv_at hl 2 rfl) ?_
    refine lv_iload_n hx hb dX11_proved_8 rfl (lv_at hl 3 rfl) ?_
    refine lv_iload hx hb dX11_proved_9 (lv_at hl 4 rfl) ?_
    obtain ⟨u2, hc2, hf⟩ := hf_b hf
    refine aft_i (run_s hC (k_X11_isSurvey l D cs v2 v3 v4 u2 H.size hc2) cd_X11_isSurvey st_X11_isSurvey ml_X11_198 rfl rfl ⟨by decide, by decide⟩ (fr_pre hK hV [] rfl (by decide)) rfl hl.1 rfl (Nat.le_of_ble_eq_true rfl) dX11_proved_11) hV (va_free hV.2.1 hV.2.2 hA [] rfl) (fr_jn (s := s) (wn := wY11 cs h0 o0_0 h4 h5 h6 h7 o0_3 h2 o0_5 o0_6 h1 o0_8 h3 o0_10 o0_11 o0_12 o0_13 o0_14 ra0 x0_15 ++ (wX0 cs h1 h4 ra1 y1_1 y1_2 x1_3 x1_4 x1_5 x1_6 x1_7 x1_8 y1_9 x1_10 x1_11 x1_12 x1_13 x1_14 ++ (wX6 cs h2 ra2 y2_0 y2_1 x2_2 y2_3 x2_4 x2_5 x2_6 ++ (wX8 cs h3 h4 h1 o3_2 ra3 y3_3 y3_4 x3_5 ++ (wX10 cs h4 ra4 y4_0 y4_1 y4_2 x4_3 ++ (wX4 cs h5 ra5 y5_0 y5_1 y5_2 y5_3 y5_4 x5_5 x5_6 ++ (wX4 cs h6 ra6 y6_0 y6_1 y6_2 y6_3 y6_4 x6_5 x6_6 ++ (wX4 cs h7 ra7 y7_0 y7_1 y7_2 y7_3 y7_4 x7_5 x7_6)))))))) hV hA [] [0, 1, 2, 3, 4, 5, 6, 7, 8, 9, 10, 11, 12, 13, 14, 15, 16, 17, 18, 19, 20, 21, 22, 23, 24, 25, 26, 27, 28, 29, 30, 31, 32, 33, 34] [0, 1, 2, 3, 4, 5, 6, 7, 8, 9, 10, 11, 12, 13, 14, 15, 16, 17, 18, 19, 20, 21, 22, 23, 24, 25, 26, 27, 28, 29, 30, 31, 32, 33, 34] rfl rfl (by decide) (by decide) rfl (by decide)) (fun H locs hV => ?_)
    refine lv_if_ne (tgt := 20) hx hb dX11_proved_14 (by decide) (fun hc => ?_) (fun hc => ?_)
    · have hf := hf_f hf hc
      refine lv_aload_n hx hb dX11_proved_20 rfl (lv_at hl 0 rfl) ?_
      refine q_get (v := .ref h3) hC hK hV fl_X11_70 0 rfl rfl dX11_proved_21 ?_
      refine lv_iload_n hx hb dX11_proved_24 rfl (lv_at hl 2 rfl) ?_
      refine lv_iload_n hx hb dX11_proved_25 rfl (lv_at hl 3 rfl) ?_
      obtain ⟨u3, hc3, hf⟩ := hf_b hf
      refine aft_v (run_v hC (k_X8_lay l D cs h3 h1 o3_2 ra3 h4 ra4 y3_3 y3_4 x3_5 y4_0 y4_1 y4_2 x4_3 v2 v3 u3 H.size hc3) cd_X8_lay cv_X8_lay ml_X11_201 rfl rfl ⟨by decide, by decide⟩ hK hV (fr_pre hK hV [10, 11, 12, 13, 14, 15, 16] rfl (by decide)) (ci := 8) (q0 := 10) rfl rfl rfl rfl hl.1 rfl (Nat.le_of_ble_eq_true rfl) dX11_proved_26) hV (va_free hV.2.1 hV.2.2 hA [10, 11, 12, 13, 14, 15, 16] rfl) (fr_jn (s := s) (wn := wY11 cs h0 o0_0 h4 h5 h6 h7 o0_3 h2 o0_5 o0_6 h1 o0_8 h3 o0_10 o0_11 o0_12 o0_13 o0_14 ra0 x0_15 ++ (wX0 cs h1 h4 ra1 y1_1 y1_2 x1_3 x1_4 x1_5 x1_6 x1_7 x1_8 y1_9 x1_10 x1_11 x1_12 x1_13 x1_14 ++ (wX6 cs h2 ra2 y2_0 y2_1 x2_2 y2_3 x2_4 x2_5 x2_6 ++ (wX8 cs h3 h4 h1 o3_2 ra3 u3.1 u3.2.1 u3.2.2 ++ (wX10 cs h4 ra4 y4_0 y4_1 y4_2 x4_3 ++ (wX4 cs h5 ra5 y5_0 y5_1 y5_2 y5_3 y5_4 x5_5 x5_6 ++ (wX4 cs h6 ra6 y6_0 y6_1 y6_2 y6_3 y6_4 x6_5 x6_6 ++ (wX4 cs h7 ra7 y7_0 y7_1 y7_2 y7_3 y7_4 x7_5 x7_6)))))))) hV hA [10, 11, 12, 13, 14, 15, 16] [0, 1, 2, 3, 4, 5, 6, 7, 8, 9, 17, 18, 19, 20, 21, 22, 23, 24, 25, 26, 27, 28, 29, 30, 31, 32, 33, 34] [0, 1, 2, 3, 4, 5, 6, 7, 8, 9, 28, 29, 30, 31, 32, 33, 34, 10, 11, 12, 13, 14, 15, 16, 17, 18, 19, 20, 21, 22, 23, 24, 25, 26, 27] rfl rfl (by decide) (by decide) rfl (by decide)) (fun H locs hV => ?_)
      refine lv_aload_n hx hb dX11_proved_29 rfl (lv_at hl 0 rfl) ?_
      refine q_get (v := .ref h3) hC hK hV fl_X11_70 0 rfl rfl dX11_proved_30 ?_
      refine lv_aload_n hx hb dX11_proved_33 rfl (lv_at hl 0 rfl) ?_
      refine q_get (v := .ref (ra0 2)) hC hK hV fl_X11_25 0 rfl rfl dX11_proved_34 ?_
      refine lv_iload_n hx hb dX11_proved_37 rfl (lv_at hl 1 rfl) ?_
      by_cases ht4 : v1 = 0
      · have hf := hf_t hf ht4
        refine q_aald (j := 0) hC hK hV 1 rfl ht4 (by decide) rfl dX11_proved_38 ?_
        refine lv_aload_n hx hb dX11_proved_39 rfl (lv_at hl 0 rfl) ?_
        refine q_get (v := .ref h2) hC hK hV fl_X11_37 0 rfl rfl dX11_proved_40 ?_
        refine lv_iload hx hb dX11_proved_43 (lv_at hl 4 rfl) ?_
        obtain ⟨u5, hc5, hf⟩ := hf_b hf
        refine aft_i (run_v hC (k_X8_unproved l D cs h3 o3_2 ra3 h5 ra5 h2 ra2 h1 ra1 h4 ra4 u3.1 u3.2.1 u3.2.2 y5_0 y5_1 y5_2 y5_3 y5_4 x5_5 x5_6 y2_0 y2_1 x2_2 y2_3 x2_4 x2_5 x2_6 y1_1 y1_2 x1_3 x1_4 x1_5 x1_6 x1_7 x1_8 y1_9 x1_10 x1_11 x1_12 x1_13 x1_14 y4_0 y4_1 y4_2 x4_3 v4 u5 H.size hc5) cd_X8_unproved cv_X8_unproved ml_X11_205 rfl rfl ⟨by decide, by decide⟩ hK hV (fr_pre hK hV [10, 11, 12, 17, 18, 19, 20, 21, 22, 6, 7, 8, 9, 2, 3, 4, 5, 13, 14, 15, 16] rfl (by decide)) (ci := 8) (q0 := 10) rfl rfl rfl rfl hl.1 rfl (Nat.le_of_ble_eq_true rfl) dX11_proved_45) hV (va_free hV.2.1 hV.2.2 hA [10, 11, 12, 17, 18, 19, 20, 21, 22, 6, 7, 8, 9, 2, 3, 4, 5, 13, 14, 15, 16] rfl) (fr_jn (s := s) (wn := wY11 cs h0 o0_0 h4 h5 h6 h7 o0_3 h2 o0_5 o0_6 h1 o0_8 h3 o0_10 o0_11 o0_12 o0_13 o0_14 ra0 x0_15 ++ (wX0 cs h1 h4 ra1 u5.2.2.2.2.2.2.1 u5.2.2.2.2.2.2.2.1 u5.2.2.2.2.2.2.2.2.1 u5.2.2.2.2.2.2.2.2.2.1 u5.2.2.2.2.2.2.2.2.2.2.1 u5.2.2.2.2.2.2.2.2.2.2.2.1 u5.2.2.2.2.2.2.2.2.2.2.2.2.1 u5.2.2.2.2.2.2.2.2.2.2.2.2.2.1 u5.2.2.2.2.2.2.2.2.2.2.2.2.2.2.1 u5.2.2.2.2.2.2.2.2.2.2.2.2.2.2.2.1 u5.2.2.2.2.2.2.2.2.2.2.2.2.2.2.2.2.1 u5.2.2.2.2.2.2.2.2.2.2.2.2.2.2.2.2.2.1 u5.2.2.2.2.2.2.2.2.2.2.2.2.2.2.2.2.2.2.1 u5.2.2.2.2.2.2.2.2.2.2.2.2.2.2.2.2.2.2.2 ++ (wX6 cs h2 ra2 y2_0 y2_1 x2_2 u5.2.2.1 u5.2.2.2.1 u5.2.2.2.2.1 u5.2.2.2.2.2.1 ++ (wX8 cs h3 h4 h1 o3_2 ra3 u5.2.1 u3.2.1 u3.2.2 ++ (wX10 cs h4 ra4 y4_0 y4_1 y4_2 x4_3 ++ (wX4 cs h5 ra5 y5_0 y5_1 y5_2 y5_3 y5_4 x5_5 x5_6 ++ (wX4 cs h6 ra6 y6_0 y6_1 y6_2 y6_3 y6_4 x6_5 x6_6 ++ (wX4 cs h7 ra7 y7_0 y7_1 y7_2 y7_3 y7_4 x7_5 x7_6)))))))) hV hA [10, 11, 12, 17, 18, 19, 20, 21, 22, 6, 7, 8, 9, 2, 3, 4, 5, 13, 14, 15, 16] [0, 1, 23, 24, 25, 26, 27, 28, 29, 30, 31, 32, 33, 34] [0, 1, 27, 28, 29, 30, 23, 24, 25, 26, 14, 15, 16, 31, 32, 33, 34, 17, 18, 19, 20, 21, 22, 2, 3, 4, 5, 6, 7, 8, 9, 10, 11, 12, 13] rfl rfl (by decide) (by decide) rfl (by decide)) (fun H locs hV => ?_)
        obtain rfl := Option.some.inj hf
        exact q_ret hC hr hlocks hV dX11_proved_48
      have hf := hf_f hf ht4
      by_cases ht6 : v1 = 1
      · have hf := hf_t hf ht6
        refine q_aald (j := 1) hC hK hV 1 rfl ht6 (by decide) rfl dX11_proved_38 ?_
        refine lv_aload_n hx hb dX11_proved_39 rfl (lv_at hl 0 rfl) ?_
        refine q_get (v := .ref h2) hC hK hV fl_X11_37 0 rfl rfl dX11_proved_40 ?_
        refine lv_iload hx hb dX11_proved_43 (lv_at hl 4 rfl) ?_
        obtain ⟨u7, hc7, hf⟩ := hf_b hf
        refine aft_i (run_v hC (k_X8_unproved l D cs h3 o3_2 ra3 h6 ra6 h2 ra2 h1 ra1 h4 ra4 u3.1 u3.2.1 u3.2.2 y6_0 y6_1 y6_2 y6_3 y6_4 x6_5 x6_6 y2_0 y2_1 x2_2 y2_3 x2_4 x2_5 x2_6 y1_1 y1_2 x1_3 x1_4 x1_5 x1_6 x1_7 x1_8 y1_9 x1_10 x1_11 x1_12 x1_13 x1_14 y4_0 y4_1 y4_2 x4_3 v4 u7 H.size hc7) cd_X8_unproved cv_X8_unproved ml_X11_205 rfl rfl ⟨by decide, by decide⟩ hK hV (fr_pre hK hV [10, 11, 12, 23, 24, 25, 26, 27, 28, 6, 7, 8, 9, 2, 3, 4, 5, 13, 14, 15, 16] rfl (by decide)) (ci := 8) (q0 := 10) rfl rfl rfl rfl hl.1 rfl (Nat.le_of_ble_eq_true rfl) dX11_proved_45) hV (va_free hV.2.1 hV.2.2 hA [10, 11, 12, 23, 24, 25, 26, 27, 28, 6, 7, 8, 9, 2, 3, 4, 5, 13, 14, 15, 16] rfl) (fr_jn (s := s) (wn := wY11 cs h0 o0_0 h4 h5 h6 h7 o0_3 h2 o0_5 o0_6 h1 o0_8 h3 o0_10 o0_11 o0_12 o0_13 o0_14 ra0 x0_15 ++ (wX0 cs h1 h4 ra1 u7.2.2.2.2.2.2.1 u7.2.2.2.2.2.2.2.1 u7.2.2.2.2.2.2.2.2.1 u7.2.2.2.2.2.2.2.2.2.1 u7.2.2.2.2.2.2.2.2.2.2.1 u7.2.2.2.2.2.2.2.2.2.2.2.1 u7.2.2.2.2.2.2.2.2.2.2.2.2.1 u7.2.2.2.2.2.2.2.2.2.2.2.2.2.1 u7.2.2.2.2.2.2.2.2.2.2.2.2.2.2.1 u7.2.2.2.2.2.2.2.2.2.2.2.2.2.2.2.1 u7.2.2.2.2.2.2.2.2.2.2.2.2.2.2.2.2.1 u7.2.2.2.2.2.2.2.2.2.2.2.2.2.2.2.2.2.1 u7.2.2.2.2.2.2.2.2.2.2.2.2.2.2.2.2.2.2.1 u7.2.2.2.2.2.2.2.2.2.2.2.2.2.2.2.2.2.2.2 ++ (wX6 cs h2 ra2 y2_0 y2_1 x2_2 u7.2.2.1 u7.2.2.2.1 u7.2.2.2.2.1 u7.2.2.2.2.2.1 ++ (wX8 cs h3 h4 h1 o3_2 ra3 u7.2.1 u3.2.1 u3.2.2 ++ (wX10 cs h4 ra4 y4_0 y4_1 y4_2 x4_3 ++ (wX4 cs h5 ra5 y5_0 y5_1 y5_2 y5_3 y5_4 x5_5 x5_6 ++ (wX4 cs h6 ra6 y6_0 y6_1 y6_2 y6_3 y6_4 x6_5 x6_6 ++ (wX4 cs h7 ra7 y7_0 y7_1 y7_2 y7_3 y7_4 x7_5 x7_6)))))))) hV hA [10, 11, 12, 23, 24, 25, 26, 27, 28, 6, 7, 8, 9, 2, 3, 4, 5, 13, 14, 15, 16] [0, 1, 17, 18, 19, 20, 21, 22, 29, 30, 31, 32, 33, 34] [0, 1, 27, 28, 29, 30, 23, 24, 25, 26, 14, 15, 16, 31, 32, 33, 34, 2, 3, 4, 5, 6, 7, 17, 18, 19, 20, 21, 22, 8, 9, 10, 11, 12, 13] rfl rfl (by decide) (by decide) rfl (by decide)) (fun H locs hV => ?_)
        obtain rfl := Option.some.inj hf
        exact q_ret hC hr hlocks hV dX11_proved_48
      have hf := hf_f hf ht6
      by_cases ht8 : v1 = 2
      · have hf := hf_t hf ht8
        refine q_aald (j := 2) hC hK hV 1 rfl ht8 (by decide) rfl dX11_proved_38 ?_
        refine lv_aload_n hx hb dX11_proved_39 rfl (lv_at hl 0 rfl) ?_
        refine q_get (v := .ref h2) hC hK hV fl_X11_37 0 rfl rfl dX11_proved_40 ?_
        refine lv_iload hx hb dX11_proved_43 (lv_at hl 4 rfl) ?_
        obtain ⟨u9, hc9, hf⟩ := hf_b hf
        refine aft_i (run_v hC (k_X8_unproved l D cs h3 o3_2 ra3 h7 ra7 h2 ra2 h1 ra1 h4 ra4 u3.1 u3.2.1 u3.2.2 y7_0 y7_1 y7_2 y7_3 y7_4 x7_5 x7_6 y2_0 y2_1 x2_2 y2_3 x2_4 x2_5 x2_6 y1_1 y1_2 x1_3 x1_4 x1_5 x1_6 x1_7 x1_8 y1_9 x1_10 x1_11 x1_12 x1_13 x1_14 y4_0 y4_1 y4_2 x4_3 v4 u9 H.size hc9) cd_X8_unproved cv_X8_unproved ml_X11_205 rfl rfl ⟨by decide, by decide⟩ hK hV (fr_pre hK hV [10, 11, 12, 29, 30, 31, 32, 33, 34, 6, 7, 8, 9, 2, 3, 4, 5, 13, 14, 15, 16] rfl (by decide)) (ci := 8) (q0 := 10) rfl rfl rfl rfl hl.1 rfl (Nat.le_of_ble_eq_true rfl) dX11_proved_45) hV (va_free hV.2.1 hV.2.2 hA [10, 11, 12, 29, 30, 31, 32, 33, 34, 6, 7, 8, 9, 2, 3, 4, 5, 13, 14, 15, 16] rfl) (fr_jn (s := s) (wn := wY11 cs h0 o0_0 h4 h5 h6 h7 o0_3 h2 o0_5 o0_6 h1 o0_8 h3 o0_10 o0_11 o0_12 o0_13 o0_14 ra0 x0_15 ++ (wX0 cs h1 h4 ra1 u9.2.2.2.2.2.2.1 u9.2.2.2.2.2.2.2.1 u9.2.2.2.2.2.2.2.2.1 u9.2.2.2.2.2.2.2.2.2.1 u9.2.2.2.2.2.2.2.2.2.2.1 u9.2.2.2.2.2.2.2.2.2.2.2.1 u9.2.2.2.2.2.2.2.2.2.2.2.2.1 u9.2.2.2.2.2.2.2.2.2.2.2.2.2.1 u9.2.2.2.2.2.2.2.2.2.2.2.2.2.2.1 u9.2.2.2.2.2.2.2.2.2.2.2.2.2.2.2.1 u9.2.2.2.2.2.2.2.2.2.2.2.2.2.2.2.2.1 u9.2.2.2.2.2.2.2.2.2.2.2.2.2.2.2.2.2.1 u9.2.2.2.2.2.2.2.2.2.2.2.2.2.2.2.2.2.2.1 u9.2.2.2.2.2.2.2.2.2.2.2.2.2.2.2.2.2.2.2 ++ (wX6 cs h2 ra2 y2_0 y2_1 x2_2 u9.2.2.1 u9.2.2.2.1 u9.2.2.2.2.1 u9.2.2.2.2.2.1 ++ (wX8 cs h3 h4 h1 o3_2 ra3 u9.2.1 u3.2.1 u3.2.2 ++ (wX10 cs h4 ra4 y4_0 y4_1 y4_2 x4_3 ++ (wX4 cs h5 ra5 y5_0 y5_1 y5_2 y5_3 y5_4 x5_5 x5_6 ++ (wX4 cs h6 ra6 y6_0 y6_1 y6_2 y6_3 y6_4 x6_5 x6_6 ++ (wX4 cs h7 ra7 y7_0 y7_1 y7_2 y7_3 y7_4 x7_5 x7_6)))))))) hV hA [10, 11, 12, 29, 30, 31, 32, 33, 34, 6, 7, 8, 9, 2, 3, 4, 5, 13, 14, 15, 16] [0, 1, 17, 18, 19, 20, 21, 22, 23, 24, 25, 26, 27, 28] [0, 1, 27, 28, 29, 30, 23, 24, 25, 26, 14, 15, 16, 31, 32, 33, 34, 2, 3, 4, 5, 6, 7, 8, 9, 10, 11, 12, 13, 17, 18, 19, 20, 21, 22] rfl rfl (by decide) (by decide) rfl (by decide)) (fun H locs hV => ?_)
        obtain rfl := Option.some.inj hf
        exact q_ret hC hr hlocks hV dX11_proved_48
      have hf := hf_f hf ht8
      exact hf_no (show (none : Option (Int32 × (Nat → Int32) × (Nat → Int32) × Int32 × Int32 × Int32 × Int32 × Int32 × Int32 × (Nat → Int32) × Int32 × Int32 × Int32 × Int32 × Int32 × (Nat → Int32) × Int32 × Int32 × Int32 × (Nat → Int32) × (Nat → Int32) × Int32)) = some u from hf)
    · have hf := hf_t hf hc
      refine lv_bipush (v := (-3)) hx hb dX11_proved_17 (by decide) ?_
      obtain rfl := Option.some.inj hf
      exact q_ret hC hr hlocks hV dX11_proved_19
set_option maxRecDepth 100000 in
theorem k_X11_proved (l : Launch) (D : va_G) (cs : Nat → ClassId) (h0 : Nat) (o0_0 : Nat) (o0_3 : Nat) (o0_5 : Nat) (o0_6 : Nat) (o0_8 : Nat) (o0_10 : Nat) (o0_11 : Nat) (o0_12 : Nat) (o0_13 : Nat) (o0_14 : Nat) (ra0 : Nat → Nat) (h1 : Nat) (ra1 : Nat → Nat) (h2 : Nat) (ra2 : Nat → Nat) (h3 : Nat) (o3_2 : Nat) (ra3 : Nat → Nat) (h4 : Nat) (ra4 : Nat → Nat) (h5 : Nat) (ra5 : Nat → Nat) (h6 : Nat) (ra6 : Nat → Nat) (h7 : Nat) (ra7 : Nat → Nat) (x0_15 : Int32) (y1_1 y1_2 : Nat → Int32) (x1_3 x1_4 x1_5 x1_6 x1_7 x1_8 : Int32) (y1_9 : Nat → Int32) (x1_10 x1_11 x1_12 x1_13 x1_14 : Int32) (y2_0 y2_1 : Nat → Int32) (x2_2 : Int32) (y2_3 : Nat → Int32) (x2_4 x2_5 x2_6 : Int32) (y3_3 y3_4 : Nat → Int32) (x3_5 : Int32) (y4_0 y4_1 y4_2 : Nat → Int32) (x4_3 : Int32) (y5_0 y5_1 y5_2 y5_3 y5_4 : Nat → Int32) (x5_5 x5_6 : Int32) (y6_0 y6_1 y6_2 y6_3 y6_4 : Nat → Int32) (x6_5 x6_6 : Int32) (y7_0 y7_1 y7_2 y7_3 y7_4 : Nat → Int32) (x7_5 x7_6 : Int32) (v1 v2 v3 v4 : Int32) (u : Int32 × (Nat → Int32) × (Nat → Int32) × Int32 × Int32 × Int32 × Int32 × Int32 × Int32 × (Nat → Int32) × Int32 × Int32 × Int32 × Int32 × Int32 × (Nat → Int32) × Int32 × Int32 × Int32 × (Nat → Int32) × (Nat → Int32) × Int32) (sz : Nat) (hf : f_X11_proved v1 v2 v3 v4 y1_1 y1_2 x1_3 x1_4 x1_5 x1_6 x1_7 x1_8 y1_9 x1_10 x1_11 x1_12 x1_13 x1_14 y2_0 y2_1 x2_2 y2_3 x2_4 x2_5 x2_6 y3_3 y3_4 x3_5 y4_0 y4_1 y4_2 x4_3 y5_0 y5_1 y5_2 y5_3 y5_4 x5_5 y6_0 y6_1 y6_2 y6_3 y6_4 x6_5 y7_0 y7_1 y7_2 y7_3 y7_4 x7_5 = some u) : Met l yX11_proved (WS yX11_proved cX11_proved 5 (some .int)) rm_X11_proved (va_Pc [.ref h0, .int v1, .int v2, .int v3, .int v4] (PR D cs (wY11 cs h0 o0_0 h4 h5 h6 h7 o0_3 h2 o0_5 o0_6 h1 o0_8 h3 o0_10 o0_11 o0_12 o0_13 o0_14 ra0 x0_15 ++ (wX0 cs h1 h4 ra1 y1_1 y1_2 x1_3 x1_4 x1_5 x1_6 x1_7 x1_8 y1_9 x1_10 x1_11 x1_12 x1_13 x1_14 ++ (wX6 cs h2 ra2 y2_0 y2_1 x2_2 y2_3 x2_4 x2_5 x2_6 ++ (wX8 cs h3 h4 h1 o3_2 ra3 y3_3 y3_4 x3_5 ++ (wX10 cs h4 ra4 y4_0 y4_1 y4_2 x4_3 ++ (wX4 cs h5 ra5 y5_0 y5_1 y5_2 y5_3 y5_4 x5_5 x5_6 ++ (wX4 cs h6 ra6 y6_0 y6_1 y6_2 y6_3 y6_4 x6_5 x6_6 ++ (wX4 cs h7 ra7 y7_0 y7_1 y7_2 y7_3 y7_4 x7_5 x7_6)))))))) sz)) (QI D (wY11 cs h0 o0_0 h4 h5 h6 h7 o0_3 h2 o0_5 o0_6 h1 o0_8 h3 o0_10 o0_11 o0_12 o0_13 o0_14 ra0 x0_15 ++ (wX0 cs h1 h4 ra1 u.2.1 u.2.2.1 u.2.2.2.1 u.2.2.2.2.1 u.2.2.2.2.2.1 u.2.2.2.2.2.2.1 u.2.2.2.2.2.2.2.1 u.2.2.2.2.2.2.2.2.1 u.2.2.2.2.2.2.2.2.2.1 u.2.2.2.2.2.2.2.2.2.2.1 u.2.2.2.2.2.2.2.2.2.2.2.1 u.2.2.2.2.2.2.2.2.2.2.2.2.1 u.2.2.2.2.2.2.2.2.2.2.2.2.2.1 u.2.2.2.2.2.2.2.2.2.2.2.2.2.2.1 ++ (wX6 cs h2 ra2 y2_0 y2_1 x2_2 u.2.2.2.2.2.2.2.2.2.2.2.2.2.2.2.1 u.2.2.2.2.2.2.2.2.2.2.2.2.2.2.2.2.1 u.2.2.2.2.2.2.2.2.2.2.2.2.2.2.2.2.2.1 u.2.2.2.2.2.2.2.2.2.2.2.2.2.2.2.2.2.2.1 ++ (wX8 cs h3 h4 h1 o3_2 ra3 u.2.2.2.2.2.2.2.2.2.2.2.2.2.2.2.2.2.2.2.1 u.2.2.2.2.2.2.2.2.2.2.2.2.2.2.2.2.2.2.2.2.1 u.2.2.2.2.2.2.2.2.2.2.2.2.2.2.2.2.2.2.2.2.2 ++ (wX10 cs h4 ra4 y4_0 y4_1 y4_2 x4_3 ++ (wX4 cs h5 ra5 y5_0 y5_1 y5_2 y5_3 y5_4 x5_5 x5_6 ++ (wX4 cs h6 ra6 y6_0 y6_1 y6_2 y6_3 y6_4 x6_5 x6_6 ++ (wX4 cs h7 ra7 y7_0 y7_1 y7_2 y7_3 y7_4 x7_5 x7_6)))))))) (va_A (wY11 cs h0 o0_0 h4 h5 h6 h7 o0_3 h2 o0_5 o0_6 h1 o0_8 h3 o0_10 o0_11 o0_12 o0_13 o0_14 ra0 x0_15 ++ (wX0 cs h1 h4 ra1 y1_1 y1_2 x1_3 x1_4 x1_5 x1_6 x1_7 x1_8 y1_9 x1_10 x1_11 x1_12 x1_13 x1_14 ++ (wX6 cs h2 ra2 y2_0 y2_1 x2_2 y2_3 x2_4 x2_5 x2_6 ++ (wX8 cs h3 h4 h1 o3_2 ra3 y3_3 y3_4 x3_5 ++ (wX10 cs h4 ra4 y4_0 y4_1 y4_2 x4_3 ++ (wX4 cs h5 ra5 y5_0 y5_1 y5_2 y5_3 y5_4 x5_5 x5_6 ++ (wX4 cs h6 ra6 y6_0 y6_1 y6_2 y6_3 y6_4 x6_5 x6_6 ++ (wX4 cs h7 ra7 y7_0 y7_1 y7_2 y7_3 y7_4 x7_5 x7_6)))))))) sz) u.1) 0 0 (va_A (wY11 cs h0 o0_0 h4 h5 h6 h7 o0_3 h2 o0_5 o0_6 h1 o0_8 h3 o0_10 o0_11 o0_12 o0_13 o0_14 ra0 x0_15 ++ (wX0 cs h1 h4 ra1 y1_1 y1_2 x1_3 x1_4 x1_5 x1_6 x1_7 x1_8 y1_9 x1_10 x1_11 x1_12 x1_13 x1_14 ++ (wX6 cs h2 ra2 y2_0 y2_1 x2_2 y2_3 x2_4 x2_5 x2_6 ++ (wX8 cs h3 h4 h1 o3_2 ra3 y3_3 y3_4 x3_5 ++ (wX10 cs h4 ra4 y4_0 y4_1 y4_2 x4_3 ++ (wX4 cs h5 ra5 y5_0 y5_1 y5_2 y5_3 y5_4 x5_5 x5_6 ++ (wX4 cs h6 ra6 y6_0 y6_1 y6_2 y6_3 y6_4 x6_5 x6_6 ++ (wX4 cs h7 ra7 y7_0 y7_1 y7_2 y7_3 y7_4 x7_5 x7_6)))))))) sz) := by
  refine met_of RX11 rfl (by decide) (Nat.le_of_ble_eq_true rfl) ?_
  intro p e s m args below meth c hC hr hlocks hK hsz hA hV ls hl
  exact b_X11_proved_0 hC hr hlocks hK hA h0 o0_0 o0_3 o0_5 o0_6 o0_8 o0_10 o0_11 o0_12 o0_13 o0_14 ra0 h1 ra1 h2 ra2 h3 o3_2 ra3 h4 ra4 h5 ra5 h6 ra6 h7 ra7 x0_15 x5_6 x6_6 x7_6 u v1 v2 v3 v4 y1_1 y1_2 x1_3 x1_4 x1_5 x1_6 x1_7 x1_8 y1_9 x1_10 x1_11 x1_12 x1_13 x1_14 y2_0 y2_1 x2_2 y2_3 x2_4 x2_5 x2_6 y3_3 y3_4 x3_5 y4_0 y4_1 y4_2 x4_3 y5_0 y5_1 y5_2 y5_3 y5_4 x5_5 y6_0 y6_1 y6_2 y6_3 y6_4 x6_5 y7_0 y7_1 y7_2 y7_3 y7_4 x7_5 s.heap [] ls hf (lv_sub hl [0, 1, 2, 3, 4] rfl) hV
def rm_X11_alike : Room := { frames := 6, cells := 0, slots := 0, locals := 160 }
set_option maxHeartbeats 4000000 in
set_option maxRecDepth 100000 in
theorem b_X11_alike_0 {p : Program} {l : Launch} {e : Env} {s : State} {m : MethodId} {args : Array Value} {below : List Frame} {meth : Method} {c : Code} {D : va_G} {cs : Nat → ClassId} {A : Nat → Prop} (hC : CallFix p m c cX11_alike 6 s args gtbl RX11) (hr : meth.sig.returnType = (some .int)) (hlocks : meth.locks = false) (hK : KN D cs s) (hA : ∀ q : Nat, s.heap.size ≤ q → A q) (h0 : Nat) (o0_0 : Nat) (o0_3 : Nat) (o0_4 : Nat) (o0_5 : Nat) (o0_6 : Nat) (o0_10 : Nat) (o0_11 : Nat) (o0_12 : Nat) (o0_13 : Nat) (o0_14 : Nat) (ra0 : Nat → Nat) (h1 : Nat) (ra1 : Nat → Nat) (h2 : Nat) (ra2 : Nat → Nat) (h3 : Nat) (ra3 : Nat → Nat) (h4 : Nat) (ra4 : Nat → Nat) (h5 : Nat) (ra5 : Nat → Nat) (h6 : Nat) (ra6 : Nat → Nat) (h7 : Nat) (ra7 : Nat → Nat) (x0_15 x5_6 x6_6 x7_6 : Int32) (u : Int32 × (Nat → Int32) × (Nat → Int32) × Int32 × Int32 × Int32 × Int32 × Int32 × Int32 × (Nat → Int32) × Int32 × Int32 × Int32 × Int32 × Int32 × (Nat → Int32) × (Nat → Int32) × Int32 × Int32 × Int32 × Int32 × Int32 × Int32 × (Nat → Int32) × Int32 × Int32 × Int32 × Int32 × Int32 × (Nat → Int32) × (Nat → Int32) × Int32) : ∀ (v1 v2 v3 v4 v5 : Int32) (y1_1 y1_2 : Nat → Int32) (x1_3 x1_4 x1_5 x1_6 x1_7 x1_8 : Int32) (y1_9 : Nat → Int32) (x1_10 x1_11 x1_12 x1_13 x1_14 : Int32) (y2_1 y2_2 : Nat → Int32) (x2_3 x2_4 x2_5 x2_6 x2_7 x2_8 : Int32) (y2_9 : Nat → Int32) (x2_10 x2_11 x2_12 x2_13 x2_14 : Int32) (y3_3 y3_4 : Nat → Int32) (x3_5 : Int32) (y4_0 y4_1 y4_2 : Nat → Int32) (x4_3 : Int32) (y5_0 y5_1 y5_2 y5_3 y5_4 : Nat → Int32) (x5_5 : Int32) (y6_0 y6_1 y6_2 y6_3 y6_4 : Nat → Int32) (x6_5 : Int32) (y7_0 y7_1 y7_2 y7_3 y7_4 : Nat → Int32) (x7_5 : Int32) (H : Heap) (locs : List Loc) (ls : Array Slot), g_X11_alike_0 v1 v2 v3 v4 v5 y1_1 y1_2 x1_3 x1_4 x1_5 x1_6 x1_7 x1_8 y1_9 x1_10 x1_11 x1_12 x1_13 x1_14 y2_1 y2_2 x2_3 x2_4 x2_5 x2_6 x2_7 x2_8 y2_9 x2_10 x2_11 x2_12 x2_13 x2_14 y3_3 y3_4 x3_5 y4_0 y4_1 y4_2 x4_3 y5_0 y5_1 y5_2 y5_3 y5_4 x5_5 y6_0 y6_1 y6_2 y6_3 y6_4 x6_5 y7_0 y7_1 y7_2 y7_3 y7_4 x7_5 = some u → lv_has ls 6 [(0, .ref h0), (1, .int v1), (2, .int v2), (3, .int v3), (4, .int v4), (5, .int v5)] → VW D A s.heap (wY11 cs h0 o0_0 h4 h5 h6 h7 o0_3 o0_4 o0_5 o0_6 h1 h2 h3 o0_10 o0_11 o0_12 o0_13 o0_14 ra0 x0_15 ++ (wX0 cs h1 h4 ra1 y1_1 y1_2 x1_3 x1_4 x1_5 x1_6 x1_7 x1_8 y1_9 x1_10 x1_11 x1_12 x1_13 x1_14 ++ (wX0 cs h2 h4 ra2 y2_1 y2_2 x2_3 x2_4 x2_5 x2_6 x2_7 x2_8 y2_9 x2_10 x2_11 x2_12 x2_13 x2_14 ++ (wX8 cs h3 h4 h1 h2 ra3 y3_3 y3_4 x3_5 ++ (wX10 cs h4 ra4 y4_0 y4_1 y4_2 x4_3 ++ (wX4 cs h5 ra5 y5_0 y5_1 y5_2 y5_3 y5_4 x5_5 x5_6 ++ (wX4 cs h6 ra6 y6_0 y6_1 y6_2 y6_3 y6_4 x6_5 x6_6 ++ (wX4 cs h7 ra7 y7_0 y7_1 y7_2 y7_3 y7_4 x7_5 x7_6)))))))) H locs → W p l e rm_X11_alike s m args below meth c H locs 0 0 (MQ below (QI D (wY11 cs h0 o0_0 h4 h5 h6 h7 o0_3 o0_4 o0_5 o0_6 h1 h2 h3 o0_10 o0_11 o0_12 o0_13 o0_14 ra0 x0_15 ++ (wX0 cs h1 h4 ra1 u.2.1 u.2.2.1 u.2.2.2.1 u.2.2.2.2.1 u.2.2.2.2.2.1 u.2.2.2.2.2.2.1 u.2.2.2.2.2.2.2.1 u.2.2.2.2.2.2.2.2.1 u.2.2.2.2.2.2.2.2.2.1 u.2.2.2.2.2.2.2.2.2.2.1 u.2.2.2.2.2.2.2.2.2.2.2.1 u.2.2.2.2.2.2.2.2.2.2.2.2.1 u.2.2.2.2.2.2.2.2.2.2.2.2.2.1 u.2.2.2.2.2.2.2.2.2.2.2.2.2.2.1 ++ (wX0 cs h2 h4 ra2 u.2.2.2.2.2.2.2.2.2.2.2.2.2.2.2.1 u.2.2.2.2.2.2.2.2.2.2.2.2.2.2.2.2.1 u.2.2.2.2.2.2.2.2.2.2.2.2.2.2.2.2.2.1 u.2.2.2.2.2.2.2.2.2.2.2.2.2.2.2.2.2.2.1 u.2.2.2.2.2.2.2.2.2.2.2.2.2.2.2.2.2.2.2.1 u.2.2.2.2.2.2.2.2.2.2.2.2.2.2.2.2.2.2.2.2.1 u.2.2.2.2.2.2.2.2.2.2.2.2.2.2.2.2.2.2.2.2.2.1 u.2.2.2.2.2.2.2.2.2.2.2.2.2.2.2.2.2.2.2.2.2.2.1 u.2.2.2.2.2.2.2.2.2.2.2.2.2.2.2.2.2.2.2.2.2.2.2.1 u.2.2.2.2.2.2.2.2.2.2.2.2.2.2.2.2.2.2.2.2.2.2.2.2.1 u.2.2.2.2.2.2.2.2.2.2.2.2.2.2.2.2.2.2.2.2.2.2.2.2.2.1 u.2.2.2.2.2.2.2.2.2.2.2.2.2.2.2.2.2.2.2.2.2.2.2.2.2.2.1 u.2.2.2.2.2.2.2.2.2.2.2.2.2.2.2.2.2.2.2.2.2.2.2.2.2.2.2.1 u.2.2.2.2.2.2.2.2.2.2.2.2.2.2.2.2.2.2.2.2.2.2.2.2.2.2.2.2.1 ++ (wX8 cs h3 h4 h1 h2 ra3 u.2.2.2.2.2.2.2.2.2.2.2.2.2.2.2.2.2.2.2.2.2.2.2.2.2.2.2.2.2.1 u.2.2.2.2.2.2.2.2.2.2.2.2.2.2.2.2.2.2.2.2.2.2.2.2.2.2.2.2.2.2.1 u.2.2.2.2.2.2.2.2.2.2.2.2.2.2.2.2.2.2.2.2.2.2.2.2.2.2.2.2.2.2.2 ++ (wX10 cs h4 ra4 y4_0 y4_1 y4_2 x4_3 ++ (wX4 cs h5 ra5 y5_0 y5_1 y5_2 y5_3 y5_4 x5_5 x5_6 ++ (wX4 cs h6 ra6 y6_0 y6_1 y6_2 y6_3 y6_4 x6_5 x6_6 ++ (wX4 cs h7 ra7 y7_0 y7_1 y7_2 y7_3 y7_4 x7_5 x7_6)))))))) A u.1) args s 0 0 A) (F0 m 0 ls []) := by
  have hx := hC.1
  have hb := hC.2.1
  have hown := hC.2.2.2.1
  have hts := hC.2.2.2.2
  intro v1 v2 v3 v4 v5 y1_1 y1_2 x1_3 x1_4 x1_5 x1_6 x1_7 x1_8 y1_9 x1_10 x1_11 x1_12 x1_13 x1_14 y2_1 y2_2 x2_3 x2_4 x2_5 x2_6 x2_7 x2_8 y2_9 x2_10 x2_11 x2_12 x2_13 x2_14 y3_3 y3_4 x3_5 y4_0 y4_1 y4_2 x4_3 y5_0 y5_1 y5_2 y5_3 y5_4 x5_5 y6_0 y6_1 y6_2 y6_3 y6_4 x6_5 y7_0 y7_1 y7_2 y7_3 y7_4 x7_5 H locs ls hf hl hV
  refine lv_iload_n hx hb dX11_alike_0 rfl (lv_at hl 1 rfl) ?_
  obtain ⟨u1, hc1, hf⟩ := hf_b hf
  refine aft_i (run_s hC (k_X11_isRecipe l D cs v1 u1 H.size hc1) cd_X11_isRecipe st_X11_isRecipe ml_X11_134 rfl rfl ⟨by decide, by decide⟩ (fr_pre hK hV [] rfl (by decide)) rfl hl.1 rfl (Nat.le_of_ble_eq_true rfl) dX11_alike_1) hV (va_free hV.2.1 hV.2.2 hA [] rfl) (fr_jn (s := s) (wn := wY11 cs h0 o0_0 h4 h5 h6 h7 o0_3 o0_4 o0_5 o0_6 h1 h2 h3 o0_10 o0_11 o0_12 o0_13 o0_14 ra0 x0_15 ++ (wX0 cs h1 h4 ra1 y1_1 y1_2 x1_3 x1_4 x1_5 x1_6 x1_7 x1_8 y1_9 x1_10 x1_11 x1_12 x1_13 x1_14 ++ (wX0 cs h2 h4 ra2 y2_1 y2_2 x2_3 x2_4 x2_5 x2_6 x2_7 x2_8 y2_9 x2_10 x2_11 x2_12 x2_13 x2_14 ++ (wX8 cs h3 h4 h1 h2 ra3 y3_3 y3_4 x3_5 ++ (wX10 cs h4 ra4 y4_0 y4_1 y4_2 x4_3 ++ (wX4 cs h5 ra5 y5_0 y5_1 y5_2 y5_3 y5_4 x5_5 x5_6 ++ (wX4 cs h6 ra6 y6_0 y6_1 y6_2 y6_3 y6_4 x6_5 x6_6 ++ (wX4 cs h7 ra7 y7_0 y7_1 y7_2 y7_3 y7_4 x7_5 x7_6)))))))) hV hA [] [0, 1, 2, 3, 4, 5, 6, 7, 8, 9, 10, 11, 12, 13, 14, 15, 16, 17, 18, 19, 20, 21, 22, 23, 24, 25, 26, 27, 28, 29, 30, 31, 32, 33, 34] [0, 1, 2, 3, 4, 5, 6, 7, 8, 9, 10, 11, 12, 13, 14, 15, 16, 17, 18, 19, 20, 21, 22, 23, 24, 25, 26, 27, 28, 29, 30, 31, 32, 33, 34] rfl rfl (by decide) (by decide) rfl (by decide)) (fun H locs hV => ?_)
  refine lv_if_eq (tgt := 25) hx hb dX11_alike_4 (by decide) (fun hc => ?_) (fun hc => ?_)
  · have hf := hf_t hf hc
    refine lv_bipush (v := (-3)) hx hb dX11_alike_25 (by decide) ?_
    obtain rfl := Option.some.inj hf
    exact q_ret hC hr hlocks hV dX11_alike_27
  · have hf := hf_f hf hc
    refine lv_iload_n hx hb dX11_alike_7 rfl (lv_at hl 2 rfl) ?_
    obtain ⟨u2, hc2, hf⟩ := hf_b hf
    refine aft_i (run_s hC (k_X11_isRecipe l D cs v2 u2 H.size hc2) cd_X11_isRecipe st_X11_isRecipe ml_X11_134 rfl rfl ⟨by decide, by decide⟩ (fr_pre hK hV [] rfl (by decide)) rfl hl.1 rfl (Nat.le_of_ble_eq_true rfl) dX11_alike_8) hV (va_free hV.2.1 hV.2.2 hA [] rfl) (fr_jn (s := s) (wn := wY11 cs h0 o0_0 h4 h5 h6 h7 o0_3 o0_4 o0_5 o0_6 h1 h2 h3 o0_10 o0_11 o0_12 o0_13 o0_14 ra0 x0_15 ++ (wX0 cs h1 h4 ra1 y1_1 y1_2 x1_3 x1_4 x1_5 x1_6 x1_7 x1_8 y1_9 x1_10 x1_11 x1_12 x1_13 x1_14 ++ (wX0 cs h2 h4 ra2 y2_1 y2_2 x2_3 x2_4 x2_5 x2_6 x2_7 x2_8 y2_9 x2_10 x2_11 x2_12 x2_13 x2_14 ++ (wX8 cs h3 h4 h1 h2 ra3 y3_3 y3_4 x3_5 ++ (wX10 cs h4 ra4 y4_0 y4_1 y4_2 x4_3 ++ (wX4 cs h5 ra5 y5_0 y5_1 y5_2 y5_3 y5_4 x5_5 x5_6 ++ (wX4 cs h6 ra6 y6_0 y6_1 y6_2 y6_3 y6_4 x6_5 x6_6 ++ (wX4 cs h7 ra7 y7_0 y7_1 y7_2 y7_3 y7_4 x7_5 x7_6)))))))) hV hA [] [0, 1, 2, 3, 4, 5, 6, 7, 8, 9, 10, 11, 12, 13, 14, 15, 16, 17, 18, 19, 20, 21, 22, 23, 24, 25, 26, 27, 28, 29, 30, 31, 32, 33, 34] [0, 1, 2, 3, 4, 5, 6, 7, 8, 9, 10, 11, 12, 13, 14, 15, 16, 17, 18, 19, 20, 21, 22, 23, 24, 25, 26, 27, 28, 29, 30, 31, 32, 33, 34] rfl rfl (by decide) (by decide) rfl (by decide)) (fun H locs hV => ?_)
    refine lv_if_eq (tgt := 25) hx hb dX11_alike_11 (by decide) (fun hc => ?_) (fun hc => ?_)
    · have hf := hf_t hf hc
      refine lv_bipush (v := (-3)) hx hb dX11_alike_25 (by decide) ?_
      obtain rfl := Option.some.inj hf
      exact q_ret hC hr hlocks hV dX11_alike_27
    · have hf := hf_f hf hc
      refine lv_iload_n hx hb dX11_alike_14 rfl (lv_at hl 3 rfl) ?_
      refine lv_iload hx hb dX11_alike_15 (lv_at hl 4 rfl) ?_
      refine lv_iload hx hb dX11_alike_17 (lv_at hl 5 rfl) ?_
      obtain ⟨u3, hc3, hf⟩ := hf_b hf
      refine aft_i (run_s hC (k_X11_isSurvey l D cs v3 v4 v5 u3 H.size hc3) cd_X11_isSurvey st_X11_isSurvey ml_X11_198 rfl rfl ⟨by decide, by decide⟩ (fr_pre hK hV [] rfl (by decide)) rfl hl.1 rfl (Nat.le_of_ble_eq_true rfl) dX11_alike_19) hV (va_free hV.2.1 hV.2.2 hA [] rfl) (fr_jn (s := s) (wn := wY11 cs h0 o0_0 h4 h5 h6 h7 o0_3 o0_4 o0_5 o0_6 h1 h2 h3 o0_10 o0_11 o0_12 o0_13 o0_14 ra0 x0_15 ++ (wX0 cs h1 h4 ra1 y1_1 y1_2 x1_3 x1_4 x1_5 x1_6 x1_7 x1_8 y1_9 x1_10 x1_11 x1_12 x1_13 x1_14 ++ (wX0 cs h2 h4 ra2 y2_1 y2_2 x2_3 x2_4 x2_5 x2_6 x2_7 x2_8 y2_9 x2_10 x2_11 x2_12 x2_13 x2_14 ++ (wX8 cs h3 h4 h1 h2 ra3 y3_3 y3_4 x3_5 ++ (wX10 cs h4 ra4 y4_0 y4_1 y4_2 x4_3 ++ (wX4 cs h5 ra5 y5_0 y5_1 y5_2 y5_3 y5_4 x5_5 x5_6 ++ (wX4 cs h6 ra6 y6_0 y6_1 y6_2 y6_3 y6_4 x6_5 x6_6 ++ (wX4 cs h7 ra7 y7_0 y7_1 y7_2 y7_3 y7_4 x7_5 x7_6)))))))) hV hA [] [0, 1, 2, 3, 4, 5, 6, 7, 8, 9, 10, 11, 12, 13, 14, 15, 16, 17, 18, 19, 20, 21, 22, 23, 24, 25, 26, 27, 28, 29, 30, 31, 32, 33, 34] [0, 1, 2, 3, 4, 5, 6, 7, 8, 9, 10, 11, 12, 13, 14, 15, 16, 17, 18, 19, 20, 21, 22, 23, 24, 25, 26, 27, 28, 29, 30, 31, 32, 33, 34] rfl rfl (by decide) (by decide) rfl (by decide)) (fun H locs hV => ?_)
      refine lv_if_ne (tgt := 28) hx hb dX11_alike_22 (by decide) (fun hc => ?_) (fun hc => ?_)
      · have hf := hf_f hf hc
        refine lv_aload_n hx hb dX11_alike_28 rfl (lv_at hl 0 rfl) ?_
        refine q_get (v := .ref h3) hC hK hV fl_X11_70 0 rfl rfl dX11_alike_29 ?_
        refine lv_iload_n hx hb dX11_alike_32 rfl (lv_at hl 3 rfl) ?_
        refine lv_iload hx hb dX11_alike_33 (lv_at hl 4 rfl) ?_
        obtain ⟨u4, hc4, hf⟩ := hf_b hf
        refine aft_v (run_v hC (k_X8_lay l D cs h3 h1 h2 ra3 h4 ra4 y3_3 y3_4 x3_5 y4_0 y4_1 y4_2 x4_3 v3 v4 u4 H.size hc4) cd_X8_lay cv_X8_lay ml_X11_201 rfl rfl ⟨by decide, by decide⟩ hK hV (fr_pre hK hV [10, 11, 12, 13, 14, 15, 16] rfl (by decide)) (ci := 8) (q0 := 10) rfl rfl rfl rfl hl.1 rfl (Nat.le_of_ble_eq_true rfl) dX11_alike_35) hV (va_free hV.2.1 hV.2.2 hA [10, 11, 12, 13, 14, 15, 16] rfl) (fr_jn (s := s) (wn := wY11 cs h0 o0_0 h4 h5 h6 h7 o0_3 o0_4 o0_5 o0_6 h1 h2 h3 o0_10 o0_11 o0_12 o0_13 o0_14 ra0 x0_15 ++ (wX0 cs h1 h4 ra1 y1_1 y1_2 x1_3 x1_4 x1_5 x1_6 x1_7 x1_8 y1_9 x1_10 x1_11 x1_12 x1_13 x1_14 ++ (wX0 cs h2 h4 ra2 y2_1 y2_2 x2_3 x2_4 x2_5 x2_6 x2_7 x2_8 y2_9 x2_10 x2_11 x2_12 x2_13 x2_14 ++ (wX8 cs h3 h4 h1 h2 ra3 u4.1 u4.2.1 u4.2.2 ++ (wX10 cs h4 ra4 y4_0 y4_1 y4_2 x4_3 ++ (wX4 cs h5 ra5 y5_0 y5_1 y5_2 y5_3 y5_4 x5_5 x5_6 ++ (wX4 cs h6 ra6 y6_0 y6_1 y6_2 y6_3 y6_4 x6_5 x6_6 ++ (wX4 cs h7 ra7 y7_0 y7_1 y7_2 y7_3 y7_4 x7_5 x7_6)))))))) hV hA [10, 11, 12, 13, 14, 15, 16] [0, 1, 2, 3, 4, 5, 6, 7, 8, 9, 17, 18, 19, 20, 21, 22, 23, 24, 25, 26, 27, 28, 29, 30, 31, 32, 33, 34] [0, 1, 2, 3, 4, 5, 6, 7, 8, 9, 28, 29, 30, 31, 32, 33, 34, 10, 11, 12, 13, 14, 15, 16, 17, 18, 19, 20, 21, 22, 23, 24, 25, 26, 27] rfl rfl (by decide) (by decide) rfl (by decide)) (fun H locs hV => ?_)
        refine lv_aload_n hx hb dX11_alike_38 rfl (lv_at hl 0 rfl) ?_
        refine q_get (v := .ref h3) hC hK hV fl_X11_70 0 rfl rfl dX11_alike_39 ?_
        refine lv_aload_n hx hb dX11_alike_42 rfl (lv_at hl 0 rfl) ?_
        refine q_get (v := .ref (ra0 2)) hC hK hV fl_X11_25 0 rfl rfl dX11_alike_43 ?_
        refine lv_iload_n hx hb dX11_alike_46 rfl (lv_at hl 1 rfl) ?_
        by_cases ht5 : v1 = 0
        · have hf := hf_t hf ht5
          refine q_aald (j := 0) hC hK hV 1 rfl ht5 (by decide) rfl dX11_alike_47 ?_
          refine lv_aload_n hx hb dX11_alike_48 rfl (lv_at hl 0 rfl) ?_
          refine q_get (v := .ref (ra0 2)) hC hK hV fl_X11_25 0 rfl rfl dX11_alike_49 ?_
          refine lv_iload_n hx hb dX11_alike_52 rfl (lv_at hl 2 rfl) ?_
          by_cases ht6 : v2 = 0
          · have hf := hf_t hf ht6
            refine q_aald (j := 0) hC hK hV 1 rfl ht6 (by decide) rfl dX11_alike_53 ?_
            refine lv_iload hx hb dX11_alike_54 (lv_at hl 5 rfl) ?_
            obtain ⟨u7, hc7, hf⟩ := hf_b hf
            refine aft_i (run_v hC (k_X8_unlikes l D cs h3 ra3 h5 ra5 h1 ra1 h2 ra2 h4 ra4 u4.1 u4.2.1 u4.2.2 y5_0 y5_1 y5_2 y5_3 y5_4 x5_5 x5_6 y1_1 y1_2 x1_3 x1_4 x1_5 x1_6 x1_7 x1_8 y1_9 x1_10 x1_11 x1_12 x1_13 x1_14 y2_1 y2_2 x2_3 x2_4 x2_5 x2_6 x2_7 x2_8 y2_9 x2_10 x2_11 x2_12 x2_13 x2_14 y4_0 y4_1 y4_2 x4_3 v5 u7 H.size hc7) cd_X8_unlike cv_X8_unlike ml_X11_209 rfl rfl ⟨by decide, by decide⟩ hK hV (fr_pre hK hV [10, 11, 12, 17, 18, 19, 20, 21, 22, 2, 3, 4, 5, 6, 7, 8, 9, 13, 14, 15, 16] rfl (by decide)) (ci := 8) (q0 := 10) rfl rfl rfl rfl hl.1 rfl (Nat.le_of_ble_eq_true rfl) dX11_alike_56) hV (va_free hV.2.1 hV.2.2 hA [10, 11, 12, 17, 18, 19, 20, 21, 22, 2, 3, 4, 5, 6, 7, 8, 9, 13, 14, 15, 16] rfl) (fr_jn (s := s) (wn := wY11 cs h0 o0_0 h4 h5 h6 h7 o0_3 o0_4 o0_5 o0_6 h1 h2 h3 o0_10 o0_11 o0_12 o0_13 o0_14 ra0 x0_15 ++ (wX0 cs h1 h4 ra1 u7.2.2.1 u7.2.2.2.1 u7.2.2.2.2.1 u7.2.2.2.2.2.1 u7.2.2.2.2.2.2.1 u7.2.2.2.2.2.2.2.1 u7.2.2.2.2.2.2.2.2.1 u7.2.2.2.2.2.2.2.2.2.1 u7.2.2.2.2.2.2.2.2.2.2.1 u7.2.2.2.2.2.2.2.2.2.2.2.1 u7.2.2.2.2.2.2.2.2.2.2.2.2.1 u7.2.2.2.2.2.2.2.2.2.2.2.2.2.1 u7.2.2.2.2.2.2.2.2.2.2.2.2.2.2.1 u7.2.2.2.2.2.2.2.2.2.2.2.2.2.2.2.1 ++ (wX0 cs h2 h4 ra2 u7.2.2.2.2.2.2.2.2.2.2.2.2.2.2.2.2.1 u7.2.2.2.2.2.2.2.2.2.2.2.2.2.2.2.2.2.1 u7.2.2.2.2.2.2.2.2.2.2.2.2.2.2.2.2.2.2.1 u7.2.2.2.2.2.2.2.2.2.2.2.2.2.2.2.2.2.2.2.1 u7.2.2.2.2.2.2.2.2.2.2.2.2.2.2.2.2.2.2.2.2.1 u7.2.2.2.2.2.2.2.2.2.2.2.2.2.2.2.2.2.2.2.2.2.1 u7.2.2.2.2.2.2.2.2.2.2.2.2.2.2.2.2.2.2.2.2.2.2.1 u7.2.2.2.2.2.2.2.2.2.2.2.2.2.2.2.2.2.2.2.2.2.2.2.1 u7.2.2.2.2.2.2.2.2.2.2.2.2.2.2.2.2.2.2.2.2.2.2.2.2.1 u7.2.2.2.2.2.2.2.2.2.2.2.2.2.2.2.2.2.2.2.2.2.2.2.2.2.1 u7.2.2.2.2.2.2.2.2.2.2.2.2.2.2.2.2.2.2.2.2.2.2.2.2.2.2.1 u7.2.2.2.2.2.2.2.2.2.2.2.2.2.2.2.2.2.2.2.2.2.2.2.2.2.2.2.1 u7.2.2.2.2.2.2.2.2.2.2.2.2.2.2.2.2.2.2.2.2.2.2.2.2.2.2.2.2.1 u7.2.2.2.2.2.2.2.2.2.2.2.2.2.2.2.2.2.2.2.2.2.2.2.2.2.2.2.2.2 ++ (wX8 cs h3 h4 h1 h2 ra3 u7.2.1 u4.2.1 u4.2.2 ++ (wX10 cs h4 ra4 y4_0 y4_1 y4_2 x4_3 ++ (wX4 cs h5 ra5 y5_0 y5_1 y5_2 y5_3 y5_4 x5_5 x5_6 ++ (wX4 cs h6 ra6 y6_0 y6_1 y6_2 y6_3 y6_4 x6_5 x6_6 ++ (wX4 cs h7 ra7 y7_0 y7_1 y7_2 y7_3 y7_4 x7_5 x7_6)))))))) hV hA [10, 11, 12, 17, 18, 19, 20, 21, 22, 2, 3, 4, 5, 6, 7, 8, 9, 13, 14, 15, 16] [0, 1, 23, 24, 25, 26, 27, 28, 29, 30, 31, 32, 33, 34] [0, 1, 23, 24, 25, 26, 27, 28, 29, 30, 14, 15, 16, 31, 32, 33, 34, 17, 18, 19, 20, 21, 22, 2, 3, 4, 5, 6, 7, 8, 9, 10, 11, 12, 13] rfl rfl (by decide) (by decide) rfl (by decide)) (fun H locs hV => ?_)
            obtain rfl := Option.some.inj hf
            exact q_ret hC hr hlocks hV dX11_alike_59
          have hf := hf_f hf ht6
          by_cases ht8 : v2 = 1
          · have hf := hf_t hf ht8
            refine q_aald (j := 1) hC hK hV 1 rfl ht8 (by decide) rfl dX11_alike_53 ?_
            refine lv_iload hx hb dX11_alike_54 (lv_at hl 5 rfl) ?_
            obtain ⟨u9, hc9, hf⟩ := hf_b hf
            refine aft_i (run_v hC (k_X8_unlikex l D cs h3 ra3 h5 ra5 h6 ra6 h1 ra1 h2 ra2 h4 ra4 u4.1 u4.2.1 u4.2.2 y5_0 y5_1 y5_2 y5_3 y5_4 x5_5 x5_6 y6_0 y6_1 y6_2 y6_3 y6_4 x6_5 x6_6 y1_1 y1_2 x1_3 x1_4 x1_5 x1_6 x1_7 x1_8 y1_9 x1_10 x1_11 x1_12 x1_13 x1_14 y2_1 y2_2 x2_3 x2_4 x2_5 x2_6 x2_7 x2_8 y2_9 x2_10 x2_11 x2_12 x2_13 x2_14 y4_0 y4_1 y4_2 x4_3 v5 u9 H.size hc9) cd_X8_unlike cv_X8_unlike ml_X11_209 rfl rfl ⟨by decide, by decide⟩ hK hV (fr_pre hK hV [10, 11, 12, 17, 18, 19, 20, 21, 22, 23, 24, 25, 26, 27, 28, 2, 3, 4, 5, 6, 7, 8, 9, 13, 14, 15, 16] rfl (by decide)) (ci := 8) (q0 := 10) rfl rfl rfl rfl hl.1 rfl (Nat.le_of_ble_eq_true rfl) dX11_alike_56) hV (va_free hV.2.1 hV.2.2 hA [10, 11, 12, 17, 18, 19, 20, 21, 22, 23, 24, 25, 26, 27, 28, 2, 3, 4, 5, 6, 7, 8, 9, 13, 14, 15, 16] rfl) (fr_jn (s := s) (wn := wY11 cs h0 o0_0 h4 h5 h6 h7 o0_3 o0_4 o0_5 o0_6 h1 h2 h3 o0_10 o0_11 o0_12 o0_13 o0_14 ra0 x0_15 ++ (wX0 cs h1 h4 ra1 u9.2.2.1 u9.2.2.2.1 u9.2.2.2.2.1 u9.2.2.2.2.2.1 u9.2.2.2.2.2.2.1 u9.2.2.2.2.2.2.2.1 u9.2.2.2.2.2.2.2.2.1 u9.2.2.2.2.2.2.2.2.2.1 u9.2.2.2.2.2.2.2.2.2.2.1 u9.2.2.2.2.2.2.2.2.2.2.2.1 u9.2.2.2.2.2.2.2.2.2.2.2.2.1 u9.2.2.2.2.2.2.2.2.2.2.2.2.2.1 u9.2.2.2.2.2.2.2.2.2.2.2.2.2.2.1 u9.2.2.2.2.2.2.2.2.2.2.2.2.2.2.2.1 ++ (wX0 cs h2 h4 ra2 u9.2.2.2.2.2.2.2.2.2.2.2.2.2.2.2.2.1 u9.2.2.2.2.2.2.2.2.2.2.2.2.2.2.2.2.2.1 u9.2.2.2.2.2.2.2.2.2.2.2.2.2.2.2.2.2.2.1 u9.2.2.2.2.2.2.2.2.2.2.2.2.2.2.2.2.2.2.2.1 u9.2.2.2.2.2.2.2.2.2.2.2.2.2.2.2.2.2.2.2.2.1 u9.2.2.2.2.2.2.2.2.2.2.2.2.2.2.2.2.2.2.2.2.2.1 u9.2.2.2.2.2.2.2.2.2.2.2.2.2.2.2.2.2.2.2.2.2.2.1 u9.2.2.2.2.2.2.2.2.2.2.2.2.2.2.2.2.2.2.2.2.2.2.2.1 u9.2.2.2.2.2.2.2.2.2.2.2.2.2.2.2.2.2.2.2.2.2.2.2.2.1 u9.2.2.2.2.2.2.2.2.2.2.2.2.2.2.2.2.2.2.2.2.2.2.2.2.2.1 u9.2.2.2.2.2.2.2.2.2.2.2.2.2.2.2.2.2.2.2.2.2.2.2.2.2.2.1 u9.2.2.2.2.2.2.2.2.2.2.2.2.2.2.2.2.2.2.2.2.2.2.2.2.2.2.2.1 u9.2.2.2.2.2.2.2.2.2.2.2.2.2.2.2.2.2.2.2.2.2.2.2.2.2.2.2.2.1 u9.2.2.2.2.2.2.2.2.2.2.2.2.2.2.2.2.2.2.2.2.2.2.2.2.2.2.2.2.2 ++ (wX8 cs h3 h4 h1 h2 ra3 u9.2.1 u4.2.1 u4.2.2 ++ (wX10 cs h4 ra4 y4_0 y4_1 y4_2 x4_3 ++ (wX4 cs h5 ra5 y5_0 y5_1 y5_2 y5_3 y5_4 x5_5 x5_6 ++ (wX4 cs h6 ra6 y6_0 y6_1 y6_2 y6_3 y6_4 x6_5 x6_6 ++ (wX4 cs h7 ra7 y7_0 y7_1 y7_2 y7_3 y7_4 x7_5 x7_6)))))))) hV hA [10, 11, 12, 17, 18, 19, 20, 21, 22, 23, 24, 25, 26, 27, 28, 2, 3, 4, 5, 6, 7, 8, 9, 13, 14, 15, 16] [0, 1, 29, 30, 31, 32, 33, 34] [0, 1, 23, 24, 25, 26, 27, 28, 29, 30, 8, 9, 10, 31, 32, 33, 34, 11, 12, 13, 14, 15, 16, 17, 18, 19, 20, 21, 22, 2, 3, 4, 5, 6, 7] rfl rfl (by decide) (by decide) rfl (by decide)) (fun H locs hV => ?_)
            obtain rfl := Option.some.inj hf
            exact q_ret hC hr hlocks hV dX11_alike_59
          have hf := hf_f hf ht8
          by_cases ht10 : v2 = 2
          · have hf := hf_t hf ht10
            refine q_aald (j := 2) hC hK hV 1 rfl ht10 (by decide) rfl dX11_alike_53 ?_
            refine lv_iload hx hb dX11_alike_54 (lv_at hl 5 rfl) ?_
            obtain ⟨u11, hc11, hf⟩ := hf_b hf
            refine aft_i (run_v hC (k_X8_unlikex l D cs h3 ra3 h5 ra5 h7 ra7 h1 ra1 h2 ra2 h4 ra4 u4.1 u4.2.1 u4.2.2 y5_0 y5_1 y5_2 y5_3 y5_4 x5_5 x5_6 y7_0 y7_1 y7_2 y7_3 y7_4 x7_5 x7_6 y1_1 y1_2 x1_3 x1_4 x1_5 x1_6 x1_7 x1_8 y1_9 x1_10 x1_11 x1_12 x1_13 x1_14 y2_1 y2_2 x2_3 x2_4 x2_5 x2_6 x2_7 x2_8 y2_9 x2_10 x2_11 x2_12 x2_13 x2_14 y4_0 y4_1 y4_2 x4_3 v5 u11 H.size hc11) cd_X8_unlike cv_X8_unlike ml_X11_209 rfl rfl ⟨by decide, by decide⟩ hK hV (fr_pre hK hV [10, 11, 12, 17, 18, 19, 20, 21, 22, 29, 30, 31, 32, 33, 34, 2, 3, 4, 5, 6, 7, 8, 9, 13, 14, 15, 16] rfl (by decide)) (ci := 8) (q0 := 10) rfl rfl rfl rfl hl.1 rfl (Nat.le_of_ble_eq_true rfl) dX11_alike_56) hV (va_free hV.2.1 hV.2.2 hA [10, 11, 12, 17, 18, 19, 20, 21, 22, 29, 30, 31, 32, 33, 34, 2, 3, 4, 5, 6, 7, 8, 9, 13, 14, 15, 16] rfl) (fr_jn (s := s) (wn := wY11 cs h0 o0_0 h4 h5 h6 h7 o0_3 o0_4 o0_5 o0_6 h1 h2 h3 o0_10 o0_11 o0_12 o0_13 o0_14 ra0 x0_15 ++ (wX0 cs h1 h4 ra1 u11.2.2.1 u11.2.2.2.1 u11.2.2.2.2.1 u11.2.2.2.2.2.1 u11.2.2.2.2.2.2.1 u11.2.2.2.2.2.2.2.1 u11.2.2.2.2.2.2.2.2.1 u11.2.2.2.2.2.2.2.2.2.1 u11.2.2.2.2.2.2.2.2.2.2.1 u11.2.2.2.2.2.2.2.2.2.2.2.1 u11.2.2.2.2.2.2.2.2.2.2.2.2.1 u11.2.2.2.2.2.2.2.2.2.2.2.2.2.1 u11.2.2.2.2.2.2.2.2.2.2.2.2.2.2.1 u11.2.2.2.2.2.2.2.2.2.2.2.2.2.2.2.1 ++ (wX0 cs h2 h4 ra2 u11.2.2.2.2.2.2.2.2.2.2.2.2.2.2.2.2.1 u11.2.2.2.2.2.2.2.2.2.2.2.2.2.2.2.2.2.1 u11.2.2.2.2.2.2.2.2.2.2.2.2.2.2.2.2.2.2.1 u11.2.2.2.2.2.2.2.2.2.2.2.2.2.2.2.2.2.2.2.1 u11.2.2.2.2.2.2.2.2.2.2.2.2.2.2.2.2.2.2.2.2.1 u11.2.2.2.2.2.2.2.2.2.2.2.2.2.2.2.2.2.2.2.2.2.1 u11.2.2.2.2.2.2.2.2.2.2.2.2.2.2.2.2.2.2.2.2.2.2.1 u11.2.2.2.2.2.2.2.2.2.2.2.2.2.2.2.2.2.2.2.2.2.2.2.1 u11.2.2.2.2.2.2.2.2.2.2.2.2.2.2.2.2.2.2.2.2.2.2.2.2.1 u11.2.2.2.2.2.2.2.2.2.2.2.2.2.2.2.2.2.2.2.2.2.2.2.2.2.1 u11.2.2.2.2.2.2.2.2.2.2.2.2.2.2.2.2.2.2.2.2.2.2.2.2.2.2.1 u11.2.2.2.2.2.2.2.2.2.2.2.2.2.2.2.2.2.2.2.2.2.2.2.2.2.2.2.1 u11.2.2.2.2.2.2.2.2.2.2.2.2.2.2.2.2.2.2.2.2.2.2.2.2.2.2.2.2.1 u11.2.2.2.2.2.2.2.2.2.2.2.2.2.2.2.2.2.2.2.2.2.2.2.2.2.2.2.2.2 ++ (wX8 cs h3 h4 h1 h2 ra3 u11.2.1 u4.2.1 u4.2.2 ++ (wX10 cs h4 ra4 y4_0 y4_1 y4_2 x4_3 ++ (wX4 cs h5 ra5 y5_0 y5_1 y5_2 y5_3 y5_4 x5_5 x5_6 ++ (wX4 cs h6 ra6 y6_0 y6_1 y6_2 y6_3 y6_4 x6_5 x6_6 ++ (wX4 cs h7 ra7 y7_0 y7_1 y7_2 y7_3 y7_4 x7_5 x7_6)))))))) hV hA [10, 11, 12, 17, 18, 19, 20, 21, 22, 29, 30, 31, 32, 33, 34, 2, 3, 4, 5, 6, 7, 8, 9, 13, 14, 15, 16] [0, 1, 23, 24, 25, 26, 27, 28] [0, 1, 23, 24, 25, 26, 27, 28, 29, 30, 8, 9, 10, 31, 32, 33, 34, 11, 12, 13, 14, 15, 16, 2, 3, 4, 5, 6, 7, 17, 18, 19, 20, 21, 22] rfl rfl (by decide) (by decide) rfl (by decide)) (fun H locs hV => ?_)
            obtain rfl := Option.some.inj hf
            exact q_ret hC hr hlocks hV dX11_alike_59
          have hf := hf_f hf ht10
          exact hf_no (show (none : Option (Int32 × (Nat → Int32) × (Nat → Int32) × Int32 × Int32 × Int32 × Int32 × Int32 × Int32 × (Nat → Int32) × Int32 × Int32 × Int32 × Int32 × Int32 × (Nat → Int32) × (Nat → Int32) × Int32 × Int32 × Int32 × Int32 × Int32 × Int32 × (Nat → Int32) × Int32 × Int32 × Int32 × Int32 × Int32 × (Nat → Int32) × (Nat → Int32) × Int32)) = some u from hf)
        have hf := hf_f hf ht5
        by_cases ht12 : v1 = 1
        · have hf := hf_t hf ht12
          refine q_aald (j := 1) hC hK hV 1 rfl ht12 (by decide) rfl dX11_alike_47 ?_
          refine lv_aload_n hx hb dX11_alike_48 rfl (lv_at hl 0 rfl) ?_
          refine q_get (v := .ref (ra0 2)) hC hK hV fl_X11_25 0 rfl rfl dX11_alike_49 ?_
          refine lv_iload_n hx hb dX11_alike_52 rfl (lv_at hl 2 rfl) ?_
          by_cases ht13 : v2 = 0
          · have hf := hf_t hf ht13
            refine q_aald (j := 0) hC hK hV 1 rfl ht13 (by decide) rfl dX11_alike_53 ?_
            refine lv_iload hx hb dX11_alike_54 (lv_at hl 5 rfl) ?_
            obtain ⟨u14, hc14, hf⟩ := hf_b hf
            refine aft_i (run_v hC (k_X8_unlikex l D cs h3 ra3 h6 ra6 h5 ra5 h1 ra1 h2 ra2 h4 ra4 u4.1 u4.2.1 u4.2.2 y6_0 y6_1 y6_2 y6_3 y6_4 x6_5 x6_6 y5_0 y5_1 y5_2 y5_3 y5_4 x5_5 x5_6 y1_1 y1_2 x1_3 x1_4 x1_5 x1_6 x1_7 x1_8 y1_9 x1_10 x1_11 x1_12 x1_13 x1_14 y2_1 y2_2 x2_3 x2_4 x2_5 x2_6 x2_7 x2_8 y2_9 x2_10 x2_11 x2_12 x2_13 x2_14 y4_0 y4_1 y4_2 x4_3 v5 u14 H.size hc14) cd_X8_unlike cv_X8_unlike ml_X11_209 rfl rfl ⟨by decide, by decide⟩ hK hV (fr_pre hK hV [10, 11, 12, 23, 24, 25, 26, 27, 28, 17, 18, 19, 20, 21, 22, 2, 3, 4, 5, 6, 7, 8, 9, 13, 14, 15, 16] rfl (by decide)) (ci := 8) (q0 := 10) rfl rfl rfl rfl hl.1 rfl (Nat.le_of_ble_eq_true rfl) dX11_alike_56) hV (va_free hV.2.1 hV.2.2 hA [10, 11, 12, 23, 24, 25, 26, 27, 28, 17, 18, 19, 20, 21, 22, 2, 3, 4, 5, 6, 7, 8, 9, 13, 14, 15, 16] rfl) (fr_jn (s := s) (wn := wY11 cs h0 o0_0 h4 h5 h6 h7 o0_3 o0_4 o0_5 o0_6 h1 h2 h3 o0_10 o0_11 o0_12 o0_13 o0_14 ra0 x0_15 ++ (wX0 cs h1 h4 ra1 u14.2.2.1 u14.2.2.2.1 u14.2.2.2.2.1 u14.2.2.2.2.2.1 u14.2.2.2.2.2.2.1 u14.2.2.2.2.2.2.2.1 u14.2.2.2.2.2.2.2.2.1 u14.2.2.2.2.2.2.2.2.2.1 u14.2.2.2.2.2.2.2.2.2.2.1 u14.2.2.2.2.2.2.2.2.2.2.2.1 u14.2.2.2.2.2.2.2.2.2.2.2.2.1 u14.2.2.2.2.2.2.2.2.2.2.2.2.2.1 u14.2.2.2.2.2.2.2.2.2.2.2.2.2.2.1 u14.2.2.2.2.2.2.2.2.2.2.2.2.2.2.2.1 ++ (wX0 cs h2 h4 ra2 u14.2.2.2.2.2.2.2.2.2.2.2.2.2.2.2.2.1 u14.2.2.2.2.2.2.2.2.2.2.2.2.2.2.2.2.2.1 u14.2.2.2.2.2.2.2.2.2.2.2.2.2.2.2.2.2.2.1 u14.2.2.2.2.2.2.2.2.2.2.2.2.2.2.2.2.2.2.2.1 u14.2.2.2.2.2.2.2.2.2.2.2.2.2.2.2.2.2.2.2.2.1 u14.2.2.2.2.2.2.2.2.2.2.2.2.2.2.2.2.2.2.2.2.2.1 u14.2.2.2.2.2.2.2.2.2.2.2.2.2.2.2.2.2.2.2.2.2.2.1 u14.2.2.2.2.2.2.2.2.2.2.2.2.2.2.2.2.2.2.2.2.2.2.2.1 u14.2.2.2.2.2.2.2.2.2.2.2.2.2.2.2.2.2.2.2.2.2.2.2.2.1 u14.2.2.2.2.2.2.2.2.2.2.2.2.2.2.2.2.2.2.2.2.2.2.2.2.2.1 u14.2.2.2.2.2.2.2.2.2.2.2.2.2.2.2.2.2.2.2.2.2.2.2.2.2.2.1 u14.2.2.2.2.2.2.2.2.2.2.2.2.2.2.2.2.2.2.2.2.2.2.2.2.2.2.2.1 u14.2.2.2.2.2.2.2.2.2.2.2.2.2.2.2.2.2.2.2.2.2.2.2.2.2.2.2.2.1 u14.2.2.2.2.2.2.2.2.2.2.2.2.2.2.2.2.2.2.2.2.2.2.2.2.2.2.2.2.2 ++ (wX8 cs h3 h4 h1 h2 ra3 u14.2.1 u4.2.1 u4.2.2 ++ (wX10 cs h4 ra4 y4_0 y4_1 y4_2 x4_3 ++ (wX4 cs h5 ra5 y5_0 y5_1 y5_2 y5_3 y5_4 x5_5 x5_6 ++ (wX4 cs h6 ra6 y6_0 y6_1 y6_2 y6_3 y6_4 x6_5 x6_6 ++ (wX4 cs h7 ra7 y7_0 y7_1 y7_2 y7_3 y7_4 x7_5 x7_6)))))))) hV hA [10, 11, 12, 23, 24, 25, 26, 27, 28, 17, 18, 19, 20, 21, 22, 2, 3, 4, 5, 6, 7, 8, 9, 13, 14, 15, 16] [0, 1, 29, 30, 31, 32, 33, 34] [0, 1, 23, 24, 25, 26, 27, 28, 29, 30, 8, 9, 10, 31, 32, 33, 34, 17, 18, 19, 20, 21, 22, 11, 12, 13, 14, 15, 16, 2, 3, 4, 5, 6, 7] rfl rfl (by decide) (by decide) rfl (by decide)) (fun H locs hV => ?_)
            obtain rfl := Option.some.inj hf
            exact q_ret hC hr hlocks hV dX11_alike_59
          have hf := hf_f hf ht13
          by_cases ht15 : v2 = 1
          · have hf := hf_t hf ht15
            refine q_aald (j := 1) hC hK hV 1 rfl ht15 (by decide) rfl dX11_alike_53 ?_
            refine lv_iload hx hb dX11_alike_54 (lv_at hl 5 rfl) ?_
            obtain ⟨u16, hc16, hf⟩ := hf_b hf
            refine aft_i (run_v hC (k_X8_unlikes l D cs h3 ra3 h6 ra6 h1 ra1 h2 ra2 h4 ra4 u4.1 u4.2.1 u4.2.2 y6_0 y6_1 y6_2 y6_3 y6_4 x6_5 x6_6 y1_1 y1_2 x1_3 x1_4 x1_5 x1_6 x1_7 x1_8 y1_9 x1_10 x1_11 x1_12 x1_13 x1_14 y2_1 y2_2 x2_3 x2_4 x2_5 x2_6 x2_7 x2_8 y2_9 x2_10 x2_11 x2_12 x2_13 x2_14 y4_0 y4_1 y4_2 x4_3 v5 u16 H.size hc16) cd_X8_unlike cv_X8_unlike ml_X11_209 rfl rfl ⟨by decide, by decide⟩ hK hV (fr_pre hK hV [10, 11, 12, 23, 24, 25, 26, 27, 28, 2, 3, 4, 5, 6, 7, 8, 9, 13, 14, 15, 16] rfl (by decide)) (ci := 8) (q0 := 10) rfl rfl rfl rfl hl.1 rfl (Nat.le_of_ble_eq_true rfl) dX11_alike_56) hV (va_free hV.2.1 hV.2.2 hA [10, 11, 12, 23, 24, 25, 26, 27, 28, 2, 3, 4, 5, 6, 7, 8, 9, 13, 14, 15, 16] rfl) (fr_jn (s := s) (wn := wY11 cs h0 o0_0 h4 h5 h6 h7 o0_3 o0_4 o0_5 o0_6 h1 h2 h3 o0_10 o0_11 o0_12 o0_13 o0_14 ra0 x0_15 ++ (wX0 cs h1 h4 ra1 u16.2.2.1 u16.2.2.2.1 u16.2.2.2.2.1 u16.2.2.2.2.2.1 u16.2.2.2.2.2.2.1 u16.2.2.2.2.2.2.2.1 u16.2.2.2.2.2.2.2.2.1 u16.2.2.2.2.2.2.2.2.2.1 u16.2.2.2.2.2.2.2.2.2.2.1 u16.2.2.2.2.2.2.2.2.2.2.2.1 u16.2.2.2.2.2.2.2.2.2.2.2.2.1 u16.2.2.2.2.2.2.2.2.2.2.2.2.2.1 u16.2.2.2.2.2.2.2.2.2.2.2.2.2.2.1 u16.2.2.2.2.2.2.2.2.2.2.2.2.2.2.2.1 ++ (wX0 cs h2 h4 ra2 u16.2.2.2.2.2.2.2.2.2.2.2.2.2.2.2.2.1 u16.2.2.2.2.2.2.2.2.2.2.2.2.2.2.2.2.2.1 u16.2.2.2.2.2.2.2.2.2.2.2.2.2.2.2.2.2.2.1 u16.2.2.2.2.2.2.2.2.2.2.2.2.2.2.2.2.2.2.2.1 u16.2.2.2.2.2.2.2.2.2.2.2.2.2.2.2.2.2.2.2.2.1 u16.2.2.2.2.2.2.2.2.2.2.2.2.2.2.2.2.2.2.2.2.2.1 u16.2.2.2.2.2.2.2.2.2.2.2.2.2.2.2.2.2.2.2.2.2.2.1 u16.2.2.2.2.2.2.2.2.2.2.2.2.2.2.2.2.2.2.2.2.2.2.2.1 u16.2.2.2.2.2.2.2.2.2.2.2.2.2.2.2.2.2.2.2.2.2.2.2.2.1 u16.2.2.2.2.2.2.2.2.2.2.2.2.2.2.2.2.2.2.2.2.2.2.2.2.2.1 u16.2.2.2.2.2.2.2.2.2.2.2.2.2.2.2.2.2.2.2.2.2.2.2.2.2.2.1 u16.2.2.2.2.2.2.2.2.2.2.2.2.2.2.2.2.2.2.2.2.2.2.2.2.2.2.2.1 u16.2.2.2.2.2.2.2.2.2.2.2.2.2.2.2.2.2.2.2.2.2.2.2.2.2.2.2.2.1 u16.2.2.2.2.2.2.2.2.2.2.2.2.2.2.2.2.2.2.2.2.2.2.2.2.2.2.2.2.2 ++ (wX8 cs h3 h4 h1 h2 ra3 u16.2.1 u4.2.1 u4.2.2 ++ (wX10 cs h4 ra4 y4_0 y4_1 y4_2 x4_3 ++ (wX4 cs h5 ra5 y5_0 y5_1 y5_2 y5_3 y5_4 x5_5 x5_6 ++ (wX4 cs h6 ra6 y6_0 y6_1 y6_2 y6_3 y6_4 x6_5 x6_6 ++ (wX4 cs h7 ra7 y7_0 y7_1 y7_2 y7_3 y7_4 x7_5 x7_6)))))))) hV hA [10, 11, 12, 23, 24, 25, 26, 27, 28, 2, 3, 4, 5, 6, 7, 8, 9, 13, 14, 15, 16] [0, 1, 17, 18, 19, 20, 21, 22, 29, 30, 31, 32, 33, 34] [0, 1, 23, 24, 25, 26, 27, 28, 29, 30, 14, 15, 16, 31, 32, 33, 34, 2, 3, 4, 5, 6, 7, 17, 18, 19, 20, 21, 22, 8, 9, 10, 11, 12, 13] rfl rfl (by decide) (by decide) rfl (by decide)) (fun H locs hV => ?_)
            obtain rfl := Option.some.inj hf
            exact q_ret hC hr hlocks hV dX11_alike_59
          have hf := hf_f hf ht15
          by_cases ht17 : v2 = 2
          · have hf := hf_t hf ht17
            refine q_aald (j := 2) hC hK hV 1 rfl ht17 (by decide) rfl dX11_alike_53 ?_
            refine lv_iload hx hb dX11_alike_54 (lv_at hl 5 rfl) ?_
            obtain ⟨u18, hc18, hf⟩ := hf_b hf
            refine aft_i (run_v hC (k_X8_unlikex l D cs h3 ra3 h6 ra6 h7 ra7 h1 ra1 h2 ra2 h4 ra4 u4.1 u4.2.1 u4.2.2 y6_0 y6_1 y6_2 y6_3 y6_4 x6_5 x6_6 y7_0 y7_1 y7_2 y7_3 y7_4 x7_5 x7_6 y1_1 y1_2 x1_3 x1_4 x1_5 x1_6 x1_7 x1_8 y1_9 x1_10 x1_11 x1_12 x1_13 x1_14 y2_1 y2_2 x2_3 x2_4 x2_5 x2_6 x2_7 x2_8 y2_9 x2_10 x2_11 x2_12 x2_13 x2_14 y4_0 y4_1 y4_2 x4_3 v5 u18 H.size hc18) cd_X8_unlike cv_X8_unlike ml_X11_209 rfl rfl ⟨by decide, by decide⟩ hK hV (fr_pre hK hV [10, 11, 12, 23, 24, 25, 26, 27, 28, 29, 30, 31, 32, 33, 34, 2, 3, 4, 5, 6, 7, 8, 9, 13, 14, 15, 16] rfl (by decide)) (ci := 8) (q0 := 10) rfl rfl rfl rfl hl.1 rfl (Nat.le_of_ble_eq_true rfl) dX11_alike_56) hV (va_free hV.2.1 hV.2.2 hA [10, 11, 12, 23, 24, 25, 26, 27, 28, 29, 30, 31, 32, 33, 34, 2, 3, 4, 5, 6, 7, 8, 9, 13, 14, 15, 16] rfl) (fr_jn (s := s) (wn := wY11 cs h0 o0_0 h4 h5 h6 h7 o0_3 o0_4 o0_5 o0_6 h1 h2 h3 o0_10 o0_11 o0_12 o0_13 o0_14 ra0 x0_15 ++ (wX0 cs h1 h4 ra1 u18.2.2.1 u18.2.2.2.1 u18.2.2.2.2.1 u18.2.2.2.2.2.1 u18.2.2.2.2.2.2.1 u18.2.2.2.2.2.2.2.1 u18.2.2.2.2.2.2.2.2.1 u18.2.2.2.2.2.2.2.2.2.1 u18.2.2.2.2.2.2.2.2.2.2.1 u18.2.2.2.2.2.2.2.2.2.2.2.1 u18.2.2.2.2.2.2.2.2.2.2.2.2.1 u18.2.2.2.2.2.2.2.2.2.2.2.2.2.1 u18.2.2.2.2.2.2.2.2.2.2.2.2.2.2.1 u18.2.2.2.2.2.2.2.2.2.2.2.2.2.2.2.1 ++ (wX0 cs h2 h4 ra2 u18.2.2.2.2.2.2.2.2.2.2.2.2.2.2.2.2.1 u18.2.2.2.2.2.2.2.2.2.2.2.2.2.2.2.2.2.1 u18.2.2.2.2.2.2.2.2.2.2.2.2.2.2.2.2.2.2.1 u18.2.2.2.2.2.2.2.2.2.2.2.2.2.2.2.2.2.2.2.1 u18.2.2.2.2.2.2.2.2.2.2.2.2.2.2.2.2.2.2.2.2.1 u18.2.2.2.2.2.2.2.2.2.2.2.2.2.2.2.2.2.2.2.2.2.1 u18.2.2.2.2.2.2.2.2.2.2.2.2.2.2.2.2.2.2.2.2.2.2.1 u18.2.2.2.2.2.2.2.2.2.2.2.2.2.2.2.2.2.2.2.2.2.2.2.1 u18.2.2.2.2.2.2.2.2.2.2.2.2.2.2.2.2.2.2.2.2.2.2.2.2.1 u18.2.2.2.2.2.2.2.2.2.2.2.2.2.2.2.2.2.2.2.2.2.2.2.2.2.1 u18.2.2.2.2.2.2.2.2.2.2.2.2.2.2.2.2.2.2.2.2.2.2.2.2.2.2.1 u18.2.2.2.2.2.2.2.2.2.2.2.2.2.2.2.2.2.2.2.2.2.2.2.2.2.2.2.1 u18.2.2.2.2.2.2.2.2.2.2.2.2.2.2.2.2.2.2.2.2.2.2.2.2.2.2.2.2.1 u18.2.2.2.2.2.2.2.2.2.2.2.2.2.2.2.2.2.2.2.2.2.2.2.2.2.2.2.2.2 ++ (wX8 cs h3 h4 h1 h2 ra3 u18.2.1 u4.2.1 u4.2.2 ++ (wX10 cs h4 ra4 y4_0 y4_1 y4_2 x4_3 ++ (wX4 cs h5 ra5 y5_0 y5_1 y5_2 y5_3 y5_4 x5_5 x5_6 ++ (wX4 cs h6 ra6 y6_0 y6_1 y6_2 y6_3 y6_4 x6_5 x6_6 ++ (wX4 cs h7 ra7 y7_0 y7_1 y7_2 y7_3 y7_4 x7_5 x7_6)))))))) hV hA [10, 11, 12, 23, 24, 25, 26, 27, 28, 29, 30, 31, 32, 33, 34, 2, 3, 4, 5, 6, 7, 8, 9, 13, 14, 15, 16] [0, 1, 17, 18, 19, 20, 21, 22] [0, 1, 23, 24, 25, 26, 27, 28, 29, 30, 8, 9, 10, 31, 32, 33, 34, 2, 3, 4, 5, 6, 7, 11, 12, 13, 14, 15, 16, 17, 18, 19, 20, 21, 22] rfl rfl (by decide) (by decide) rfl (by decide)) (fun H locs hV => ?_)
            obtain rfl := Option.some.inj hf
            exact q_ret hC hr hlocks hV dX11_alike_59
          have hf := hf_f hf ht17
          exact hf_no (show (none : Option (Int32 × (Nat → Int32) × (Nat → Int32) × Int32 × Int32 × Int32 × Int32 × Int32 × Int32 × (Nat → Int32) × Int32 × Int32 × Int32 × Int32 × Int32 × (Nat → Int32) × (Nat → Int32) × Int32 × Int32 × Int32 × Int32 × Int32 × Int32 × (Nat → Int32) × Int32 × Int32 × Int32 × Int32 × Int32 × (Nat → Int32) × (Nat → Int32) × Int32)) = some u from hf)
        have hf := hf_f hf ht12
        by_cases ht19 : v1 = 2
        · have hf := hf_t hf ht19
          refine q_aald (j := 2) hC hK hV 1 rfl ht19 (by decide) rfl dX11_alike_47 ?_
          refine lv_aload_n hx hb dX11_alike_48 rfl (lv_at hl 0 rfl) ?_
          refine q_get (v := .ref (ra0 2)) hC hK hV fl_X11_25 0 rfl rfl dX11_alike_49 ?_
          refine lv_iload_n hx hb dX11_alike_52 rfl (lv_at hl 2 rfl) ?_
          by_cases ht20 : v2 = 0
          · have hf := hf_t hf ht20
            refine q_aald (j := 0) hC hK hV 1 rfl ht20 (by decide) rfl dX11_alike_53 ?_
            refine lv_iload hx hb dX11_alike_54 (lv_at hl 5 rfl) ?_
            obtain ⟨u21, hc21, hf⟩ := hf_b hf
            refine aft_i (run_v hC (k_X8_unlikex l D cs h3 ra3 h7 ra7 h5 ra5 h1 ra1 h2 ra2 h4 ra4 u4.1 u4.2.1 u4.2.2 y7_0 y7_1 y7_2 y7_3 y7_4 x7_5 x7_6 y5_0 y5_1 y5_2 y5_3 y5_4 x5_5 x5_6 y1_1 y1_2 x1_3 x1_4 x1_5 x1_6 x1_7 x1_8 y1_9 x1_10 x1_11 x1_12 x1_13 x1_14 y2_1 y2_2 x2_3 x2_4 x2_5 x2_6 x2_7 x2_8 y2_9 x2_10 x2_11 x2_12 x2_13 x2_14 y4_0 y4_1 y4_2 x4_3 v5 u21 H.size hc21) cd_X8_unlike cv_X8_unlike ml_X11_209 rfl rfl ⟨by decide, by decide⟩ hK hV (fr_pre hK hV [10, 11, 12, 29, 30, 31, 32, 33, 34, 17, 18, 19, 20, 21, 22, 2, 3, 4, 5, 6, 7, 8, 9, 13, 14, 15, 16] rfl (by decide)) (ci := 8) (q0 := 10) rfl rfl rfl rfl hl.1 rfl (Nat.le_of_ble_eq_true rfl) dX11_alike_56) hV (va_free hV.2.1 hV.2.2 hA [10, 11, 12, 29, 30, 31, 32, 33, 34, 17, 18, 19, 20, 21, 22, 2, 3, 4, 5, 6, 7, 8, 9, 13, 14, 15, 16] rfl) (fr_jn (s := s) (wn := wY11 cs h0 o0_0 h4 h5 h6 h7 o0_3 o0_4 o0_5 o0_6 h1 h2 h3 o0_10 o0_11 o0_12 o0_13 o0_14 ra0 x0_15 ++ (wX0 cs h1 h4 ra1 u21.2.2.1 u21.2.2.2.1 u21.2.2.2.2.1 u21.2.2.2.2.2.1 u21.2.2.2.2.2.2.1 u21.2.2.2.2.2.2.2.1 u21.2.2.2.2.2.2.2.2.1 u21.2.2.2.2.2.2.2.2.2.1 u21.2.2.2.2.2.2.2.2.2.2.1 u21.2.2.2.2.2.2.2.2.2.2.2.1 u21.2.2.2.2.2.2.2.2.2.2.2.2.1 u21.2.2.2.2.2.2.2.2.2.2.2.2.2.1 u21.2.2.2.2.2.2.2.2.2.2.2.2.2.2.1 u21.2.2.2.2.2.2.2.2.2.2.2.2.2.2.2.1 ++ (wX0 cs h2 h4 ra2 u21.2.2.2.2.2.2.2.2.2.2.2.2.2.2.2.2.1 u21.2.2.2.2.2.2.2.2.2.2.2.2.2.2.2.2.2.1 u21.2.2.2.2.2.2.2.2.2.2.2.2.2.2.2.2.2.2.1 u21.2.2.2.2.2.2.2.2.2.2.2.2.2.2.2.2.2.2.2.1 u21.2.2.2.2.2.2.2.2.2.2.2.2.2.2.2.2.2.2.2.2.1 u21.2.2.2.2.2.2.2.2.2.2.2.2.2.2.2.2.2.2.2.2.2.1 u21.2.2.2.2.2.2.2.2.2.2.2.2.2.2.2.2.2.2.2.2.2.2.1 u21.2.2.2.2.2.2.2.2.2.2.2.2.2.2.2.2.2.2.2.2.2.2.2.1 u21.2.2.2.2.2.2.2.2.2.2.2.2.2.2.2.2.2.2.2.2.2.2.2.2.1 u21.2.2.2.2.2.2.2.2.2.2.2.2.2.2.2.2.2.2.2.2.2.2.2.2.2.1 u21.2.2.2.2.2.2.2.2.2.2.2.2.2.2.2.2.2.2.2.2.2.2.2.2.2.2.1 u21.2.2.2.2.2.2.2.2.2.2.2.2.2.2.2.2.2.2.2.2.2.2.2.2.2.2.2.1 u21.2.2.2.2.2.2.2.2.2.2.2.2.2.2.2.2.2.2.2.2.2.2.2.2.2.2.2.2.1 u21.2.2.2.2.2.2.2.2.2.2.2.2.2.2.2.2.2.2.2.2.2.2.2.2.2.2.2.2.2 ++ (wX8 cs h3 h4 h1 h2 ra3 u21.2.1 u4.2.1 u4.2.2 ++ (wX10 cs h4 ra4 y4_0 y4_1 y4_2 x4_3 ++ (wX4 cs h5 ra5 y5_0 y5_1 y5_2 y5_3 y5_4 x5_5 x5_6 ++ (wX4 cs h6 ra6 y6_0 y6_1 y6_2 y6_3 y6_4 x6_5 x6_6 ++ (wX4 cs h7 ra7 y7_0 y7_1 y7_2 y7_3 y7_4 x7_5 x7_6)))))))) hV hA [10, 11, 12, 29, 30, 31, 32, 33, 34, 17, 18, 19, 20, 21, 22, 2, 3, 4, 5, 6, 7, 8, 9, 13, 14, 15, 16] [0, 1, 23, 24, 25, 26, 27, 28] [0, 1, 23, 24, 25, 26, 27, 28, 29, 30, 8, 9, 10, 31, 32, 33, 34, 17, 18, 19, 20, 21, 22, 2, 3, 4, 5, 6, 7, 11, 12, 13, 14, 15, 16] rfl rfl (by decide) (by decide) rfl (by decide)) (fun H locs hV => ?_)
            obtain rfl := Option.some.inj hf
            exact q_ret hC hr hlocks hV dX11_alike_59
          have hf := hf_f hf ht20
          by_cases ht22 : v2 = 1
          · have hf := hf_t hf ht22
            refine q_aald (j := 1) hC hK hV 1 rfl ht22 (by decide) rfl dX11_alike_53 ?_
            refine lv_iload hx hb dX11_alike_54 (lv_at hl 5 rfl) ?_
            obtain ⟨u23, hc23, hf⟩ := hf_b hf
            refine aft_i (run_v hC (k_X8_unlikex l D cs h3 ra3 h7 ra7 h6 ra6 h1 ra1 h2 ra2 h4 ra4 u4.1 u4.2.1 u4.2.2 y7_0 y7_1 y7_2 y7_3 y7_4 x7_5 x7_6 y6_0 y6_1 y6_2 y6_3 y6_4 x6_5 x6_6 y1_1 y1_2 x1_3 x1_4 x1_5 x1_6 x1_7 x1_8 y1_9 x1_10 x1_11 x1_12 x1_13 x1_14 y2_1 y2_2 x2_3 x2_4 x2_5 x2_6 x2_7 x2_8 y2_9 x2_10 x2_11 x2_12 x2_13 x2_14 y4_0 y4_1 y4_2 x4_3 v5 u23 H.size hc23) cd_X8_unlike cv_X8_unlike ml_X11_209 rfl rfl ⟨by decide, by decide⟩ hK hV (fr_pre hK hV [10, 11, 12, 29, 30, 31, 32, 33, 34, 23, 24, 25, 26, 27, 28, 2, 3, 4, 5, 6, 7, 8, 9, 13, 14, 15, 16] rfl (by decide)) (ci := 8) (q0 := 10) rfl rfl rfl rfl hl.1 rfl (Nat.le_of_ble_eq_true rfl) dX11_alike_56) hV (va_free hV.2.1 hV.2.2 hA [10, 11, 12, 29, 30, 31, 32, 33, 34, 23, 24, 25, 26, 27, 28, 2, 3, 4, 5, 6, 7, 8, 9, 13, 14, 15, 16] rfl) (fr_jn (s := s) (wn := wY11 cs h0 o0_0 h4 h5 h6 h7 o0_3 o0_4 o0_5 o0_6 h1 h2 h3 o0_10 o0_11 o0_12 o0_13 o0_14 ra0 x0_15 ++ (wX0 cs h1 h4 ra1 u23.2.2.1 u23.2.2.2.1 u23.2.2.2.2.1 u23.2.2.2.2.2.1 u23.2.2.2.2.2.2.1 u23.2.2.2.2.2.2.2.1 u23.2.2.2.2.2.2.2.2.1 u23.2.2.2.2.2.2.2.2.2.1 u23.2.2.2.2.2.2.2.2.2.2.1 u23.2.2.2.2.2.2.2.2.2.2.2.1 u23.2.2.2.2.2.2.2.2.2.2.2.2.1 u23.2.2.2.2.2.2.2.2.2.2.2.2.2.1 u23.2.2.2.2.2.2.2.2.2.2.2.2.2.2.1 u23.2.2.2.2.2.2.2.2.2.2.2.2.2.2.2.1 ++ (wX0 cs h2 h4 ra2 u23.2.2.2.2.2.2.2.2.2.2.2.2.2.2.2.2.1 u23.2.2.2.2.2.2.2.2.2.2.2.2.2.2.2.2.2.1 u23.2.2.2.2.2.2.2.2.2.2.2.2.2.2.2.2.2.2.1 u23.2.2.2.2.2.2.2.2.2.2.2.2.2.2.2.2.2.2.2.1 u23.2.2.2.2.2.2.2.2.2.2.2.2.2.2.2.2.2.2.2.2.1 u23.2.2.2.2.2.2.2.2.2.2.2.2.2.2.2.2.2.2.2.2.2.1 u23.2.2.2.2.2.2.2.2.2.2.2.2.2.2.2.2.2.2.2.2.2.2.1 u23.2.2.2.2.2.2.2.2.2.2.2.2.2.2.2.2.2.2.2.2.2.2.2.1 u23.2.2.2.2.2.2.2.2.2.2.2.2.2.2.2.2.2.2.2.2.2.2.2.2.1 u23.2.2.2.2.2.2.2.2.2.2.2.2.2.2.2.2.2.2.2.2.2.2.2.2.2.1 u23.2.2.2.2.2.2.2.2.2.2.2.2.2.2.2.2.2.2.2.2.2.2.2.2.2.2.1 u23.2.2.2.2.2.2.2.2.2.2.2.2.2.2.2.2.2.2.2.2.2.2.2.2.2.2.2.1 u23.2.2.2.2.2.2.2.2.2.2.2.2.2.2.2.2.2.2.2.2.2.2.2.2.2.2.2.2.1 u23.2.2.2.2.2.2.2.2.2.2.2.2.2.2.2.2.2.2.2.2.2.2.2.2.2.2.2.2.2 ++ (wX8 cs h3 h4 h1 h2 ra3 u23.2.1 u4.2.1 u4.2.2 ++ (wX10 cs h4 ra4 y4_0 y4_1 y4_2 x4_3 ++ (wX4 cs h5 ra5 y5_0 y5_1 y5_2 y5_3 y5_4 x5_5 x5_6 ++ (wX4 cs h6 ra6 y6_0 y6_1 y6_2 y6_3 y6_4 x6_5 x6_6 ++ (wX4 cs h7 ra7 y7_0 y7_1 y7_2 y7_3 y7_4 x7_5 x7_6)))))))) hV hA [10, 11, 12, 29, 30, 31, 32, 33, 34, 23, 24, 25, 26, 27, 28, 2, 3, 4, 5, 6, 7, 8, 9, 13, 14, 15, 16] [0, 1, 17, 18, 19, 20, 21, 22] [0, 1, 23, 24, 25, 26, 27, 28, 29, 30, 8, 9, 10, 31, 32, 33, 34, 2, 3, 4, 5, 6, 7, 17, 18, 19, 20, 21, 22, 11, 12, 13, 14, 15, 16] rfl rfl (by decide) (by decide) rfl (by decide)) (fun H locs hV => ?_)
            obtain rfl := Option.some.inj hf
            exact q_ret hC hr hlocks hV dX11_alike_59
          have hf := hf_f hf ht22
          by_cases ht24 : v2 = 2
          · have hf := hf_t hf ht24
            refine q_aald (j := 2) hC hK hV 1 rfl ht24 (by decide) rfl dX11_alike_53 ?_
            refine lv_iload hx hb dX11_alike_54 (lv_at hl 5 rfl) ?_
            obtain ⟨u25, hc25, hf⟩ := hf_b hf
            refine aft_i (run_v hC (k_X8_unlikes l D cs h3 ra3 h7 ra7 h1 ra1 h2 ra2 h4 ra4 u4.1 u4.2.1 u4.2.2 y7_0 y7_1 y7_2 y7_3 y7_4 x7_5 x7_6 y1_1 y1_2 x1_3 x1_4 x1_5 x1_6 x1_7 x1_8 y1_9 x1_10 x1_11 x1_12 x1_13 x1_14 y2_1 y2_2 x2_3 x2_4 x2_5 x2_6 x2_7 x2_8 y2_9 x2_10 x2_11 x2_12 x2_13 x2_14 y4_0 y4_1 y4_2 x4_3 v5 u25 H.size hc25) cd_X8_unlike cv_X8_unlike ml_X11_209 rfl rfl ⟨by decide, by decide⟩ hK hV (fr_pre hK hV [10, 11, 12, 29, 30, 31, 32, 33, 34, 2, 3, 4, 5, 6, 7, 8, 9, 13, 14, 15, 16] rfl (by decide)) (ci := 8) (q0 := 10) rfl rfl rfl rfl hl.1 rfl (Nat.le_of_ble_eq_true rfl) dX11_alike_56) hV (va_free hV.2.1 hV.2.2 hA [10, 11, 12, 29, 30, 31, 32, 33, 34, 2, 3, 4, 5, 6, 7, 8, 9, 13, 14, 15, 16] rfl) (fr_jn (s := s) (wn := wY11 cs h0 o0_0 h4 h5 h6 h7 o0_3 o0_4 o0_5 o0_6 h1 h2 h3 o0_10 o0_11 o0_12 o0_13 o0_14 ra0 x0_15 ++ (wX0 cs h1 h4 ra1 u25.2.2.1 u25.2.2.2.1 u25.2.2.2.2.1 u25.2.2.2.2.2.1 u25.2.2.2.2.2.2.1 u25.2.2.2.2.2.2.2.1 u25.2.2.2.2.2.2.2.2.1 u25.2.2.2.2.2.2.2.2.2.1 u25.2.2.2.2.2.2.2.2.2.2.1 u25.2.2.2.2.2.2.2.2.2.2.2.1 u25.2.2.2.2.2.2.2.2.2.2.2.2.1 u25.2.2.2.2.2.2.2.2.2.2.2.2.2.1 u25.2.2.2.2.2.2.2.2.2.2.2.2.2.2.1 u25.2.2.2.2.2.2.2.2.2.2.2.2.2.2.2.1 ++ (wX0 cs h2 h4 ra2 u25.2.2.2.2.2.2.2.2.2.2.2.2.2.2.2.2.1 u25.2.2.2.2.2.2.2.2.2.2.2.2.2.2.2.2.2.1 u25.2.2.2.2.2.2.2.2.2.2.2.2.2.2.2.2.2.2.1 u25.2.2.2.2.2.2.2.2.2.2.2.2.2.2.2.2.2.2.2.1 u25.2.2.2.2.2.2.2.2.2.2.2.2.2.2.2.2.2.2.2.2.1 u25.2.2.2.2.2.2.2.2.2.2.2.2.2.2.2.2.2.2.2.2.2.1 u25.2.2.2.2.2.2.2.2.2.2.2.2.2.2.2.2.2.2.2.2.2.2.1 u25.2.2.2.2.2.2.2.2.2.2.2.2.2.2.2.2.2.2.2.2.2.2.2.1 u25.2.2.2.2.2.2.2.2.2.2.2.2.2.2.2.2.2.2.2.2.2.2.2.2.1 u25.2.2.2.2.2.2.2.2.2.2.2.2.2.2.2.2.2.2.2.2.2.2.2.2.2.1 u25.2.2.2.2.2.2.2.2.2.2.2.2.2.2.2.2.2.2.2.2.2.2.2.2.2.2.1 u25.2.2.2.2.2.2.2.2.2.2.2.2.2.2.2.2.2.2.2.2.2.2.2.2.2.2.2.1 u25.2.2.2.2.2.2.2.2.2.2.2.2.2.2.2.2.2.2.2.2.2.2.2.2.2.2.2.2.1 u25.2.2.2.2.2.2.2.2.2.2.2.2.2.2.2.2.2.2.2.2.2.2.2.2.2.2.2.2.2 ++ (wX8 cs h3 h4 h1 h2 ra3 u25.2.1 u4.2.1 u4.2.2 ++ (wX10 cs h4 ra4 y4_0 y4_1 y4_2 x4_3 ++ (wX4 cs h5 ra5 y5_0 y5_1 y5_2 y5_3 y5_4 x5_5 x5_6 ++ (wX4 cs h6 ra6 y6_0 y6_1 y6_2 y6_3 y6_4 x6_5 x6_6 ++ (wX4 cs h7 ra7 y7_0 y7_1 y7_2 y7_3 y7_4 x7_5 x7_6)))))))) hV hA [10, 11, 12, 29, 30, 31, 32, 33, 34, 2, 3, 4, 5, 6, 7, 8, 9, 13, 14, 15, 16] [0, 1, 17, 18, 19, 20, 21, 22, 23, 24, 25, 26, 27, 28] [0, 1, 23, 24, 25, 26, 27, 28, 29, 30, 14, 15, 16, 31, 32, 33, 34, 2, 3, 4, 5, 6, 7, 8, 9, 10, 11, 12, 13, 17, 18, 19, 20, 21, 22] rfl rfl (by decide) (by decide) rfl (by decide)) (fun H locs hV => ?_)
            obtain rfl := Option.some.inj hf
            exact q_ret hC hr hlocks hV dX11_alike_59
          have hf := hf_f hf ht24
          exact hf_no (show (none : Option (Int32 × (Nat → Int32) × (Nat → Int32) × Int32 × Int32 × Int32 × Int32 × Int32 × Int32 × (Nat → Int32) × Int32 × Int32 × Int32 × Int32 × Int32 × (Nat → Int32) × (Nat → Int32) × Int32 × Int32 × Int32 × Int32 × Int32 × Int32 × (Nat → Int32) × Int32 × Int32 × Int32 × Int32 × Int32 × (Nat → Int32) × (Nat → Int32) × Int32)) = some u from hf)
        have hf := hf_f hf ht19
        exact hf_no (show (none : Option (Int32 × (Nat → Int32) × (Nat → Int32) × Int32 × Int32 × Int32 × Int32 × Int32 × Int32 × (Nat → Int32) × Int32 × Int32 × Int32 × Int32 × Int32 × (Nat → Int32) × (Nat → Int32) × Int32 × Int32 × Int32 × Int32 × Int32 × Int32 × (Nat → Int32) × Int32 × Int32 × Int32 × Int32 × Int32 × (Nat → Int32) × (Nat → Int32) × Int32)) = some u from hf)
      · have hf := hf_t hf hc
        refine lv_bipush (v := (-3)) hx hb dX11_alike_25 (by decide) ?_
        obtain rfl := Option.some.inj hf
        exact q_ret hC hr hlocks hV dX11_alike_27
set_option maxRecDepth 100000 in
theorem k_X11_alike (l : Launch) (D : va_G) (cs : Nat → ClassId) (h0 : Nat) (o0_0 : Nat) (o0_3 : Nat) (o0_4 : Nat) (o0_5 : Nat) (o0_6 : Nat) (o0_10 : Nat) (o0_11 : Nat) (o0_12 : Nat) (o0_13 : Nat) (o0_14 : Nat) (ra0 : Nat → Nat) (h1 : Nat) (ra1 : Nat → Nat) (h2 : Nat) (ra2 : Nat → Nat) (h3 : Nat) (ra3 : Nat → Nat) (h4 : Nat) (ra4 : Nat → Nat) (h5 : Nat) (ra5 : Nat → Nat) (h6 : Nat) (ra6 : Nat → Nat) (h7 : Nat) (ra7 : Nat → Nat) (x0_15 : Int32) (y1_1 y1_2 : Nat → Int32) (x1_3 x1_4 x1_5 x1_6 x1_7 x1_8 : Int32) (y1_9 : Nat → Int32) (x1_10 x1_11 x1_12 x1_13 x1_14 : Int32) (y2_1 y2_2 : Nat → Int32) (x2_3 x2_4 x2_5 x2_6 x2_7 x2_8 : Int32) (y2_9 : Nat → Int32) (x2_10 x2_11 x2_12 x2_13 x2_14 : Int32) (y3_3 y3_4 : Nat → Int32) (x3_5 : Int32) (y4_0 y4_1 y4_2 : Nat → Int32) (x4_3 : Int32) (y5_0 y5_1 y5_2 y5_3 y5_4 : Nat → Int32) (x5_5 x5_6 : Int32) (y6_0 y6_1 y6_2 y6_3 y6_4 : Nat → Int32) (x6_5 x6_6 : Int32) (y7_0 y7_1 y7_2 y7_3 y7_4 : Nat → Int32) (x7_5 x7_6 : Int32) (v1 v2 v3 v4 v5 : Int32) (u : Int32 × (Nat → Int32) × (Nat → Int32) × Int32 × Int32 × Int32 × Int32 × Int32 × Int32 × (Nat → Int32) × Int32 × Int32 × Int32 × Int32 × Int32 × (Nat → Int32) × (Nat → Int32) × Int32 × Int32 × Int32 × Int32 × Int32 × Int32 × (Nat → Int32) × Int32 × Int32 × Int32 × Int32 × Int32 × (Nat → Int32) × (Nat → Int32) × Int32) (sz : Nat) (hf : f_X11_alike v1 v2 v3 v4 v5 y1_1 y1_2 x1_3 x1_4 x1_5 x1_6 x1_7 x1_8 y1_9 x1_10 x1_11 x1_12 x1_13 x1_14 y2_1 y2_2 x2_3 x2_4 x2_5 x2_6 x2_7 x2_8 y2_9 x2_10 x2_11 x2_12 x2_13 x2_14 y3_3 y3_4 x3_5 y4_0 y4_1 y4_2 x4_3 y5_0 y5_1 y5_2 y5_3 y5_4 x5_5 y6_0 y6_1 y6_2 y6_3 y6_4 x6_5 y7_0 y7_1 y7_2 y7_3 y7_4 x7_5 = some u) : Met l yX11_alike (WS yX11_alike cX11_alike 6 (some .int)) rm_X11_alike (va_Pc [.ref h0, .int v1, .int v2, .int v3, .int v4, .int v5] (PR D cs (wY11 cs h0 o0_0 h4 h5 h6 h7 o0_3 o0_4 o0_5 o0_6 h1 h2 h3 o0_10 o0_11 o0_12 o0_13 o0_14 ra0 x0_15 ++ (wX0 cs h1 h4 ra1 y1_1 y1_2 x1_3 x1_4 x1_5 x1_6 x1_7 x1_8 y1_9 x1_10 x1_11 x1_12 x1_13 x1_14 ++ (wX0 cs h2 h4 ra2 y2_1 y2_2 x2_3 x2_4 x2_5 x2_6 x2_7 x2_8 y2_9 x2_10 x2_11 x2_12 x2_13 x2_14 ++ (wX8 cs h3 h4 h1 h2 ra3 y3_3 y3_4 x3_5 ++ (wX10 cs h4 ra4 y4_0 y4_1 y4_2 x4_3 ++ (wX4 cs h5 ra5 y5_0 y5_1 y5_2 y5_3 y5_4 x5_5 x5_6 ++ (wX4 cs h6 ra6 y6_0 y6_1 y6_2 y6_3 y6_4 x6_5 x6_6 ++ (wX4 cs h7 ra7 y7_0 y7_1 y7_2 y7_3 y7_4 x7_5 x7_6)))))))) sz)) (QI D (wY11 cs h0 o0_0 h4 h5 h6 h7 o0_3 o0_4 o0_5 o0_6 h1 h2 h3 o0_10 o0_11 o0_12 o0_13 o0_14 ra0 x0_15 ++ (wX0 cs h1 h4 ra1 u.2.1 u.2.2.1 u.2.2.2.1 u.2.2.2.2.1 u.2.2.2.2.2.1 u.2.2.2.2.2.2.1 u.2.2.2.2.2.2.2.1 u.2.2.2.2.2.2.2.2.1 u.2.2.2.2.2.2.2.2.2.1 u.2.2.2.2.2.2.2.2.2.2.1 u.2.2.2.2.2.2.2.2.2.2.2.1 u.2.2.2.2.2.2.2.2.2.2.2.2.1 u.2.2.2.2.2.2.2.2.2.2.2.2.2.1 u.2.2.2.2.2.2.2.2.2.2.2.2.2.2.1 ++ (wX0 cs h2 h4 ra2 u.2.2.2.2.2.2.2.2.2.2.2.2.2.2.2.1 u.2.2.2.2.2.2.2.2.2.2.2.2.2.2.2.2.1 u.2.2.2.2.2.2.2.2.2.2.2.2.2.2.2.2.2.1 u.2.2.2.2.2.2.2.2.2.2.2.2.2.2.2.2.2.2.1 u.2.2.2.2.2.2.2.2.2.2.2.2.2.2.2.2.2.2.2.1 u.2.2.2.2.2.2.2.2.2.2.2.2.2.2.2.2.2.2.2.2.1 u.2.2.2.2.2.2.2.2.2.2.2.2.2.2.2.2.2.2.2.2.2.1 u.2.2.2.2.2.2.2.2.2.2.2.2.2.2.2.2.2.2.2.2.2.2.1 u.2.2.2.2.2.2.2.2.2.2.2.2.2.2.2.2.2.2.2.2.2.2.2.1 u.2.2.2.2.2.2.2.2.2.2.2.2.2.2.2.2.2.2.2.2.2.2.2.2.1 u.2.2.2.2.2.2.2.2.2.2.2.2.2.2.2.2.2.2.2.2.2.2.2.2.2.1 u.2.2.2.2.2.2.2.2.2.2.2.2.2.2.2.2.2.2.2.2.2.2.2.2.2.2.1 u.2.2.2.2.2.2.2.2.2.2.2.2.2.2.2.2.2.2.2.2.2.2.2.2.2.2.2.1 u.2.2.2.2.2.2.2.2.2.2.2.2.2.2.2.2.2.2.2.2.2.2.2.2.2.2.2.2.1 ++ (wX8 cs h3 h4 h1 h2 ra3 u.2.2.2.2.2.2.2.2.2.2.2.2.2.2.2.2.2.2.2.2.2.2.2.2.2.2.2.2.2.1 u.2.2.2.2.2.2.2.2.2.2.2.2.2.2.2.2.2.2.2.2.2.2.2.2.2.2.2.2.2.2.1 u.2.2.2.2.2.2.2.2.2.2.2.2.2.2.2.2.2.2.2.2.2.2.2.2.2.2.2.2.2.2.2 ++ (wX10 cs h4 ra4 y4_0 y4_1 y4_2 x4_3 ++ (wX4 cs h5 ra5 y5_0 y5_1 y5_2 y5_3 y5_4 x5_5 x5_6 ++ (wX4 cs h6 ra6 y6_0 y6_1 y6_2 y6_3 y6_4 x6_5 x6_6 ++ (wX4 cs h7 ra7 y7_0 y7_1 y7_2 y7_3 y7_4 x7_5 x7_6)))))))) (va_A (wY11 cs h0 o0_0 h4 h5 h6 h7 o0_3 o0_4 o0_5 o0_6 h1 h2 h3 o0_10 o0_11 o0_12 o0_13 o0_14 ra0 x0_15 ++ (wX0 cs h1 h4 ra1 y1_1 y1_2 x1_3 x1_4 x1_5 x1_6 x1_7 x1_8 y1_9 x1_10 x1_11 x1_12 x1_13 x1_14 ++ (wX0 cs h2 h4 ra2 y2_1 y2_2 x2_3 x2_4 x2_5 x2_6 x2_7 x2_8 y2_9 x2_10 x2_11 x2_12 x2_13 x2_14 ++ (wX8 cs h3 h4 h1 h2 ra3 y3_3 y3_4 x3_5 ++ (wX10 cs h4 ra4 y4_0 y4_1 y4_2 x4_3 ++ (wX4 cs h5 ra5 y5_0 y5_1 y5_2 y5_3 y5_4 x5_5 x5_6 ++ (wX4 cs h6 ra6 y6_0 y6_1 y6_2 y6_3 y6_4 x6_5 x6_6 ++ (wX4 cs h7 ra7 y7_0 y7_1 y7_2 y7_3 y7_4 x7_5 x7_6)))))))) sz) u.1) 0 0 (va_A (wY11 cs h0 o0_0 h4 h5 h6 h7 o0_3 o0_4 o0_5 o0_6 h1 h2 h3 o0_10 o0_11 o0_12 o0_13 o0_14 ra0 x0_15 ++ (wX0 cs h1 h4 ra1 y1_1 y1_2 x1_3 x1_4 x1_5 x1_6 x1_7 x1_8 y1_9 x1_10 x1_11 x1_12 x1_13 x1_14 ++ (wX0 cs h2 h4 ra2 y2_1 y2_2 x2_3 x2_4 x2_5 x2_6 x2_7 x2_8 y2_9 x2_10 x2_11 x2_12 x2_13 x2_14 ++ (wX8 cs h3 h4 h1 h2 ra3 y3_3 y3_4 x3_5 ++ (wX10 cs h4 ra4 y4_0 y4_1 y4_2 x4_3 ++ (wX4 cs h5 ra5 y5_0 y5_1 y5_2 y5_3 y5_4 x5_5 x5_6 ++ (wX4 cs h6 ra6 y6_0 y6_1 y6_2 y6_3 y6_4 x6_5 x6_6 ++ (wX4 cs h7 ra7 y7_0 y7_1 y7_2 y7_3 y7_4 x7_5 x7_6)))))))) sz) := by
  refine met_of RX11 rfl (by decide) (Nat.le_of_ble_eq_true rfl) ?_
  intro p e s m args below meth c hC hr hlocks hK hsz hA hV ls hl
  exact b_X11_alike_0 hC hr hlocks hK hA h0 o0_0 o0_3 o0_4 o0_5 o0_6 o0_10 o0_11 o0_12 o0_13 o0_14 ra0 h1 ra1 h2 ra2 h3 ra3 h4 ra4 h5 ra5 h6 ra6 h7 ra7 x0_15 x5_6 x6_6 x7_6 u v1 v2 v3 v4 v5 y1_1 y1_2 x1_3 x1_4 x1_5 x1_6 x1_7 x1_8 y1_9 x1_10 x1_11 x1_12 x1_13 x1_14 y2_1 y2_2 x2_3 x2_4 x2_5 x2_6 x2_7 x2_8 y2_9 x2_10 x2_11 x2_12 x2_13 x2_14 y3_3 y3_4 x3_5 y4_0 y4_1 y4_2 x4_3 y5_0 y5_1 y5_2 y5_3 y5_4 x5_5 y6_0 y6_1 y6_2 y6_3 y6_4 x6_5 y7_0 y7_1 y7_2 y7_3 y7_4 x7_5 s.heap [] ls hf (lv_sub hl [0, 1, 2, 3, 4, 5] rfl) hV
def rm_X11_fit : Room := { frames := 6, cells := 0, slots := 0, locals := 160 }
set_option maxHeartbeats 4000000 in
set_option maxRecDepth 100000 in
theorem b_X11_fit_0 {p : Program} {l : Launch} {e : Env} {s : State} {m : MethodId} {args : Array Value} {below : List Frame} {meth : Method} {c : Code} {D : va_G} {cs : Nat → ClassId} {A : Nat → Prop} (hC : CallFix p m c cX11_fit 6 s args gtbl RX11) (hr : meth.sig.returnType = (some .int)) (hlocks : meth.locks = false) (hK : KN D cs s) (hA : ∀ q : Nat, s.heap.size ≤ q → A q) (h0 : Nat) (o0_0 : Nat) (o0_3 : Nat) (o0_4 : Nat) (o0_5 : Nat) (o0_6 : Nat) (o0_8 : Nat) (o0_10 : Nat) (o0_11 : Nat) (o0_12 : Nat) (o0_13 : Nat) (o0_14 : Nat) (ra0 : Nat → Nat) (h1 : Nat) (ra1 : Nat → Nat) (h2 : Nat) (o2_2 : Nat) (ra2 : Nat → Nat) (h3 : Nat) (ra3 : Nat → Nat) (h4 : Nat) (ra4 : Nat → Nat) (h5 : Nat) (ra5 : Nat → Nat) (h6 : Nat) (ra6 : Nat → Nat) (x0_15 x4_6 x5_6 x6_6 : Int32) (u : Int32 × (Nat → Int32) × (Nat → Int32) × Int32 × Int32 × Int32 × Int32 × Int32 × Int32 × (Nat → Int32) × Int32 × Int32 × Int32 × Int32 × Int32 × (Nat → Int32) × (Nat → Int32) × Int32) : ∀ (v1 v2 v3 v4 v5 : Int32) (y1_1 y1_2 : Nat → Int32) (x1_3 x1_4 x1_5 x1_6 x1_7 x1_8 : Int32) (y1_9 : Nat → Int32) (x1_10 x1_11 x1_12 x1_13 x1_14 : Int32) (y2_3 y2_4 : Nat → Int32) (x2_5 : Int32) (y3_0 y3_1 y3_2 : Nat → Int32) (x3_3 : Int32) (y4_0 y4_1 y4_2 y4_3 y4_4 : Nat → Int32) (x4_5 : Int32) (y5_0 y5_1 y5_2 y5_3 y5_4 : Nat → Int32) (x5_5 : Int32) (y6_0 y6_1 y6_2 y6_3 y6_4 : Nat → Int32) (x6_5 : Int32) (H : Heap) (locs : List Loc) (ls : Array Slot), g_X11_fit_0 v1 v2 v3 v4 v5 y1_1 y1_2 x1_3 x1_4 x1_5 x1_6 x1_7 x1_8 y1_9 x1_10 x1_11 x1_12 x1_13 x1_14 y2_3 y2_4 x2_5 y3_0 y3_1 y3_2 x3_3 y4_0 y4_1 y4_2 y4_3 y4_4 x4_5 y5_0 y5_1 y5_2 y5_3 y5_4 x5_5 y6_0 y6_1 y6_2 y6_3 y6_4 x6_5 = some u → lv_has ls 6 [(0, .ref h0), (1, .int v1), (2, .int v2), (3, .int v3), (4, .int v4), (5, .int v5)] → VW D A s.heap (wY11 cs h0 o0_0 h3 h4 h5 h6 o0_3 o0_4 o0_5 o0_6 h1 o0_8 h2 o0_10 o0_11 o0_12 o0_13 o0_14 ra0 x0_15 ++ (wX0 cs h1 h3 ra1 y1_1 y1_2 x1_3 x1_4 x1_5 x1_6 x1_7 x1_8 y1_9 x1_10 x1_11 x1_12 x1_13 x1_14 ++ (wX8 cs h2 h3 h1 o2_2 ra2 y2_3 y2_4 x2_5 ++ (wX10 cs h3 ra3 y3_0 y3_1 y3_2 x3_3 ++ (wX4 cs h4 ra4 y4_0 y4_1 y4_2 y4_3 y4_4 x4_5 x4_6 ++ (wX4 cs h5 ra5 y5_0 y5_1 y5_2 y5_3 y5_4 x5_5 x5_6 ++ (wX4 cs h6 ra6 y6_0 y6_1 y6_2 y6_3 y6_4 x6_5 x6_6))))))) H locs → W p l e rm_X11_fit s m args below meth c H locs 0 0 (MQ below (QI D (wY11 cs h0 o0_0 h3 h4 h5 h6 o0_3 o0_4 o0_5 o0_6 h1 o0_8 h2 o0_10 o0_11 o0_12 o0_13 o0_14 ra0 x0_15 ++ (wX0 cs h1 h3 ra1 u.2.1 u.2.2.1 u.2.2.2.1 u.2.2.2.2.1 u.2.2.2.2.2.1 u.2.2.2.2.2.2.1 u.2.2.2.2.2.2.2.1 u.2.2.2.2.2.2.2.2.1 u.2.2.2.2.2.2.2.2.2.1 u.2.2.2.2.2.2.2.2.2.2.1 u.2.2.2.2.2.2.2.2.2.2.2.1 u.2.2.2.2.2.2.2.2.2.2.2.2.1 u.2.2.2.2.2.2.2.2.2.2.2.2.2.1 u.2.2.2.2.2.2.2.2.2.2.2.2.2.2.1 ++ (wX8 cs h2 h3 h1 o2_2 ra2 u.2.2.2.2.2.2.2.2.2.2.2.2.2.2.2.1 u.2.2.2.2.2.2.2.2.2.2.2.2.2.2.2.2.1 u.2.2.2.2.2.2.2.2.2.2.2.2.2.2.2.2.2 ++ (wX10 cs h3 ra3 y3_0 y3_1 y3_2 x3_3 ++ (wX4 cs h4 ra4 y4_0 y4_1 y4_2 y4_3 y4_4 x4_5 x4_6 ++ (wX4 cs h5 ra5 y5_0 y5_1 y5_2 y5_3 y5_4 x5_5 x5_6 ++ (wX4 cs h6 ra6 y6_0 y6_1 y6_2 y6_3 y6_4 x6_5 x6_6))))))) A u.1) args s 0 0 A) (F0 m 0 ls []) := by
  have hx := hC.1
  have hb := hC.2.1
  have hown := hC.2.2.2.1
  have hts := hC.2.2.2.2
  intro v1 v2 v3 v4 v5 y1_1 y1_2 x1_3 x1_4 x1_5 x1_6 x1_7 x1_8 y1_9 x1_10 x1_11 x1_12 x1_13 x1_14 y2_3 y2_4 x2_5 y3_0 y3_1 y3_2 x3_3 y4_0 y4_1 y4_2 y4_3 y4_4 x4_5 y5_0 y5_1 y5_2 y5_3 y5_4 x5_5 y6_0 y6_1 y6_2 y6_3 y6_4 x6_5 H locs ls hf hl hV
  refine lv_iload_n hx hb dX11_fit_0 rfl (lv_at hl 1 rfl) ?_
  obtain ⟨u1, hc1, hf⟩ := hf_b hf
  refine aft_i (run_s hC (k_X11_isRecipe l D cs v1 u1 H.size hc1) cd_X11_isRecipe st_X11_isRecipe ml_X11_134 rfl rfl ⟨by decide, by decide⟩ (fr_pre hK hV [] rfl (by decide)) rfl hl.1 rfl (Nat.le_of_ble_eq_true rfl) dX11_fit_1) hV (va_free hV.2.1 hV.2.2 hA [] rfl) (fr_jn (s := s) (wn := wY11 cs h0 o0_0 h3 h4 h5 h6 o0_3 o0_4 o0_5 o0_6 h1 o0_8 h2 o0_10 o0_11 o0_12 o0_13 o0_14 ra0 x0_15 ++ (wX0 cs h1 h3 ra1 y1_1 y1_2 x1_3 x1_4 x1_5 x1_6 x1_7 x1_8 y1_9 x1_10 x1_11 x1_12 x1_13 x1_14 ++ (wX8 cs h2 h3 h1 o2_2 ra2 y2_3 y2_4 x2_5 ++ (wX10 cs h3 ra3 y3_0 y3_1 y3_2 x3_3 ++ (wX4 cs h4 ra4 y4_0 y4_1 y4_2 y4_3 y4_4 x4_5 x4_6 ++ (wX4 cs h5 ra5 y5_0 y5_1 y5_2 y5_3 y5_4 x5_5 x5_6 ++ (wX4 cs h6 ra6 y6_0 y6_1 y6_2 y6_3 y6_4 x6_5 x6_6))))))) hV hA [] [0, 1, 2, 3, 4, 5, 6, 7, 8, 9, 10, 11, 12, 13, 14, 15, 16, 17, 18, 19, 20, 21, 22, 23, 24, 25, 26, 27, 28, 29, 30] [0, 1, 2, 3, 4, 5, 6, 7, 8, 9, 10, 11, 12, 13, 14, 15, 16, 17, 18, 19, 20, 21, 22, 23, 24, 25, 26, 27, 28, 29, 30] rfl rfl (by decide) (by decide) rfl (by decide)) (fun H locs hV => ?_)
  refine lv_if_eq (tgt := 29) hx hb dX11_fit_4 (by decide) (fun hc => ?_) (fun hc => ?_)
  · have hf := hf_t hf hc
    refine lv_bipush (v := (-3)) hx hb dX11_fit_29 (by decide) ?_
    obtain rfl := Option.some.inj hf
    exact q_ret hC hr hlocks hV dX11_fit_31
  · have hf := hf_f hf hc
    refine lv_iload hx hb dX11_fit_7 (lv_at hl 4 rfl) ?_
    refine lv_iconst (v := 0) hx hb dX11_fit_9 (by decide) ?_
    refine lv_sipush (v := 1008) hx hb dX11_fit_10 (by decide) ?_
    obtain ⟨u2, hc2, hf⟩ := hf_b hf
    refine aft_i (run_s hC (k_X11_within l D cs v4 0 1008 u2 H.size hc2) cd_X11_within st_X11_within ml_X11_115 rfl rfl ⟨by decide, by decide⟩ (fr_pre hK hV [] rfl (by decide)) rfl hl.1 rfl (Nat.le_of_ble_eq_true rfl) dX11_fit_13) hV (va_free hV.2.1 hV.2.2 hA [] rfl) (fr_jn (s := s) (wn := wY11 cs h0 o0_0 h3 h4 h5 h6 o0_3 o0_4 o0_5 o0_6 h1 o0_8 h2 o0_10 o0_11 o0_12 o0_13 o0_14 ra0 x0_15 ++ (wX0 cs h1 h3 ra1 y1_1 y1_2 x1_3 x1_4 x1_5 x1_6 x1_7 x1_8 y1_9 x1_10 x1_11 x1_12 x1_13 x1_14 ++ (wX8 cs h2 h3 h1 o2_2 ra2 y2_3 y2_4 x2_5 ++ (wX10 cs h3 ra3 y3_0 y3_1 y3_2 x3_3 ++ (wX4 cs h4 ra4 y4_0 y4_1 y4_2 y4_3 y4_4 x4_5 x4_6 ++ (wX4 cs h5 ra5 y5_0 y5_1 y5_2 y5_3 y5_4 x5_5 x5_6 ++ (wX4 cs h6 ra6 y6_0 y6_1 y6_2 y6_3 y6_4 x6_5 x6_6))))))) hV hA [] [0, 1, 2, 3, 4, 5, 6, 7, 8, 9, 10, 11, 12, 13, 14, 15, 16, 17, 18, 19, 20, 21, 22, 23, 24, 25, 26, 27, 28, 29, 30] [0, 1, 2, 3, 4, 5, 6, 7, 8, 9, 10, 11, 12, 13, 14, 15, 16, 17, 18, 19, 20, 21, 22, 23, 24, 25, 26, 27, 28, 29, 30] rfl rfl (by decide) (by decide) rfl (by decide)) (fun H locs hV => ?_)
    refine lv_if_eq (tgt := 29) hx hb dX11_fit_16 (by decide) (fun hc => ?_) (fun hc => ?_)
    · have hf := hf_t hf hc
      refine lv_bipush (v := (-3)) hx hb dX11_fit_29 (by decide) ?_
      obtain rfl := Option.some.inj hf
      exact q_ret hC hr hlocks hV dX11_fit_31
    · have hf := hf_f hf hc
      refine lv_iload_n hx hb dX11_fit_19 rfl (lv_at hl 2 rfl) ?_
      refine lv_iload_n hx hb dX11_fit_20 rfl (lv_at hl 3 rfl) ?_
      refine lv_iload hx hb dX11_fit_21 (lv_at hl 5 rfl) ?_
      obtain ⟨u3, hc3, hf⟩ := hf_b hf
      refine aft_i (run_s hC (k_X11_isSurvey l D cs v2 v3 v5 u3 H.size hc3) cd_X11_isSurvey st_X11_isSurvey ml_X11_198 rfl rfl ⟨by decide, by decide⟩ (fr_pre hK hV [] rfl (by decide)) rfl hl.1 rfl (Nat.le_of_ble_eq_true rfl) dX11_fit_23) hV (va_free hV.2.1 hV.2.2 hA [] rfl) (fr_jn (s := s) (wn := wY11 cs h0 o0_0 h3 h4 h5 h6 o0_3 o0_4 o0_5 o0_6 h1 o0_8 h2 o0_10 o0_11 o0_12 o0_13 o0_14 ra0 x0_15 ++ (wX0 cs h1 h3 ra1 y1_1 y1_2 x1_3 x1_4 x1_5 x1_6 x1_7 x1_8 y1_9 x1_10 x1_11 x1_12 x1_13 x1_14 ++ (wX8 cs h2 h3 h1 o2_2 ra2 y2_3 y2_4 x2_5 ++ (wX10 cs h3 ra3 y3_0 y3_1 y3_2 x3_3 ++ (wX4 cs h4 ra4 y4_0 y4_1 y4_2 y4_3 y4_4 x4_5 x4_6 ++ (wX4 cs h5 ra5 y5_0 y5_1 y5_2 y5_3 y5_4 x5_5 x5_6 ++ (wX4 cs h6 ra6 y6_0 y6_1 y6_2 y6_3 y6_4 x6_5 x6_6))))))) hV hA [] [0, 1, 2, 3, 4, 5, 6, 7, 8, 9, 10, 11, 12, 13, 14, 15, 16, 17, 18, 19, 20, 21, 22, 23, 24, 25, 26, 27, 28, 29, 30] [0, 1, 2, 3, 4, 5, 6, 7, 8, 9, 10, 11, 12, 13, 14, 15, 16, 17, 18, 19, 20, 21, 22, 23, 24, 25, 26, 27, 28, 29, 30] rfl rfl (by decide) (by decide) rfl (by decide)) (fun H locs hV => ?_)
      refine lv_if_ne (tgt := 32) hx hb dX11_fit_26 (by decide) (fun hc => ?_) (fun hc => ?_)
      · have hf := hf_f hf hc
        refine lv_aload_n hx hb dX11_fit_32 rfl (lv_at hl 0 rfl) ?_
        refine q_get (v := .ref h2) hC hK hV fl_X11_70 0 rfl rfl dX11_fit_33 ?_
        refine lv_iload_n hx hb dX11_fit_36 rfl (lv_at hl 2 rfl) ?_
        refine lv_iload_n hx hb dX11_fit_37 rfl (lv_at hl 3 rfl) ?_
        obtain ⟨u4, hc4, hf⟩ := hf_b hf
        refine aft_v (run_v hC (k_X8_lay l D cs h2 h1 o2_2 ra2 h3 ra3 y2_3 y2_4 x2_5 y3_0 y3_1 y3_2 x3_3 v2 v3 u4 H.size hc4) cd_X8_lay cv_X8_lay ml_X11_201 rfl rfl ⟨by decide, by decide⟩ hK hV (fr_pre hK hV [6, 7, 8, 9, 10, 11, 12] rfl (by decide)) (ci := 8) (q0 := 6) rfl rfl rfl rfl hl.1 rfl (Nat.le_of_ble_eq_true rfl) dX11_fit_38) hV (va_free hV.2.1 hV.2.2 hA [6, 7, 8, 9, 10, 11, 12] rfl) (fr_jn (s := s) (wn := wY11 cs h0 o0_0 h3 h4 h5 h6 o0_3 o0_4 o0_5 o0_6 h1 o0_8 h2 o0_10 o0_11 o0_12 o0_13 o0_14 ra0 x0_15 ++ (wX0 cs h1 h3 ra1 y1_1 y1_2 x1_3 x1_4 x1_5 x1_6 x1_7 x1_8 y1_9 x1_10 x1_11 x1_12 x1_13 x1_14 ++ (wX8 cs h2 h3 h1 o2_2 ra2 u4.1 u4.2.1 u4.2.2 ++ (wX10 cs h3 ra3 y3_0 y3_1 y3_2 x3_3 ++ (wX4 cs h4 ra4 y4_0 y4_1 y4_2 y4_3 y4_4 x4_5 x4_6 ++ (wX4 cs h5 ra5 y5_0 y5_1 y5_2 y5_3 y5_4 x5_5 x5_6 ++ (wX4 cs h6 ra6 y6_0 y6_1 y6_2 y6_3 y6_4 x6_5 x6_6))))))) hV hA [6, 7, 8, 9, 10, 11, 12] [0, 1, 2, 3, 4, 5, 13, 14, 15, 16, 17, 18, 19, 20, 21, 22, 23, 24, 25, 26, 27, 28, 29, 30] [0, 1, 2, 3, 4, 5, 24, 25, 26, 27, 28, 29, 30, 6, 7, 8, 9, 10, 11, 12, 13, 14, 15, 16, 17, 18, 19, 20, 21, 22, 23] rfl rfl (by decide) (by decide) rfl (by decide)) (fun H locs hV => ?_)
        refine lv_aload_n hx hb dX11_fit_41 rfl (lv_at hl 0 rfl) ?_
        refine q_get (v := .ref h2) hC hK hV fl_X11_70 0 rfl rfl dX11_fit_42 ?_
        refine lv_aload_n hx hb dX11_fit_45 rfl (lv_at hl 0 rfl) ?_
        refine q_get (v := .ref (ra0 2)) hC hK hV fl_X11_25 0 rfl rfl dX11_fit_46 ?_
        refine lv_iload_n hx hb dX11_fit_49 rfl (lv_at hl 1 rfl) ?_
        by_cases ht5 : v1 = 0
        · have hf := hf_t hf ht5
          refine q_aald (j := 0) hC hK hV 1 rfl ht5 (by decide) rfl dX11_fit_50 ?_
          refine lv_iload hx hb dX11_fit_51 (lv_at hl 4 rfl) ?_
          refine lv_iload hx hb dX11_fit_53 (lv_at hl 5 rfl) ?_
          obtain ⟨u6, hc6, hf⟩ := hf_b hf
          refine aft_i (run_v hC (k_X8_coloured l D cs h2 o2_2 ra2 h4 ra4 h1 ra1 h3 ra3 u4.1 u4.2.1 u4.2.2 y4_0 y4_1 y4_2 y4_3 y4_4 x4_5 x4_6 y1_1 y1_2 x1_3 x1_4 x1_5 x1_6 x1_7 x1_8 y1_9 x1_10 x1_11 x1_12 x1_13 x1_14 y3_0 y3_1 y3_2 x3_3 v4 v5 u6 H.size hc6) cd_X8_coloured cv_X8_coloured ml_X11_213 rfl rfl ⟨by decide, by decide⟩ hK hV (fr_pre hK hV [6, 7, 8, 13, 14, 15, 16, 17, 18, 2, 3, 4, 5, 9, 10, 11, 12] rfl (by decide)) (ci := 8) (q0 := 6) rfl rfl rfl rfl hl.1 rfl (Nat.le_of_ble_eq_true rfl) dX11_fit_55) hV (va_free hV.2.1 hV.2.2 hA [6, 7, 8, 13, 14, 15, 16, 17, 18, 2, 3, 4, 5, 9, 10, 11, 12] rfl) (fr_jn (s := s) (wn := wY11 cs h0 o0_0 h3 h4 h5 h6 o0_3 o0_4 o0_5 o0_6 h1 o0_8 h2 o0_10 o0_11 o0_12 o0_13 o0_14 ra0 x0_15 ++ (wX0 cs h1 h3 ra1 u6.2.2.1 u6.2.2.2.1 u6.2.2.2.2.1 u6.2.2.2.2.2.1 u6.2.2.2.2.2.2.1 u6.2.2.2.2.2.2.2.1 u6.2.2.2.2.2.2.2.2.1 u6.2.2.2.2.2.2.2.2.2.1 u6.2.2.2.2.2.2.2.2.2.2.1 u6.2.2.2.2.2.2.2.2.2.2.2.1 u6.2.2.2.2.2.2.2.2.2.2.2.2.1 u6.2.2.2.2.2.2.2.2.2.2.2.2.2.1 u6.2.2.2.2.2.2.2.2.2.2.2.2.2.2.1 u6.2.2.2.2.2.2.2.2.2.2.2.2.2.2.2 ++ (wX8 cs h2 h3 h1 o2_2 ra2 u6.2.1 u4.2.1 u4.2.2 ++ (wX10 cs h3 ra3 y3_0 y3_1 y3_2 x3_3 ++ (wX4 cs h4 ra4 y4_0 y4_1 y4_2 y4_3 y4_4 x4_5 x4_6 ++ (wX4 cs h5 ra5 y5_0 y5_1 y5_2 y5_3 y5_4 x5_5 x5_6 ++ (wX4 cs h6 ra6 y6_0 y6_1 y6_2 y6_3 y6_4 x6_5 x6_6))))))) hV hA [6, 7, 8, 13, 14, 15, 16, 17, 18, 2, 3, 4, 5, 9, 10, 11, 12] [0, 1, 19, 20, 21, 22, 23, 24, 25, 26, 27, 28, 29, 30] [0, 1, 23, 24, 25, 26, 14, 15, 16, 27, 28, 29, 30, 17, 18, 19, 20, 21, 22, 2, 3, 4, 5, 6, 7, 8, 9, 10, 11, 12, 13] rfl rfl (by decide) (by decide) rfl (by decide)) (fun H locs hV => ?_)
          obtain rfl := Option.some.inj hf
          exact q_ret hC hr hlocks hV dX11_fit_58
        have hf := hf_f hf ht5
        by_cases ht7 : v1 = 1
        · have hf := hf_t hf ht7
          refine q_aald (j := 1) hC hK hV 1 rfl ht7 (by decide) rfl dX11_fit_50 ?_
          refine lv_iload hx hb dX11_fit_51 (lv_at hl 4 rfl) ?_
          refine lv_iload hx hb dX11_fit_53 (lv_at hl 5 rfl) ?_
          obtain ⟨u8, hc8, hf⟩ := hf_b hf
          refine aft_i (run_v hC (k_X8_coloured l D cs h2 o2_2 ra2 h5 ra5 h1 ra1 h3 ra3 u4.1 u4.2.1 u4.2.2 y5_0 y5_1 y5_2 y5_3 y5_4 x5_5 x5_6 y1_1 y1_2 x1_3 x1_4 x1_5 x1_6 x1_7 x1_8 y1_9 x1_10 x1_11 x1_12 x1_13 x1_14 y3_0 y3_1 y3_2 x3_3 v4 v5 u8 H.size hc8) cd_X8_coloured cv_X8_coloured ml_X11_213 rfl rfl ⟨by decide, by decide⟩ hK hV (fr_pre hK hV [6, 7, 8, 19, 20, 21, 22, 23, 24, 2, 3, 4, 5, 9, 10, 11, 12] rfl (by decide)) (ci := 8) (q0 := 6) rfl rfl rfl rfl hl.1 rfl (Nat.le_of_ble_eq_true rfl) dX11_fit_55) hV (va_free hV.2.1 hV.2.2 hA [6, 7, 8, 19, 20, 21, 22, 23, 24, 2, 3, 4, 5, 9, 10, 11, 12] rfl) (fr_jn (s := s) (wn := wY11 cs h0 o0_0 h3 h4 h5 h6 o0_3 o0_4 o0_5 o0_6 h1 o0_8 h2 o0_10 o0_11 o0_12 o0_13 o0_14 ra0 x0_15 ++ (wX0 cs h1 h3 ra1 u8.2.2.1 u8.2.2.2.1 u8.2.2.2.2.1 u8.2.2.2.2.2.1 u8.2.2.2.2.2.2.1 u8.2.2.2.2.2.2.2.1 u8.2.2.2.2.2.2.2.2.1 u8.2.2.2.2.2.2.2.2.2.1 u8.2.2.2.2.2.2.2.2.2.2.1 u8.2.2.2.2.2.2.2.2.2.2.2.1 u8.2.2.2.2.2.2.2.2.2.2.2.2.1 u8.2.2.2.2.2.2.2.2.2.2.2.2.2.1 u8.2.2.2.2.2.2.2.2.2.2.2.2.2.2.1 u8.2.2.2.2.2.2.2.2.2.2.2.2.2.2.2 ++ (wX8 cs h2 h3 h1 o2_2 ra2 u8.2.1 u4.2.1 u4.2.2 ++ (wX10 cs h3 ra3 y3_0 y3_1 y3_2 x3_3 ++ (wX4 cs h4 ra4 y4_0 y4_1 y4_2 y4_3 y4_4 x4_5 x4_6 ++ (wX4 cs h5 ra5 y5_0 y5_1 y5_2 y5_3 y5_4 x5_5 x5_6 ++ (wX4 cs h6 ra6 y6_0 y6_1 y6_2 y6_3 y6_4 x6_5 x6_6))))))) hV hA [6, 7, 8, 19, 20, 21, 22, 23, 24, 2, 3, 4, 5, 9, 10, 11, 12] [0, 1, 13, 14, 15, 16, 17, 18, 25, 26, 27, 28, 29, 30] [0, 1, 23, 24, 25, 26, 14, 15, 16, 27, 28, 29, 30, 2, 3, 4, 5, 6, 7, 17, 18, 19, 20, 21, 22, 8, 9, 10, 11, 12, 13] rfl rfl (by decide) (by decide) rfl (by decide)) (fun H locs hV => ?_)
          obtain rfl := Option.some.inj hf
          exact q_ret hC hr hlocks hV dX11_fit_58
        have hf := hf_f hf ht7
        by_cases ht9 : v1 = 2
        · have hf := hf_t hf ht9
          refine q_aald (j := 2) hC hK hV 1 rfl ht9 (by decide) rfl dX11_fit_50 ?_
          refine lv_iload hx hb dX11_fit_51 (lv_at hl 4 rfl) ?_
          refine lv_iload hx hb dX11_fit_53 (lv_at hl 5 rfl) ?_
          obtain ⟨u10, hc10, hf⟩ := hf_b hf
          refine aft_i (run_v hC (k_X8_coloured l D cs h2 o2_2 ra2 h6 ra6 h1 ra1 h3 ra3 u4.1 u4.2.1 u4.2.2 y6_0 y6_1 y6_2 y6_3 y6_4 x6_5 x6_6 y1_1 y1_2 x1_3 x1_4 x1_5 x1_6 x1_7 x1_8 y1_9 x1_10 x1_11 x1_12 x1_13 x1_14 y3_0 y3_1 y3_2 x3_3 v4 v5 u10 H.size hc10) cd_X8_coloured cv_X8_coloured ml_X11_213 rfl rfl ⟨by decide, by decide⟩ hK hV (fr_pre hK hV [6, 7, 8, 25, 26, 27, 28, 29, 30, 2, 3, 4, 5, 9, 10, 11, 12] rfl (by decide)) (ci := 8) (q0 := 6) rfl rfl rfl rfl hl.1 rfl (Nat.le_of_ble_eq_true rfl) dX11_fit_55) hV (va_free hV.2.1 hV.2.2 hA [6, 7, 8, 25, 26, 27, 28, 29, 30, 2, 3, 4, 5, 9, 10, 11, 12] rfl) (fr_jn (s := s) (wn := wY11 cs h0 o0_0 h3 h4 h5 h6 o0_3 o0_4 o0_5 o0_6 h1 o0_8 h2 o0_10 o0_11 o0_12 o0_13 o0_14 ra0 x0_15 ++ (wX0 cs h1 h3 ra1 u10.2.2.1 u10.2.2.2.1 u10.2.2.2.2.1 u10.2.2.2.2.2.1 u10.2.2.2.2.2.2.1 u10.2.2.2.2.2.2.2.1 u10.2.2.2.2.2.2.2.2.1 u10.2.2.2.2.2.2.2.2.2.1 u10.2.2.2.2.2.2.2.2.2.2.1 u10.2.2.2.2.2.2.2.2.2.2.2.1 u10.2.2.2.2.2.2.2.2.2.2.2.2.1 u10.2.2.2.2.2.2.2.2.2.2.2.2.2.1 u10.2.2.2.2.2.2.2.2.2.2.2.2.2.2.1 u10.2.2.2.2.2.2.2.2.2.2.2.2.2.2.2 ++ (wX8 cs h2 h3 h1 o2_2 ra2 u10.2.1 u4.2.1 u4.2.2 ++ (wX10 cs h3 ra3 y3_0 y3_1 y3_2 x3_3 ++ (wX4 cs h4 ra4 y4_0 y4_1 y4_2 y4_3 y4_4 x4_5 x4_6 ++ (wX4 cs h5 ra5 y5_0 y5_1 y5_2 y5_3 y5_4 x5_5 x5_6 ++ (wX4 cs h6 ra6 y6_0 y6_1 y6_2 y6_3 y6_4 x6_5 x6_6))))))) hV hA [6, 7, 8, 25, 26, 27, 28, 29, 30, 2, 3, 4, 5, 9, 10, 11, 12] [0, 1, 13, 14, 15, 16, 17, 18, 19, 20, 21, 22, 23, 24] [0, 1, 23, 24, 25, 26, 14, 15, 16, 27, 28, 29, 30, 2, 3, 4, 5, 6, 7, 8, 9, 10, 11, 12, 13, 17, 18, 19, 20, 21, 22] rfl rfl (by decide) (by decide) rfl (by decide)) (fun H locs hV => ?_)
          obtain rfl := Option.some.inj hf
          exact q_ret hC hr hlocks hV dX11_fit_58
        have hf := hf_f hf ht9
        exact hf_no (show (none : Option (Int32 × (Nat → Int32) × (Nat → Int32) × Int32 × Int32 × Int32 × Int32 × Int32 × Int32 × (Nat → Int32) × Int32 × Int32 × Int32 × Int32 × Int32 × (Nat → Int32) × (Nat → Int32) × Int32)) = some u from hf)
      · have hf := hf_t hf hc
        refine lv_bipush (v := (-3)) hx hb dX11_fit_29 (by decide) ?_
        obtain rfl := Option.some.inj hf
        exact q_ret hC hr hlocks hV dX11_fit_31
set_option maxRecDepth 100000 in
theorem k_X11_fit (l : Launch) (D : va_G) (cs : Nat → ClassId) (h0 : Nat) (o0_0 : Nat) (o0_3 : Nat) (o0_4 : Nat) (o0_5 : Nat) (o0_6 : Nat) (o0_8 : Nat) (o0_10 : Nat) (o0_11 : Nat) (o0_12 : Nat) (o0_13 : Nat) (o0_14 : Nat) (ra0 : Nat → Nat) (h1 : Nat) (ra1 : Nat → Nat) (h2 : Nat) (o2_2 : Nat) (ra2 : Nat → Nat) (h3 : Nat) (ra3 : Nat → Nat) (h4 : Nat) (ra4 : Nat → Nat) (h5 : Nat) (ra5 : Nat → Nat) (h6 : Nat) (ra6 : Nat → Nat) (x0_15 : Int32) (y1_1 y1_2 : Nat → Int32) (x1_3 x1_4 x1_5 x1_6 x1_7 x1_8 : Int32) (y1_9 : Nat → Int32) (x1_10 x1_11 x1_12 x1_13 x1_14 : Int32) (y2_3 y2_4 : Nat → Int32) (x2_5 : Int32) (y3_0 y3_1 y3_2 : Nat → Int32) (x3_3 : Int32) (y4_0 y4_1 y4_2 y4_3 y4_4 : Nat → Int32) (x4_5 x4_6 : Int32) (y5_0 y5_1 y5_2 y5_3 y5_4 : Nat → Int32) (x5_5 x5_6 : Int32) (y6_0 y6_1 y6_2 y6_3 y6_4 : Nat → Int32) (x6_5 x6_6 : Int32) (v1 v2 v3 v4 v5 : Int32) (u : Int32 × (Nat → Int32) × (Nat → Int32) × Int32 × Int32 × Int32 × Int32 × Int32 × Int32 × (Nat → Int32) × Int32 × Int32 × Int32 × Int32 × Int32 × (Nat → Int32) × (Nat → Int32) × Int32) (sz : Nat) (hf : f_X11_fit v1 v2 v3 v4 v5 y1_1 y1_2 x1_3 x1_4 x1_5 x1_6 x1_7 x1_8 y1_9 x1_10 x1_11 x1_12 x1_13 x1_14 y2_3 y2_4 x2_5 y3_0 y3_1 y3_2 x3_3 y4_0 y4_1 y4_2 y4_3 y4_4 x4_5 y5_0 y5_1 y5_2 y5_3 y5_4 x5_5 y6_0 y6_1 y6_2 y6_3 y6_4 x6_5 = some u) : Met l yX11_fit (WS yX11_fit cX11_fit 6 (some .int)) rm_X11_fit (va_Pc [.ref h0, .int v1, .int v2, .int v3, .int v4, .int v5] (PR D cs (wY11 cs h0 o0_0 h3 h4 h5 h6 o0_3 o0_4 o0_5 o0_6 h1 o0_8 h2 o0_10 o0_11 o0_12 o0_13 o0_14 ra0 x0_15 ++ (wX0 cs h1 h3 ra1 y1_1 y1_2 x1_3 x1_4 x1_5 x1_6 x1_7 x1_8 y1_9 x1_10 x1_11 x1_12 x1_13 x1_14 ++ (wX8 cs h2 h3 h1 o2_2 ra2 y2_3 y2_4 x2_5 ++ (wX10 cs h3 ra3 y3_0 y3_1 y3_2 x3_3 ++ (wX4 cs h4 ra4 y4_0 y4_1 y4_2 y4_3 y4_4 x4_5 x4_6 ++ (wX4 cs h5 ra5 y5_0 y5_1 y5_2 y5_3 y5_4 x5_5 x5_6 ++ (wX4 cs h6 ra6 y6_0 y6_1 y6_2 y6_3 y6_4 x6_5 x6_6))))))) sz)) (QI D (wY11 cs h0 o0_0 h3 h4 h5 h6 o0_3 o0_4 o0_5 o0_6 h1 o0_8 h2 o0_10 o0_11 o0_12 o0_13 o0_14 ra0 x0_15 ++ (wX0 cs h1 h3 ra1 u.2.1 u.2.2.1 u.2.2.2.1 u.2.2.2.2.1 u.2.2.2.2.2.1 u.2.2.2.2.2.2.1 u.2.2.2.2.2.2.2.1 u.2.2.2.2.2.2.2.2.1 u.2.2.2.2.2.2.2.2.2.1 u.2.2.2.2.2.2.2.2.2.2.1 u.2.2.2.2.2.2.2.2.2.2.2.1 u.2.2.2.2.2.2.2.2.2.2.2.2.1 u.2.2.2.2.2.2.2.2.2.2.2.2.2.1 u.2.2.2.2.2.2.2.2.2.2.2.2.2.2.1 ++ (wX8 cs h2 h3 h1 o2_2 ra2 u.2.2.2.2.2.2.2.2.2.2.2.2.2.2.2.1 u.2.2.2.2.2.2.2.2.2.2.2.2.2.2.2.2.1 u.2.2.2.2.2.2.2.2.2.2.2.2.2.2.2.2.2 ++ (wX10 cs h3 ra3 y3_0 y3_1 y3_2 x3_3 ++ (wX4 cs h4 ra4 y4_0 y4_1 y4_2 y4_3 y4_4 x4_5 x4_6 ++ (wX4 cs h5 ra5 y5_0 y5_1 y5_2 y5_3 y5_4 x5_5 x5_6 ++ (wX4 cs h6 ra6 y6_0 y6_1 y6_2 y6_3 y6_4 x6_5 x6_6))))))) (va_A (wY11 cs h0 o0_0 h3 h4 h5 h6 o0_3 o0_4 o0_5 o0_6 h1 o0_8 h2 o0_10 o0_11 o0_12 o0_13 o0_14 ra0 x0_15 ++ (wX0 cs h1 h3 ra1 y1_1 y1_2 x1_3 x1_4 x1_5 x1_6 x1_7 x1_8 y1_9 x1_10 x1_11 x1_12 x1_13 x1_14 ++ (wX8 cs h2 h3 h1 o2_2 ra2 y2_3 y2_4 x2_5 ++ (wX10 cs h3 ra3 y3_0 y3_1 y3_2 x3_3 ++ (wX4 cs h4 ra4 y4_0 y4_1 y4_2 y4_3 y4_4 x4_5 x4_6 ++ (wX4 cs h5 ra5 y5_0 y5_1 y5_2 y5_3 y5_4 x5_5 x5_6 ++ (wX4 cs h6 ra6 y6_0 y6_1 y6_2 y6_3 y6_4 x6_5 x6_6))))))) sz) u.1) 0 0 (va_A (wY11 cs h0 o0_0 h3 h4 h5 h6 o0_3 o0_4 o0_5 o0_6 h1 o0_8 h2 o0_10 o0_11 o0_12 o0_13 o0_14 ra0 x0_15 ++ (wX0 cs h1 h3 ra1 y1_1 y1_2 x1_3 x1_4 x1_5 x1_6 x1_7 x1_8 y1_9 x1_10 x1_11 x1_12 x1_13 x1_14 ++ (wX8 cs h2 h3 h1 o2_2 ra2 y2_3 y2_4 x2_5 ++ (wX10 cs h3 ra3 y3_0 y3_1 y3_2 x3_3 ++ (wX4 cs h4 ra4 y4_0 y4_1 y4_2 y4_3 y4_4 x4_5 x4_6 ++ (wX4 cs h5 ra5 y5_0 y5_1 y5_2 y5_3 y5_4 x5_5 x5_6 ++ (wX4 cs h6 ra6 y6_0 y6_1 y6_2 y6_3 y6_4 x6_5 x6_6))))))) sz) := by
  refine met_of RX11 rfl (by decide) (Nat.le_of_ble_eq_true rfl) ?_
  intro p e s m args below meth c hC hr hlocks hK hsz hA hV ls hl
  exact b_X11_fit_0 hC hr hlocks hK hA h0 o0_0 o0_3 o0_4 o0_5 o0_6 o0_8 o0_10 o0_11 o0_12 o0_13 o0_14 ra0 h1 ra1 h2 o2_2 ra2 h3 ra3 h4 ra4 h5 ra5 h6 ra6 x0_15 x4_6 x5_6 x6_6 u v1 v2 v3 v4 v5 y1_1 y1_2 x1_3 x1_4 x1_5 x1_6 x1_7 x1_8 y1_9 x1_10 x1_11 x1_12 x1_13 x1_14 y2_3 y2_4 x2_5 y3_0 y3_1 y3_2 x3_3 y4_0 y4_1 y4_2 y4_3 y4_4 x4_5 y5_0 y5_1 y5_2 y5_3 y5_4 x5_5 y6_0 y6_1 y6_2 y6_3 y6_4 x6_5 s.heap [] ls hf (lv_sub hl [0, 1, 2, 3, 4, 5] rfl) hV
def rm_X11_round : Room := { frames := 5, cells := 0, slots := 0, locals := 135 }
set_option maxHeartbeats 4000000 in
set_option maxRecDepth 100000 in
theorem b_X11_round_0 {p : Program} {l : Launch} {e : Env} {s : State} {m : MethodId} {args : Array Value} {below : List Frame} {meth : Method} {c : Code} {D : va_G} {cs : Nat → ClassId} {A : Nat → Prop} (hC : CallFix p m c cX11_round 3 s args gtbl RX11) (hr : meth.sig.returnType = (some .int)) (hlocks : meth.locks = false) (hK : KN D cs s) (hA : ∀ q : Nat, s.heap.size ≤ q → A q) (h0 : Nat) (o0_0 : Nat) (o0_3 : Nat) (o0_4 : Nat) (o0_5 : Nat) (o0_6 : Nat) (o0_9 : Nat) (o0_11 : Nat) (o0_12 : Nat) (o0_13 : Nat) (o0_14 : Nat) (ra0 : Nat → Nat) (h1 : Nat) (ra1 : Nat → Nat) (h2 : Nat) (ra2 : Nat → Nat) (h3 : Nat) (h4 : Nat) (ra4 : Nat → Nat) (h5 : Nat) (ra5 : Nat → Nat) (h6 : Nat) (ra6 : Nat → Nat) (h7 : Nat) (ra7 : Nat → Nat) (x0_15 : Int32) (y1_9 : Nat → Int32) (x1_10 x1_11 x1_12 x1_13 x1_14 : Int32) (y2_9 : Nat → Int32) (x2_10 x2_11 x2_12 x2_13 x2_14 x5_6 x6_6 x7_6 : Int32) (u : Int32 × (Nat → Int32) × (Nat → Int32) × Int32 × Int32 × Int32 × Int32 × Int32 × Int32 × (Nat → Int32) × (Nat → Int32) × Int32 × Int32 × Int32 × Int32 × Int32 × Int32 × Int32 × Int32 × Int32) : ∀ (v1 v2 : Int32) (y1_1 y1_2 : Nat → Int32) (x1_3 x1_4 x1_5 x1_6 x1_7 x1_8 : Int32) (y2_1 y2_2 : Nat → Int32) (x2_3 x2_4 x2_5 x2_6 x2_7 x2_8 x3_3 x3_4 x3_5 : Int32) (y4_0 y4_1 y4_2 : Nat → Int32) (x4_3 : Int32) (y5_0 y5_1 y5_2 y5_3 y5_4 : Nat → Int32) (x5_5 : Int32) (y6_0 y6_1 y6_2 y6_3 y6_4 : Nat → Int32) (x6_5 : Int32) (y7_0 y7_1 y7_2 y7_3 y7_4 : Nat → Int32) (x7_5 : Int32) (H : Heap) (locs : List Loc) (ls : Array Slot), g_X11_round_0 v1 v2 y1_1 y1_2 x1_3 x1_4 x1_5 x1_6 x1_7 x1_8 y2_1 y2_2 x2_3 x2_4 x2_5 x2_6 x2_7 x2_8 x3_3 x3_4 x3_5 y4_0 y4_1 y4_2 x4_3 y5_0 y5_1 y5_2 y5_3 y5_4 x5_5 y6_0 y6_1 y6_2 y6_3 y6_4 x6_5 y7_0 y7_1 y7_2 y7_3 y7_4 x7_5 = some u → lv_has ls 3 [(0, .ref h0), (1, .int v1), (2, .int v2)] → VW D A s.heap (wY11 cs h0 o0_0 h4 h5 h6 h7 o0_3 o0_4 o0_5 o0_6 h1 h2 o0_9 h3 o0_11 o0_12 o0_13 o0_14 ra0 x0_15 ++ (wX0 cs h1 h4 ra1 y1_1 y1_2 x1_3 x1_4 x1_5 x1_6 x1_7 x1_8 y1_9 x1_10 x1_11 x1_12 x1_13 x1_14 ++ (wX0 cs h2 h4 ra2 y2_1 y2_2 x2_3 x2_4 x2_5 x2_6 x2_7 x2_8 y2_9 x2_10 x2_11 x2_12 x2_13 x2_14 ++ (wX5 cs h3 h4 h1 h2 x3_3 x3_4 x3_5 ++ (wX10 cs h4 ra4 y4_0 y4_1 y4_2 x4_3 ++ (wX4 cs h5 ra5 y5_0 y5_1 y5_2 y5_3 y5_4 x5_5 x5_6 ++ (wX4 cs h6 ra6 y6_0 y6_1 y6_2 y6_3 y6_4 x6_5 x6_6 ++ (wX4 cs h7 ra7 y7_0 y7_1 y7_2 y7_3 y7_4 x7_5 x7_6)))))))) H locs → W p l e rm_X11_round s m args below meth c H locs 0 0 (MQ below (QI D (wY11 cs h0 o0_0 h4 h5 h6 h7 o0_3 o0_4 o0_5 o0_6 h1 h2 o0_9 h3 o0_11 o0_12 o0_13 o0_14 ra0 x0_15 ++ (wX0 cs h1 h4 ra1 u.2.1 u.2.2.1 u.2.2.2.1 u.2.2.2.2.1 u.2.2.2.2.2.1 u.2.2.2.2.2.2.1 u.2.2.2.2.2.2.2.1 u.2.2.2.2.2.2.2.2.1 y1_9 x1_10 x1_11 x1_12 x1_13 x1_14 ++ (wX0 cs h2 h4 ra2 u.2.2.2.2.2.2.2.2.2.1 u.2.2.2.2.2.2.2.2.2.2.1 u.2.2.2.2.2.2.2.2.2.2.2.1 u.2.2.2.2.2.2.2.2.2.2.2.2.1 u.2.2.2.2.2.2.2.2.2.2.2.2.2.1 u.2.2.2.2.2.2.2.2.2.2.2.2.2.2.1 u.2.2.2.2.2.2.2.2.2.2.2.2.2.2.2.1 u.2.2.2.2.2.2.2.2.2.2.2.2.2.2.2.2.1 y2_9 x2_10 x2_11 x2_12 x2_13 x2_14 ++ (wX5 cs h3 h4 h1 h2 u.2.2.2.2.2.2.2.2.2.2.2.2.2.2.2.2.2.1 u.2.2.2.2.2.2.2.2.2.2.2.2.2.2.2.2.2.2.1 u.2.2.2.2.2.2.2.2.2.2.2.2.2.2.2.2.2.2.2 ++ (wX10 cs h4 ra4 y4_0 y4_1 y4_2 x4_3 ++ (wX4 cs h5 ra5 y5_0 y5_1 y5_2 y5_3 y5_4 x5_5 x5_6 ++ (wX4 cs h6 ra6 y6_0 y6_1 y6_2 y6_3 y6_4 x6_5 x6_6 ++ (wX4 cs h7 ra7 y7_0 y7_1 y7_2 y7_3 y7_4 x7_5 x7_6)))))))) A u.1) args s 0 0 A) (F0 m 0 ls []) := by
  have hx := hC.1
  have hb := hC.2.1
  have hown := hC.2.2.2.1
  have hts := hC.2.2.2.2
  intro v1 v2 y1_1 y1_2 x1_3 x1_4 x1_5 x1_6 x1_7 x1_8 y2_1 y2_2 x2_3 x2_4 x2_5 x2_6 x2_7 x2_8 x3_3 x3_4 x3_5 y4_0 y4_1 y4_2 x4_3 y5_0 y5_1 y5_2 y5_3 y5_4 x5_5 y6_0 y6_1 y6_2 y6_3 y6_4 x6_5 y7_0 y7_1 y7_2 y7_3 y7_4 x7_5 H locs ls hf hl hV
  refine lv_iload_n hx hb dX11_round_0 rfl (lv_at hl 1 rfl) ?_
  obtain ⟨u1, hc1, hf⟩ := hf_b hf
  refine aft_i (run_s hC (k_X11_isRecipe l D cs v1 u1 H.size hc1) cd_X11_isRecipe st_X11_isRecipe ml_X11_134 rfl rfl ⟨by decide, by decide⟩ (fr_pre hK hV [] rfl (by decide)) rfl hl.1 rfl (Nat.le_of_ble_eq_true rfl) dX11_round_1) hV (va_free hV.2.1 hV.2.2 hA [] rfl) (fr_jn (s := s) (wn := wY11 cs h0 o0_0 h4 h5 h6 h7 o0_3 o0_4 o0_5 o0_6 h1 h2 o0_9 h3 o0_11 o0_12 o0_13 o0_14 ra0 x0_15 ++ (wX0 cs h1 h4 ra1 y1_1 y1_2 x1_3 x1_4 x1_5 x1_6 x1_7 x1_8 y1_9 x1_10 x1_11 x1_12 x1_13 x1_14 ++ (wX0 cs h2 h4 ra2 y2_1 y2_2 x2_3 x2_4 x2_5 x2_6 x2_7 x2_8 y2_9 x2_10 x2_11 x2_12 x2_13 x2_14 ++ (wX5 cs h3 h4 h1 h2 x3_3 x3_4 x3_5 ++ (wX10 cs h4 ra4 y4_0 y4_1 y4_2 x4_3 ++ (wX4 cs h5 ra5 y5_0 y5_1 y5_2 y5_3 y5_4 x5_5 x5_6 ++ (wX4 cs h6 ra6 y6_0 y6_1 y6_2 y6_3 y6_4 x6_5 x6_6 ++ (wX4 cs h7 ra7 y7_0 y7_1 y7_2 y7_3 y7_4 x7_5 x7_6)))))))) hV hA [] [0, 1, 2, 3, 4, 5, 6, 7, 8, 9, 10, 11, 12, 13, 14, 15, 16, 17, 18, 19, 20, 21, 22, 23, 24, 25, 26, 27, 28, 29, 30, 31, 32] [0, 1, 2, 3, 4, 5, 6, 7, 8, 9, 10, 11, 12, 13, 14, 15, 16, 17, 18, 19, 20, 21, 22, 23, 24, 25, 26, 27, 28, 29, 30, 31, 32] rfl rfl (by decide) (by decide) rfl (by decide)) (fun H locs hV => ?_)
  refine lv_if_eq (tgt := 16) hx hb dX11_round_4 (by decide) (fun hc => ?_) (fun hc => ?_)
  · have hf := hf_t hf hc
    refine lv_iconst (v := (-1)) hx hb dX11_round_16 (by decide) ?_
    obtain rfl := Option.some.inj hf
    exact q_ret hC hr hlocks hV dX11_round_17
  · have hf := hf_f hf hc
    refine lv_iload_n hx hb dX11_round_7 rfl (lv_at hl 2 rfl) ?_
    refine lv_iconst (v := 0) hx hb dX11_round_8 (by decide) ?_
    refine lv_iconst (v := 2) hx hb dX11_round_9 (by decide) ?_
    obtain ⟨u2, hc2, hf⟩ := hf_b hf
    refine aft_i (run_s hC (k_X11_within l D cs v2 0 2 u2 H.size hc2) cd_X11_within st_X11_within ml_X11_115 rfl rfl ⟨by decide, by decide⟩ (fr_pre hK hV [] rfl (by decide)) rfl hl.1 rfl (Nat.le_of_ble_eq_true rfl) dX11_round_10) hV (va_free hV.2.1 hV.2.2 hA [] rfl) (fr_jn (s := s) (wn := wY11 cs h0 o0_0 h4 h5 h6 h7 o0_3 o0_4 o0_5 o0_6 h1 h2 o0_9 h3 o0_11 o0_12 o0_13 o0_14 ra0 x0_15 ++ (wX0 cs h1 h4 ra1 y1_1 y1_2 x1_3 x1_4 x1_5 x1_6 x1_7 x1_8 y1_9 x1_10 x1_11 x1_12 x1_13 x1_14 ++ (wX0 cs h2 h4 ra2 y2_1 y2_2 x2_3 x2_4 x2_5 x2_6 x2_7 x2_8 y2_9 x2_10 x2_11 x2_12 x2_13 x2_14 ++ (wX5 cs h3 h4 h1 h2 x3_3 x3_4 x3_5 ++ (wX10 cs h4 ra4 y4_0 y4_1 y4_2 x4_3 ++ (wX4 cs h5 ra5 y5_0 y5_1 y5_2 y5_3 y5_4 x5_5 x5_6 ++ (wX4 cs h6 ra6 y6_0 y6_1 y6_2 y6_3 y6_4 x6_5 x6_6 ++ (wX4 cs h7 ra7 y7_0 y7_1 y7_2 y7_3 y7_4 x7_5 x7_6)))))))) hV hA [] [0, 1, 2, 3, 4, 5, 6, 7, 8, 9, 10, 11, 12, 13, 14, 15, 16, 17, 18, 19, 20, 21, 22, 23, 24, 25, 26, 27, 28, 29, 30, 31, 32] [0, 1, 2, 3, 4, 5, 6, 7, 8, 9, 10, 11, 12, 13, 14, 15, 16, 17, 18, 19, 20, 21, 22, 23, 24, 25, 26, 27, 28, 29, 30, 31, 32] rfl rfl (by decide) (by decide) rfl (by decide)) (fun H locs hV => ?_)
    refine lv_if_ne (tgt := 18) hx hb dX11_round_13 (by decide) (fun hc => ?_) (fun hc => ?_)
    · have hf := hf_f hf hc
      refine lv_aload_n hx hb dX11_round_18 rfl (lv_at hl 0 rfl) ?_
      refine q_get (v := .ref h3) hC hK hV fl_X11_77 0 rfl rfl dX11_round_19 ?_
      refine lv_aload_n hx hb dX11_round_22 rfl (lv_at hl 0 rfl) ?_
      refine q_get (v := .ref (ra0 2)) hC hK hV fl_X11_25 0 rfl rfl dX11_round_23 ?_
      refine lv_iload_n hx hb dX11_round_26 rfl (lv_at hl 1 rfl) ?_
      by_cases ht3 : v1 = 0
      · have hf := hf_t hf ht3
        refine q_aald (j := 0) hC hK hV 1 rfl ht3 (by decide) rfl dX11_round_27 ?_
        obtain ⟨u4, hc4, hf⟩ := hf_b hf
        refine aft_v (run_v hC (k_X5_seek l D cs h3 h5 ra5 h2 ra2 h1 ra1 h4 ra4 x3_3 x3_4 x3_5 y5_0 y5_1 y5_2 y5_3 y5_4 x5_5 x5_6 y2_1 y2_2 x2_3 x2_4 x2_5 x2_6 x2_7 x2_8 y2_9 x2_10 x2_11 x2_12 x2_13 x2_14 y1_1 y1_2 x1_3 x1_4 x1_5 x1_6 x1_7 x1_8 y1_9 x1_10 x1_11 x1_12 x1_13 x1_14 y4_0 y4_1 y4_2 x4_3 u4 H.size hc4) cd_X5_seek cv_X5_seek ml_X11_217 rfl rfl ⟨by decide, by decide⟩ hK hV (fr_pre hK hV [10, 15, 16, 17, 18, 19, 20, 6, 7, 8, 9, 2, 3, 4, 5, 11, 12, 13, 14] rfl (by decide)) (ci := 5) (q0 := 10) rfl rfl rfl rfl hl.1 rfl (Nat.le_of_ble_eq_true rfl) dX11_round_28) hV (va_free hV.2.1 hV.2.2 hA [10, 15, 16, 17, 18, 19, 20, 6, 7, 8, 9, 2, 3, 4, 5, 11, 12, 13, 14] rfl) (fr_jn (s := s) (wn := wY11 cs h0 o0_0 h4 h5 h6 h7 o0_3 o0_4 o0_5 o0_6 h1 h2 o0_9 h3 o0_11 o0_12 o0_13 o0_14 ra0 x0_15 ++ (wX0 cs h1 h4 ra1 u4.2.2.2.2.2.2.2.2.2.2.2.1 u4.2.2.2.2.2.2.2.2.2.2.2.2.1 u4.2.2.2.2.2.2.2.2.2.2.2.2.2.1 u4.2.2.2.2.2.2.2.2.2.2.2.2.2.2.1 u4.2.2.2.2.2.2.2.2.2.2.2.2.2.2.2.1 u4.2.2.2.2.2.2.2.2.2.2.2.2.2.2.2.2.1 u4.2.2.2.2.2.2.2.2.2.2.2.2.2.2.2.2.2.1 u4.2.2.2.2.2.2.2.2.2.2.2.2.2.2.2.2.2.2 y1_9 x1_10 x1_11 x1_12 x1_13 x1_14 ++ (wX0 cs h2 h4 ra2 u4.2.2.2.1 u4.2.2.2.2.1 u4.2.2.2.2.2.1 u4.2.2.2.2.2.2.1 u4.2.2.2.2.2.2.2.1 u4.2.2.2.2.2.2.2.2.1 u4.2.2.2.2.2.2.2.2.2.1 u4.2.2.2.2.2.2.2.2.2.2.1 y2_9 x2_10 x2_11 x2_12 x2_13 x2_14 ++ (wX5 cs h3 h4 h1 h2 u4.1 u4.2.1 u4.2.2.1 ++ (wX10 cs h4 ra4 y4_0 y4_1 y4_2 x4_3 ++ (wX4 cs h5 ra5 y5_0 y5_1 y5_2 y5_3 y5_4 x5_5 x5_6 ++ (wX4 cs h6 ra6 y6_0 y6_1 y6_2 y6_3 y6_4 x6_5 x6_6 ++ (wX4 cs h7 ra7 y7_0 y7_1 y7_2 y7_3 y7_4 x7_5 x7_6)))))))) hV hA [10, 15, 16, 17, 18, 19, 20, 6, 7, 8, 9, 2, 3, 4, 5, 11, 12, 13, 14] [0, 1, 21, 22, 23, 24, 25, 26, 27, 28, 29, 30, 31, 32] [0, 1, 25, 26, 27, 28, 21, 22, 23, 24, 14, 29, 30, 31, 32, 15, 16, 17, 18, 19, 20, 2, 3, 4, 5, 6, 7, 8, 9, 10, 11, 12, 13] rfl rfl (by decide) (by decide) rfl (by decide)) (fun H locs hV => ?_)
        refine lv_iload_n hx hb dX11_round_31 rfl (lv_at hl 2 rfl) ?_
        refine lv_if_ne (tgt := 43) hx hb dX11_round_32 (by decide) (fun hc => ?_) (fun hc => ?_)
        · have hf := hf_f hf hc
          refine lv_aload_n hx hb dX11_round_43 rfl (lv_at hl 0 rfl) ?_
          refine q_get (v := .ref h3) hC hK hV fl_X11_77 0 rfl rfl dX11_round_44 ?_
          refine q_get (v := .int u4.1) hC hK hV fl_X11_221 10 rfl rfl dX11_round_47 ?_
          refine lv_iconst (v := 1) hx hb dX11_round_50 (by decide) ?_
          refine lv_icmp_eq (tgt := 57) hx hb dX11_round_51 (by decide) (fun hc => ?_) (fun hc => ?_)
          · have hf := hf_t hf hc
            refine lv_iload_n hx hb dX11_round_57 rfl (lv_at hl 2 rfl) ?_
            refine lv_iconst (v := 1) hx hb dX11_round_58 (by decide) ?_
            refine lv_icmp_ne (tgt := 72) hx hb dX11_round_59 (by decide) (fun hc => ?_) (fun hc => ?_)
            · have hf := hf_f hf hc
              refine lv_aload_n hx hb dX11_round_72 rfl (lv_at hl 0 rfl) ?_
              refine q_get (v := .ref h3) hC hK hV fl_X11_77 0 rfl rfl dX11_round_73 ?_
              refine q_get (v := .int u4.2.2.1) hC hK hV fl_X11_227 10 rfl rfl dX11_round_76 ?_
              obtain rfl := Option.some.inj hf
              exact q_ret hC hr hlocks hV dX11_round_79
            · have hf := hf_t hf hc
              refine lv_aload_n hx hb dX11_round_62 rfl (lv_at hl 0 rfl) ?_
              refine q_get (v := .ref h3) hC hK hV fl_X11_77 0 rfl rfl dX11_round_63 ?_
              refine q_get (v := .int u4.2.1) hC hK hV fl_X11_224 10 rfl rfl dX11_round_66 ?_
              refine lv_goto (tgt := 79) hx hb dX11_round_69 (by decide) ?_
              obtain rfl := Option.some.inj hf
              exact q_ret hC hr hlocks hV dX11_round_79
          · have hf := hf_f hf hc
            refine lv_bipush (v := (-2)) hx hb dX11_round_54 (by decide) ?_
            obtain rfl := Option.some.inj hf
            exact q_ret hC hr hlocks hV dX11_round_56
        · have hf := hf_t hf hc
          refine lv_aload_n hx hb dX11_round_35 rfl (lv_at hl 0 rfl) ?_
          refine q_get (v := .ref h3) hC hK hV fl_X11_77 0 rfl rfl dX11_round_36 ?_
          refine q_get (v := .int u4.1) hC hK hV fl_X11_221 10 rfl rfl dX11_round_39 ?_
          obtain rfl := Option.some.inj hf
          exact q_ret hC hr hlocks hV dX11_round_42
      have hf := hf_f hf ht3
      by_cases ht5 : v1 = 1
      · have hf := hf_t hf ht5
        refine q_aald (j := 1) hC hK hV 1 rfl ht5 (by decide) rfl dX11_round_27 ?_
        obtain ⟨u6, hc6, hf⟩ := hf_b hf
        refine aft_v (run_v hC (k_X5_seek l D cs h3 h6 ra6 h2 ra2 h1 ra1 h4 ra4 x3_3 x3_4 x3_5 y6_0 y6_1 y6_2 y6_3 y6_4 x6_5 x6_6 y2_1 y2_2 x2_3 x2_4 x2_5 x2_6 x2_7 x2_8 y2_9 x2_10 x2_11 x2_12 x2_13 x2_14 y1_1 y1_2 x1_3 x1_4 x1_5 x1_6 x1_7 x1_8 y1_9 x1_10 x1_11 x1_12 x1_13 x1_14 y4_0 y4_1 y4_2 x4_3 u6 H.size hc6) cd_X5_seek cv_X5_seek ml_X11_217 rfl rfl ⟨by decide, by decide⟩ hK hV (fr_pre hK hV [10, 21, 22, 23, 24, 25, 26, 6, 7, 8, 9, 2, 3, 4, 5, 11, 12, 13, 14] rfl (by decide)) (ci := 5) (q0 := 10) rfl rfl rfl rfl hl.1 rfl (Nat.le_of_ble_eq_true rfl) dX11_round_28) hV (va_free hV.2.1 hV.2.2 hA [10, 21, 22, 23, 24, 25, 26, 6, 7, 8, 9, 2, 3, 4, 5, 11, 12, 13, 14] rfl) (fr_jn (s := s) (wn := wY11 cs h0 o0_0 h4 h5 h6 h7 o0_3 o0_4 o0_5 o0_6 h1 h2 o0_9 h3 o0_11 o0_12 o0_13 o0_14 ra0 x0_15 ++ (wX0 cs h1 h4 ra1 u6.2.2.2.2.2.2.2.2.2.2.2.1 u6.2.2.2.2.2.2.2.2.2.2.2.2.1 u6.2.2.2.2.2.2.2.2.2.2.2.2.2.1 u6.2.2.2.2.2.2.2.2.2.2.2.2.2.2.1 u6.2.2.2.2.2.2.2.2.2.2.2.2.2.2.2.1 u6.2.2.2.2.2.2.2.2.2.2.2.2.2.2.2.2.1 u6.2.2.2.2.2.2.2.2.2.2.2.2.2.2.2.2.2.1 u6.2.2.2.2.2.2.2.2.2.2.2.2.2.2.2.2.2.2 y1_9 x1_10 x1_11 x1_12 x1_13 x1_14 ++ (wX0 cs h2 h4 ra2 u6.2.2.2.1 u6.2.2.2.2.1 u6.2.2.2.2.2.1 u6.2.2.2.2.2.2.1 u6.2.2.2.2.2.2.2.1 u6.2.2.2.2.2.2.2.2.1 u6.2.2.2.2.2.2.2.2.2.1 u6.2.2.2.2.2.2.2.2.2.2.1 y2_9 x2_10 x2_11 x2_12 x2_13 x2_14 ++ (wX5 cs h3 h4 h1 h2 u6.1 u6.2.1 u6.2.2.1 ++ (wX10 cs h4 ra4 y4_0 y4_1 y4_2 x4_3 ++ (wX4 cs h5 ra5 y5_0 y5_1 y5_2 y5_3 y5_4 x5_5 x5_6 ++ (wX4 cs h6 ra6 y6_0 y6_1 y6_2 y6_3 y6_4 x6_5 x6_6 ++ (wX4 cs h7 ra7 y7_0 y7_1 y7_2 y7_3 y7_4 x7_5 x7_6)))))))) hV hA [10, 21, 22, 23, 24, 25, 26, 6, 7, 8, 9, 2, 3, 4, 5, 11, 12, 13, 14] [0, 1, 15, 16, 17, 18, 19, 20, 27, 28, 29, 30, 31, 32] [0, 1, 25, 26, 27, 28, 21, 22, 23, 24, 14, 29, 30, 31, 32, 2, 3, 4, 5, 6, 7, 15, 16, 17, 18, 19, 20, 8, 9, 10, 11, 12, 13] rfl rfl (by decide) (by decide) rfl (by decide)) (fun H locs hV => ?_)
        refine lv_iload_n hx hb dX11_round_31 rfl (lv_at hl 2 rfl) ?_
        refine lv_if_ne (tgt := 43) hx hb dX11_round_32 (by decide) (fun hc => ?_) (fun hc => ?_)
        · have hf := hf_f hf hc
          refine lv_aload_n hx hb dX11_round_43 rfl (lv_at hl 0 rfl) ?_
          refine q_get (v := .ref h3) hC hK hV fl_X11_77 0 rfl rfl dX11_round_44 ?_
          refine q_get (v := .int u6.1) hC hK hV fl_X11_221 10 rfl rfl dX11_round_47 ?_
          refine lv_iconst (v := 1) hx hb dX11_round_50 (by decide) ?_
          refine lv_icmp_eq (tgt := 57) hx hb dX11_round_51 (by decide) (fun hc => ?_) (fun hc => ?_)
          · have hf := hf_t hf hc
            refine lv_iload_n hx hb dX11_round_57 rfl (lv_at hl 2 rfl) ?_
            refine lv_iconst (v := 1) hx hb dX11_round_58 (by decide) ?_
            refine lv_icmp_ne (tgt := 72) hx hb dX11_round_59 (by decide) (fun hc => ?_) (fun hc => ?_)
            · have hf := hf_f hf hc
              refine lv_aload_n hx hb dX11_round_72 rfl (lv_at hl 0 rfl) ?_
              refine q_get (v := .ref h3) hC hK hV fl_X11_77 0 rfl rfl dX11_round_73 ?_
              refine q_get (v := .int u6.2.2.1) hC hK hV fl_X11_227 10 rfl rfl dX11_round_76 ?_
              obtain rfl := Option.some.inj hf
              exact q_ret hC hr hlocks hV dX11_round_79
            · have hf := hf_t hf hc
              refine lv_aload_n hx hb dX11_round_62 rfl (lv_at hl 0 rfl) ?_
              refine q_get (v := .ref h3) hC hK hV fl_X11_77 0 rfl rfl dX11_round_63 ?_
              refine q_get (v := .int u6.2.1) hC hK hV fl_X11_224 10 rfl rfl dX11_round_66 ?_
              refine lv_goto (tgt := 79) hx hb dX11_round_69 (by decide) ?_
              obtain rfl := Option.some.inj hf
              exact q_ret hC hr hlocks hV dX11_round_79
          · have hf := hf_f hf hc
            refine lv_bipush (v := (-2)) hx hb dX11_round_54 (by decide) ?_
            obtain rfl := Option.some.inj hf
            exact q_ret hC hr hlocks hV dX11_round_56
        · have hf := hf_t hf hc
          refine lv_aload_n hx hb dX11_round_35 rfl (lv_at hl 0 rfl) ?_
          refine q_get (v := .ref h3) hC hK hV fl_X11_77 0 rfl rfl dX11_round_36 ?_
          refine q_get (v := .int u6.1) hC hK hV fl_X11_221 10 rfl rfl dX11_round_39 ?_
          obtain rfl := Option.some.inj hf
          exact q_ret hC hr hlocks hV dX11_round_42
      have hf := hf_f hf ht5
      by_cases ht7 : v1 = 2
      · have hf := hf_t hf ht7
        refine q_aald (j := 2) hC hK hV 1 rfl ht7 (by decide) rfl dX11_round_27 ?_
        obtain ⟨u8, hc8, hf⟩ := hf_b hf
        refine aft_v (run_v hC (k_X5_seek l D cs h3 h7 ra7 h2 ra2 h1 ra1 h4 ra4 x3_3 x3_4 x3_5 y7_0 y7_1 y7_2 y7_3 y7_4 x7_5 x7_6 y2_1 y2_2 x2_3 x2_4 x2_5 x2_6 x2_7 x2_8 y2_9 x2_10 x2_11 x2_12 x2_13 x2_14 y1_1 y1_2 x1_3 x1_4 x1_5 x1_6 x1_7 x1_8 y1_9 x1_10 x1_11 x1_12 x1_13 x1_14 y4_0 y4_1 y4_2 x4_3 u8 H.size hc8) cd_X5_seek cv_X5_seek ml_X11_217 rfl rfl ⟨by decide, by decide⟩ hK hV (fr_pre hK hV [10, 27, 28, 29, 30, 31, 32, 6, 7, 8, 9, 2, 3, 4, 5, 11, 12, 13, 14] rfl (by decide)) (ci := 5) (q0 := 10) rfl rfl rfl rfl hl.1 rfl (Nat.le_of_ble_eq_true rfl) dX11_round_28) hV (va_free hV.2.1 hV.2.2 hA [10, 27, 28, 29, 30, 31, 32, 6, 7, 8, 9, 2, 3, 4, 5, 11, 12, 13, 14] rfl) (fr_jn (s := s) (wn := wY11 cs h0 o0_0 h4 h5 h6 h7 o0_3 o0_4 o0_5 o0_6 h1 h2 o0_9 h3 o0_11 o0_12 o0_13 o0_14 ra0 x0_15 ++ (wX0 cs h1 h4 ra1 u8.2.2.2.2.2.2.2.2.2.2.2.1 u8.2.2.2.2.2.2.2.2.2.2.2.2.1 u8.2.2.2.2.2.2.2.2.2.2.2.2.2.1 u8.2.2.2.2.2.2.2.2.2.2.2.2.2.2.1 u8.2.2.2.2.2.2.2.2.2.2.2.2.2.2.2.1 u8.2.2.2.2.2.2.2.2.2.2.2.2.2.2.2.2.1 u8.2.2.2.2.2.2.2.2.2.2.2.2.2.2.2.2.2.1 u8.2.2.2.2.2.2.2.2.2.2.2.2.2.2.2.2.2.2 y1_9 x1_10 x1_11 x1_12 x1_13 x1_14 ++ (wX0 cs h2 h4 ra2 u8.2.2.2.1 u8.2.2.2.2.1 u8.2.2.2.2.2.1 u8.2.2.2.2.2.2.1 u8.2.2.2.2.2.2.2.1 u8.2.2.2.2.2.2.2.2.1 u8.2.2.2.2.2.2.2.2.2.1 u8.2.2.2.2.2.2.2.2.2.2.1 y2_9 x2_10 x2_11 x2_12 x2_13 x2_14 ++ (wX5 cs h3 h4 h1 h2 u8.1 u8.2.1 u8.2.2.1 ++ (wX10 cs h4 ra4 y4_0 y4_1 y4_2 x4_3 ++ (wX4 cs h5 ra5 y5_0 y5_1 y5_2 y5_3 y5_4 x5_5 x5_6 ++ (wX4 cs h6 ra6 y6_0 y6_1 y6_2 y6_3 y6_4 x6_5 x6_6 ++ (wX4 cs h7 ra7 y7_0 y7_1 y7_2 y7_3 y7_4 x7_5 x7_6)))))))) hV hA [10, 27, 28, 29, 30, 31, 32, 6, 7, 8, 9, 2, 3, 4, 5, 11, 12, 13, 14] [0, 1, 15, 16, 17, 18, 19, 20, 21, 22, 23, 24, 25, 26] [0, 1, 25, 26, 27, 28, 21, 22, 23, 24, 14, 29, 30, 31, 32, 2, 3, 4, 5, 6, 7, 8, 9, 10, 11, 12, 13, 15, 16, 17, 18, 19, 20] rfl rfl (by decide) (by decide) rfl (by decide)) (fun H locs hV => ?_)
        refine lv_iload_n hx hb dX11_round_31 rfl (lv_at hl 2 rfl) ?_
        refine lv_if_ne (tgt := 43) hx hb dX11_round_32 (by decide) (fun hc => ?_) (fun hc => ?_)
        · have hf := hf_f hf hc
          refine lv_aload_n hx hb dX11_round_43 rfl (lv_at hl 0 rfl) ?_
          refine q_get (v := .ref h3) hC hK hV fl_X11_77 0 rfl rfl dX11_round_44 ?_
          refine q_get (v := .int u8.1) hC hK hV fl_X11_221 10 rfl rfl dX11_round_47 ?_
          refine lv_iconst (v := 1) hx hb dX11_round_50 (by decide) ?_
          refine lv_icmp_eq (tgt := 57) hx hb dX11_round_51 (by decide) (fun hc => ?_) (fun hc => ?_)
          · have hf := hf_t hf hc
            refine lv_iload_n hx hb dX11_round_57 rfl (lv_at hl 2 rfl) ?_
            refine lv_iconst (v := 1) hx hb dX11_round_58 (by decide) ?_
            refine lv_icmp_ne (tgt := 72) hx hb dX11_round_59 (by decide) (fun hc => ?_) (fun hc => ?_)
            · have hf := hf_f hf hc
              refine lv_aload_n hx hb dX11_round_72 rfl (lv_at hl 0 rfl) ?_
              refine q_get (v := .ref h3) hC hK hV fl_X11_77 0 rfl rfl dX11_round_73 ?_
              refine q_get (v := .int u8.2.2.1) hC hK hV fl_X11_227 10 rfl rfl dX11_round_76 ?_
              obtain rfl := Option.some.inj hf
              exact q_ret hC hr hlocks hV dX11_round_79
            · have hf := hf_t hf hc
              refine lv_aload_n hx hb dX11_round_62 rfl (lv_at hl 0 rfl) ?_
              refine q_get (v := .ref h3) hC hK hV fl_X11_77 0 rfl rfl dX11_round_63 ?_
              refine q_get (v := .int u8.2.1) hC hK hV fl_X11_224 10 rfl rfl dX11_round_66 ?_
              refine lv_goto (tgt := 79) hx hb dX11_round_69 (by decide) ?_
              obtain rfl := Option.some.inj hf
              exact q_ret hC hr hlocks hV dX11_round_79
          · have hf := hf_f hf hc
            refine lv_bipush (v := (-2)) hx hb dX11_round_54 (by decide) ?_
            obtain rfl := Option.some.inj hf
            exact q_ret hC hr hlocks hV dX11_round_56
        · have hf := hf_t hf hc
          refine lv_aload_n hx hb dX11_round_35 rfl (lv_at hl 0 rfl) ?_
          refine q_get (v := .ref h3) hC hK hV fl_X11_77 0 rfl rfl dX11_round_36 ?_
          refine q_get (v := .int u8.1) hC hK hV fl_X11_221 10 rfl rfl dX11_round_39 ?_
          obtain rfl := Option.some.inj hf
          exact q_ret hC hr hlocks hV dX11_round_42
      have hf := hf_f hf ht7
      exact hf_no (show (none : Option (Int32 × (Nat → Int32) × (Nat → Int32) × Int32 × Int32 × Int32 × Int32 × Int32 × Int32 × (Nat → Int32) × (Nat → Int32) × Int32 × Int32 × Int32 × Int32 × Int32 × Int32 × Int32 × Int32 × Int32)) = some u from hf)
    · have hf := hf_t hf hc
      refine lv_iconst (v := (-1)) hx hb dX11_round_16 (by decide) ?_
      obtain rfl := Option.some.inj hf
      exact q_ret hC hr hlocks hV dX11_round_17
set_option maxRecDepth 100000 in
theorem k_X11_round (l : Launch) (D : va_G) (cs : Nat → ClassId) (h0 : Nat) (o0_0 : Nat) (o0_3 : Nat) (o0_4 : Nat) (o0_5 : Nat) (o0_6 : Nat) (o0_9 : Nat) (o0_11 : Nat) (o0_12 : Nat) (o0_13 : Nat) (o0_14 : Nat) (ra0 : Nat → Nat) (h1 : Nat) (ra1 : Nat → Nat) (h2 : Nat) (ra2 : Nat → Nat) (h3 : Nat) (h4 : Nat) (ra4 : Nat → Nat) (h5 : Nat) (ra5 : Nat → Nat) (h6 : Nat) (ra6 : Nat → Nat) (h7 : Nat) (ra7 : Nat → Nat) (x0_15 : Int32) (y1_1 y1_2 : Nat → Int32) (x1_3 x1_4 x1_5 x1_6 x1_7 x1_8 : Int32) (y1_9 : Nat → Int32) (x1_10 x1_11 x1_12 x1_13 x1_14 : Int32) (y2_1 y2_2 : Nat → Int32) (x2_3 x2_4 x2_5 x2_6 x2_7 x2_8 : Int32) (y2_9 : Nat → Int32) (x2_10 x2_11 x2_12 x2_13 x2_14 x3_3 x3_4 x3_5 : Int32) (y4_0 y4_1 y4_2 : Nat → Int32) (x4_3 : Int32) (y5_0 y5_1 y5_2 y5_3 y5_4 : Nat → Int32) (x5_5 x5_6 : Int32) (y6_0 y6_1 y6_2 y6_3 y6_4 : Nat → Int32) (x6_5 x6_6 : Int32) (y7_0 y7_1 y7_2 y7_3 y7_4 : Nat → Int32) (x7_5 x7_6 : Int32) (v1 v2 : Int32) (u : Int32 × (Nat → Int32) × (Nat → Int32) × Int32 × Int32 × Int32 × Int32 × Int32 × Int32 × (Nat → Int32) × (Nat → Int32) × Int32 × Int32 × Int32 × Int32 × Int32 × Int32 × Int32 × Int32 × Int32) (sz : Nat) (hf : f_X11_round v1 v2 y1_1 y1_2 x1_3 x1_4 x1_5 x1_6 x1_7 x1_8 y2_1 y2_2 x2_3 x2_4 x2_5 x2_6 x2_7 x2_8 x3_3 x3_4 x3_5 y4_0 y4_1 y4_2 x4_3 y5_0 y5_1 y5_2 y5_3 y5_4 x5_5 y6_0 y6_1 y6_2 y6_3 y6_4 x6_5 y7_0 y7_1 y7_2 y7_3 y7_4 x7_5 = some u) : Met l yX11_round (WS yX11_round cX11_round 3 (some .int)) rm_X11_round (va_Pc [.ref h0, .int v1, .int v2] (PR D cs (wY11 cs h0 o0_0 h4 h5 h6 h7 o0_3 o0_4 o0_5 o0_6 h1 h2 o0_9 h3 o0_11 o0_12 o0_13 o0_14 ra0 x0_15 ++ (wX0 cs h1 h4 ra1 y1_1 y1_2 x1_3 x1_4 x1_5 x1_6 x1_7 x1_8 y1_9 x1_10 x1_11 x1_12 x1_13 x1_14 ++ (wX0 cs h2 h4 ra2 y2_1 y2_2 x2_3 x2_4 x2_5 x2_6 x2_7 x2_8 y2_9 x2_10 x2_11 x2_12 x2_13 x2_14 ++ (wX5 cs h3 h4 h1 h2 x3_3 x3_4 x3_5 ++ (wX10 cs h4 ra4 y4_0 y4_1 y4_2 x4_3 ++ (wX4 cs h5 ra5 y5_0 y5_1 y5_2 y5_3 y5_4 x5_5 x5_6 ++ (wX4 cs h6 ra6 y6_0 y6_1 y6_2 y6_3 y6_4 x6_5 x6_6 ++ (wX4 cs h7 ra7 y7_0 y7_1 y7_2 y7_3 y7_4 x7_5 x7_6)))))))) sz)) (QI D (wY11 cs h0 o0_0 h4 h5 h6 h7 o0_3 o0_4 o0_5 o0_6 h1 h2 o0_9 h3 o0_11 o0_12 o0_13 o0_14 ra0 x0_15 ++ (wX0 cs h1 h4 ra1 u.2.1 u.2.2.1 u.2.2.2.1 u.2.2.2.2.1 u.2.2.2.2.2.1 u.2.2.2.2.2.2.1 u.2.2.2.2.2.2.2.1 u.2.2.2.2.2.2.2.2.1 y1_9 x1_10 x1_11 x1_12 x1_13 x1_14 ++ (wX0 cs h2 h4 ra2 u.2.2.2.2.2.2.2.2.2.1 u.2.2.2.2.2.2.2.2.2.2.1 u.2.2.2.2.2.2.2.2.2.2.2.1 u.2.2.2.2.2.2.2.2.2.2.2.2.1 u.2.2.2.2.2.2.2.2.2.2.2.2.2.1 u.2.2.2.2.2.2.2.2.2.2.2.2.2.2.1 u.2.2.2.2.2.2.2.2.2.2.2.2.2.2.2.1 u.2.2.2.2.2.2.2.2.2.2.2.2.2.2.2.2.1 y2_9 x2_10 x2_11 x2_12 x2_13 x2_14 ++ (wX5 cs h3 h4 h1 h2 u.2.2.2.2.2.2.2.2.2.2.2.2.2.2.2.2.2.1 u.2.2.2.2.2.2.2.2.2.2.2.2.2.2.2.2.2.2.1 u.2.2.2.2.2.2.2.2.2.2.2.2.2.2.2.2.2.2.2 ++ (wX10 cs h4 ra4 y4_0 y4_1 y4_2 x4_3 ++ (wX4 cs h5 ra5 y5_0 y5_1 y5_2 y5_3 y5_4 x5_5 x5_6 ++ (wX4 cs h6 ra6 y6_0 y6_1 y6_2 y6_3 y6_4 x6_5 x6_6 ++ (wX4 cs h7 ra7 y7_0 y7_1 y7_2 y7_3 y7_4 x7_5 x7_6)))))))) (va_A (wY11 cs h0 o0_0 h4 h5 h6 h7 o0_3 o0_4 o0_5 o0_6 h1 h2 o0_9 h3 o0_11 o0_12 o0_13 o0_14 ra0 x0_15 ++ (wX0 cs h1 h4 ra1 y1_1 y1_2 x1_3 x1_4 x1_5 x1_6 x1_7 x1_8 y1_9 x1_10 x1_11 x1_12 x1_13 x1_14 ++ (wX0 cs h2 h4 ra2 y2_1 y2_2 x2_3 x2_4 x2_5 x2_6 x2_7 x2_8 y2_9 x2_10 x2_11 x2_12 x2_13 x2_14 ++ (wX5 cs h3 h4 h1 h2 x3_3 x3_4 x3_5 ++ (wX10 cs h4 ra4 y4_0 y4_1 y4_2 x4_3 ++ (wX4 cs h5 ra5 y5_0 y5_1 y5_2 y5_3 y5_4 x5_5 x5_6 ++ (wX4 cs h6 ra6 y6_0 y6_1 y6_2 y6_3 y6_4 x6_5 x6_6 ++ (wX4 cs h7 ra7 y7_0 y7_1 y7_2 y7_3 y7_4 x7_5 x7_6)))))))) sz) u.1) 0 0 (va_A (wY11 cs h0 o0_0 h4 h5 h6 h7 o0_3 o0_4 o0_5 o0_6 h1 h2 o0_9 h3 o0_11 o0_12 o0_13 o0_14 ra0 x0_15 ++ (wX0 cs h1 h4 ra1 y1_1 y1_2 x1_3 x1_4 x1_5 x1_6 x1_7 x1_8 y1_9 x1_10 x1_11 x1_12 x1_13 x1_14 ++ (wX0 cs h2 h4 ra2 y2_1 y2_2 x2_3 x2_4 x2_5 x2_6 x2_7 x2_8 y2_9 x2_10 x2_11 x2_12 x2_13 x2_14 ++ (wX5 cs h3 h4 h1 h2 x3_3 x3_4 x3_5 ++ (wX10 cs h4 ra4 y4_0 y4_1 y4_2 x4_3 ++ (wX4 cs h5 ra5 y5_0 y5_1 y5_2 y5_3 y5_4 x5_5 x5_6 ++ (wX4 cs h6 ra6 y6_0 y6_1 y6_2 y6_3 y6_4 x6_5 x6_6 ++ (wX4 cs h7 ra7 y7_0 y7_1 y7_2 y7_3 y7_4 x7_5 x7_6)))))))) sz) := by
  refine met_of RX11 rfl (by decide) (Nat.le_of_ble_eq_true rfl) ?_
  intro p e s m args below meth c hC hr hlocks hK hsz hA hV ls hl
  exact b_X11_round_0 hC hr hlocks hK hA h0 o0_0 o0_3 o0_4 o0_5 o0_6 o0_9 o0_11 o0_12 o0_13 o0_14 ra0 h1 ra1 h2 ra2 h3 h4 ra4 h5 ra5 h6 ra6 h7 ra7 x0_15 y1_9 x1_10 x1_11 x1_12 x1_13 x1_14 y2_9 x2_10 x2_11 x2_12 x2_13 x2_14 x5_6 x6_6 x7_6 u v1 v2 y1_1 y1_2 x1_3 x1_4 x1_5 x1_6 x1_7 x1_8 y2_1 y2_2 x2_3 x2_4 x2_5 x2_6 x2_7 x2_8 x3_3 x3_4 x3_5 y4_0 y4_1 y4_2 x4_3 y5_0 y5_1 y5_2 y5_3 y5_4 x5_5 y6_0 y6_1 y6_2 y6_3 y6_4 x6_5 y7_0 y7_1 y7_2 y7_3 y7_4 x7_5 s.heap [] ls hf (lv_sub hl [0, 1, 2] rfl) hV
def rm_X11_shortest : Room := { frames := 4, cells := 0, slots := 0, locals := 120 }
set_option maxHeartbeats 4000000 in
set_option maxRecDepth 100000 in
theorem b_X11_shortest_0 {p : Program} {l : Launch} {e : Env} {s : State} {m : MethodId} {args : Array Value} {below : List Frame} {meth : Method} {c : Code} {D : va_G} {cs : Nat → ClassId} {A : Nat → Prop} (hC : CallFix p m c cX11_shortest 3 s args gtbl RX11) (hr : meth.sig.returnType = (some .int)) (hlocks : meth.locks = false) (hK : KN D cs s) (hA : ∀ q : Nat, s.heap.size ≤ q → A q) (h0 : Nat) (o0_2a : Nat) (o0_2b : Nat) (o0_2c : Nat) (o0_3 : Nat) (o0_4 : Nat) (o0_5 : Nat) (o0_6 : Nat) (o0_8 : Nat) (o0_9 : Nat) (o0_10 : Nat) (o0_12 : Nat) (o0_13 : Nat) (o0_14 : Nat) (ra0 : Nat → Nat) (h1 : Nat) (ra1 : Nat → Nat) (h2 : Nat) (ra2 : Nat → Nat) (h3 : Nat) (ra3 : Nat → Nat) (h4 : Nat) (ra4 : Nat → Nat) (x0_15 : Int32) (y1_9 : Nat → Int32) (x1_10 x1_11 x1_12 x1_13 x1_14 x3_2 x3_3 x3_4 : Int32) (u : Int32 × (Nat → Int32) × (Nat → Int32) × Int32 × Int32 × Int32 × Int32 × Int32 × Int32 × (Nat → Int32) × (Nat → Int32) × (Nat → Int32) × (Nat → Int32) × (Nat → Int32) × (Nat → Int32) × Int32 × Int32) : ∀ (v1 : Int32) (y1_1 y1_2 : Nat → Int32) (x1_3 x1_4 x1_5 x1_6 x1_7 x1_8 : Int32) (y2_2 y2_3 y2_4 y2_5 y2_6 y2_7 y2_8 y2_9 y2_10 : Nat → Int32) (x2_11 : Int32) (y3_0 : Nat → Int32) (x3_1 : Int32) (y4_0 y4_1 y4_2 : Nat → Int32) (x4_3 : Int32) (H : Heap) (locs : List Loc) (ls : Array Slot), g_X11_shortest_0 v1 y1_1 y1_2 x1_3 x1_4 x1_5 x1_6 x1_7 x1_8 y2_2 y2_3 y2_4 y2_5 y2_6 y2_7 y2_8 y2_9 y2_10 x2_11 y3_0 x3_1 y4_0 y4_1 y4_2 x4_3 = some u → lv_has ls 3 [(0, .ref h0), (1, .int v1)] → VW D A s.heap (wY11 cs h0 h3 h4 o0_2a o0_2b o0_2c o0_3 o0_4 o0_5 o0_6 h1 o0_8 o0_9 o0_10 h2 o0_12 o0_13 o0_14 ra0 x0_15 ++ (wX0 cs h1 h4 ra1 y1_1 y1_2 x1_3 x1_4 x1_5 x1_6 x1_7 x1_8 y1_9 x1_10 x1_11 x1_12 x1_13 x1_14 ++ (wX3 cs h2 h4 h1 ra2 y2_2 y2_3 y2_4 y2_5 y2_6 y2_7 y2_8 y2_9 y2_10 x2_11 ++ (wX9 cs h3 ra3 y3_0 x3_1 x3_2 x3_3 x3_4 ++ (wX10 cs h4 ra4 y4_0 y4_1 y4_2 x4_3))))) H locs → W p l e rm_X11_shortest s m args below meth c H locs 0 0 (MQ below (QI D (wY11 cs h0 h3 h4 o0_2a o0_2b o0_2c o0_3 o0_4 o0_5 o0_6 h1 o0_8 o0_9 o0_10 h2 o0_12 o0_13 o0_14 ra0 x0_15 ++ (wX0 cs h1 h4 ra1 u.2.1 u.2.2.1 u.2.2.2.1 u.2.2.2.2.1 u.2.2.2.2.2.1 u.2.2.2.2.2.2.1 u.2.2.2.2.2.2.2.1 u.2.2.2.2.2.2.2.2.1 y1_9 x1_10 x1_11 x1_12 x1_13 x1_14 ++ (wX3 cs h2 h4 h1 ra2 u.2.2.2.2.2.2.2.2.2.1 u.2.2.2.2.2.2.2.2.2.2.1 u.2.2.2.2.2.2.2.2.2.2.2.1 u.2.2.2.2.2.2.2.2.2.2.2.2.1 y2_6 y2_7 y2_8 u.2.2.2.2.2.2.2.2.2.2.2.2.2.1 u.2.2.2.2.2.2.2.2.2.2.2.2.2.2.1 u.2.2.2.2.2.2.2.2.2.2.2.2.2.2.2.1 ++ (wX9 cs h3 ra3 y3_0 u.2.2.2.2.2.2.2.2.2.2.2.2.2.2.2.2 x3_2 x3_3 x3_4 ++ (wX10 cs h4 ra4 y4_0 y4_1 y4_2 x4_3))))) A u.1) args s 0 0 A) (F0 m 0 ls []) := by
  have hx := hC.1
  have hb := hC.2.1
  have hown := hC.2.2.2.1
  have hts := hC.2.2.2.2
  intro v1 y1_1 y1_2 x1_3 x1_4 x1_5 x1_6 x1_7 x1_8 y2_2 y2_3 y2_4 y2_5 y2_6 y2_7 y2_8 y2_9 y2_10 x2_11 y3_0 x3_1 y4_0 y4_1 y4_2 x4_3 H locs ls hf hl hV
  refine lv_iload_n hx hb dX11_shortest_0 rfl (lv_at hl 1 rfl) ?_
  refine lv_iconst (v := (-1)) hx hb dX11_shortest_1 (by decide) ?_
  refine lv_bipush (v := 99) hx hb dX11_shortest_2 (by decide) ?_
  obtain ⟨u1, hc1, hf⟩ := hf_b hf
  refine aft_i (run_s hC (k_X11_within l D cs v1 (-1) 99 u1 H.size hc1) cd_X11_within st_X11_within ml_X11_115 rfl rfl ⟨by decide, by decide⟩ (fr_pre hK hV [] rfl (by decide)) rfl hl.1 rfl (Nat.le_of_ble_eq_true rfl) dX11_shortest_4) hV (va_free hV.2.1 hV.2.2 hA [] rfl) (fr_jn (s := s) (wn := wY11 cs h0 h3 h4 o0_2a o0_2b o0_2c o0_3 o0_4 o0_5 o0_6 h1 o0_8 o0_9 o0_10 h2 o0_12 o0_13 o0_14 ra0 x0_15 ++ (wX0 cs h1 h4 ra1 y1_1 y1_2 x1_3 x1_4 x1_5 x1_6 x1_7 x1_8 y1_9 x1_10 x1_11 x1_12 x1_13 x1_14 ++ (wX3 cs h2 h4 h1 ra2 y2_2 y2_3 y2_4 y2_5 y2_6 y2_7 y2_8 y2_9 y2_10 x2_11 ++ (wX9 cs h3 ra3 y3_0 x3_1 x3_2 x3_3 x3_4 ++ (wX10 cs h4 ra4 y4_0 y4_1 y4_2 x4_3))))) hV hA [] [0, 1, 2, 3, 4, 5, 6, 7, 8, 9, 10, 11, 12, 13, 14, 15, 16, 17, 18, 19, 20, 21] [0, 1, 2, 3, 4, 5, 6, 7, 8, 9, 10, 11, 12, 13, 14, 15, 16, 17, 18, 19, 20, 21] rfl rfl (by decide) (by decide) rfl (by decide)) (fun H locs hV => ?_)
  refine lv_if_eq (tgt := 22) hx hb dX11_shortest_7 (by decide) (fun hc => ?_) (fun hc => ?_)
  · have hf := hf_t hf hc
    refine lv_bipush (v := (-4)) hx hb dX11_shortest_22 (by decide) ?_
    obtain rfl := Option.some.inj hf
    exact q_ret hC hr hlocks hV dX11_shortest_24
  · have hf := hf_f hf hc
    refine lv_aload_n hx hb dX11_shortest_10 rfl (lv_at hl 0 rfl) ?_
    refine q_get (v := .ref h3) hC hK hV fl_X11_10 0 rfl rfl dX11_shortest_11 ?_
    refine q_get (v := .int x3_1) hC hK hV fl_X11_131 16 rfl rfl dX11_shortest_14 ?_
    refine lv_bipush (v := 6) hx hb dX11_shortest_17 (by decide) ?_
    refine lv_icmp_ge (tgt := 25) hx hb dX11_shortest_19 (by decide) (fun hc => ?_) (fun hc => ?_)
    · have hf := hf_t hf hc
      refine lv_aload_n hx hb dX11_shortest_25 rfl (lv_at hl 0 rfl) ?_
      refine q_get (v := .ref h3) hC hK hV fl_X11_10 0 rfl rfl dX11_shortest_26 ?_
      refine lv_aload_n hx hb dX11_shortest_29 rfl (lv_at hl 0 rfl) ?_
      refine q_get (v := .ref h2) hC hK hV fl_X11_86 0 rfl rfl dX11_shortest_30 ?_
      refine q_get (v := .ref (ra2 2)) hC hK hV fl_X11_228 6 rfl rfl dX11_shortest_33 ?_
      obtain ⟨u2, hc2, hf⟩ := hf_b hf
      refine aft_v (run_v hC (k_X9_takeMeasures l D cs h3 ra3 (ra2 2) y3_0 x3_1 x3_2 x3_3 x3_4 y2_2 u2 H.size hc2) cd_X9_takeMeasures cv_X9_takeMeasures ml_X11_231 rfl rfl ⟨by decide, by decide⟩ hK hV (fr_pre hK hV [16, 17, 7] rfl (by decide)) (ci := 9) (q0 := 16) rfl rfl rfl rfl hl.1 rfl (Nat.le_of_ble_eq_true rfl) dX11_shortest_36) hV (va_free hV.2.1 hV.2.2 hA [16, 17, 7] rfl) (fr_jn (s := s) (wn := wY11 cs h0 h3 h4 o0_2a o0_2b o0_2c o0_3 o0_4 o0_5 o0_6 h1 o0_8 o0_9 o0_10 h2 o0_12 o0_13 o0_14 ra0 x0_15 ++ (wX0 cs h1 h4 ra1 y1_1 y1_2 x1_3 x1_4 x1_5 x1_6 x1_7 x1_8 y1_9 x1_10 x1_11 x1_12 x1_13 x1_14 ++ (wX3 cs h2 h4 h1 ra2 u2 y2_3 y2_4 y2_5 y2_6 y2_7 y2_8 y2_9 y2_10 x2_11 ++ (wX9 cs h3 ra3 y3_0 x3_1 x3_2 x3_3 x3_4 ++ (wX10 cs h4 ra4 y4_0 y4_1 y4_2 x4_3))))) hV hA [16, 17, 7] [0, 1, 2, 3, 4, 5, 6, 8, 9, 10, 11, 12, 13, 14, 15, 18, 19, 20, 21] [0, 1, 2, 3, 4, 5, 6, 21, 7, 8, 9, 10, 11, 12, 13, 14, 19, 20, 15, 16, 17, 18] rfl rfl (by decide) (by decide) rfl (by decide)) (fun H locs hV => ?_)
      refine lv_aload_n hx hb dX11_shortest_39 rfl (lv_at hl 0 rfl) ?_
      refine q_get (v := .ref h3) hC hK hV fl_X11_10 0 rfl rfl dX11_shortest_40 ?_
      obtain ⟨u3, hc3, hf⟩ := hf_b hf
      refine aft_v (run_v hC (k_X9_clear l D cs h3 ra3 y3_0 x3_1 x3_2 x3_3 x3_4 u3 H.size hc3) cd_X9_clear cv_X9_clear ml_X11_145 rfl rfl ⟨by decide, by decide⟩ hK hV (fr_pre hK hV [16, 17] rfl (by decide)) (ci := 9) (q0 := 16) rfl rfl rfl rfl hl.1 rfl (Nat.le_of_ble_eq_true rfl) dX11_shortest_43) hV (va_free hV.2.1 hV.2.2 hA [16, 17] rfl) (fr_jn (s := s) (wn := wY11 cs h0 h3 h4 o0_2a o0_2b o0_2c o0_3 o0_4 o0_5 o0_6 h1 o0_8 o0_9 o0_10 h2 o0_12 o0_13 o0_14 ra0 x0_15 ++ (wX0 cs h1 h4 ra1 y1_1 y1_2 x1_3 x1_4 x1_5 x1_6 x1_7 x1_8 y1_9 x1_10 x1_11 x1_12 x1_13 x1_14 ++ (wX3 cs h2 h4 h1 ra2 u2 y2_3 y2_4 y2_5 y2_6 y2_7 y2_8 y2_9 y2_10 x2_11 ++ (wX9 cs h3 ra3 y3_0 u3 x3_2 x3_3 x3_4 ++ (wX10 cs h4 ra4 y4_0 y4_1 y4_2 x4_3))))) hV hA [16, 17] [0, 1, 2, 3, 4, 5, 6, 7, 8, 9, 10, 11, 12, 13, 14, 15, 18, 19, 20, 21] [0, 1, 2, 3, 4, 5, 6, 7, 8, 9, 10, 11, 12, 13, 14, 15, 20, 21, 16, 17, 18, 19] rfl rfl (by decide) (by decide) rfl (by decide)) (fun H locs hV => ?_)
      refine lv_aload_n hx hb dX11_shortest_46 rfl (lv_at hl 0 rfl) ?_
      refine q_get (v := .ref h2) hC hK hV fl_X11_86 0 rfl rfl dX11_shortest_47 ?_
      obtain ⟨u4, hc4, hf⟩ := hf_b hf
      refine aft_i (run_v hC (k_X3_canSeek l D cs h2 h1 ra2 h4 ra4 u2 y2_3 y2_4 y2_5 y2_6 y2_7 y2_8 y2_9 y2_10 x2_11 y4_0 y4_1 y4_2 x4_3 u4 H.size hc4) cd_X3_canSeek cv_X3_canSeek ml_X11_235 rfl rfl ⟨by decide, by decide⟩ hK hV (fr_pre hK hV [6, 7, 8, 9, 10, 11, 12, 13, 14, 15, 18, 19, 20, 21] rfl (by decide)) (ci := 3) (q0 := 6) rfl rfl rfl rfl hl.1 rfl (Nat.le_of_ble_eq_true rfl) dX11_shortest_50) hV (va_free hV.2.1 hV.2.2 hA [6, 7, 8, 9, 10, 11, 12, 13, 14, 15, 18, 19, 20, 21] rfl) (fr_jn (s := s) (wn := wY11 cs h0 h3 h4 o0_2a o0_2b o0_2c o0_3 o0_4 o0_5 o0_6 h1 o0_8 o0_9 o0_10 h2 o0_12 o0_13 o0_14 ra0 x0_15 ++ (wX0 cs h1 h4 ra1 y1_1 y1_2 x1_3 x1_4 x1_5 x1_6 x1_7 x1_8 y1_9 x1_10 x1_11 x1_12 x1_13 x1_14 ++ (wX3 cs h2 h4 h1 ra2 u2 y2_3 y2_4 u4.2 y2_6 y2_7 y2_8 y2_9 y2_10 x2_11 ++ (wX9 cs h3 ra3 y3_0 u3 x3_2 x3_3 x3_4 ++ (wX10 cs h4 ra4 y4_0 y4_1 y4_2 x4_3))))) hV hA [6, 7, 8, 9, 10, 11, 12, 13, 14, 15, 18, 19, 20, 21] [0, 1, 2, 3, 4, 5, 16, 17] [0, 1, 2, 3, 4, 5, 8, 9, 10, 11, 12, 13, 14, 15, 16, 17, 6, 7, 18, 19, 20, 21] rfl rfl (by decide) (by decide) rfl (by decide)) (fun H locs hV => ?_)
      refine lv_if_ne (tgt := 59) hx hb dX11_shortest_53 (by decide) (fun hc => ?_) (fun hc => ?_)
      · have hf := hf_f hf hc
        refine lv_aload_n hx hb dX11_shortest_59 rfl (lv_at hl 0 rfl) ?_
        refine q_get (v := .ref h2) hC hK hV fl_X11_86 0 rfl rfl dX11_shortest_60 ?_
        obtain ⟨u5, hc5, hf⟩ := hf_b hf
        refine aft_i (run_v hC (k_X3_seek l D cs h2 ra2 h1 ra1 h4 ra4 u2 y2_3 y2_4 u4.2 y2_6 y2_7 y2_8 y2_9 y2_10 x2_11 y1_1 y1_2 x1_3 x1_4 x1_5 x1_6 x1_7 x1_8 y1_9 x1_10 x1_11 x1_12 x1_13 x1_14 y4_0 y4_1 y4_2 x4_3 u5 H.size hc5) cd_X3_seek cv_X3_seek ml_X11_238 rfl rfl ⟨by decide, by decide⟩ hK hV (fr_pre hK hV [6, 7, 8, 9, 10, 11, 12, 13, 14, 15, 2, 3, 4, 5, 18, 19, 20, 21] rfl (by decide)) (ci := 3) (q0 := 6) rfl rfl rfl rfl hl.1 rfl (Nat.le_of_ble_eq_true rfl) dX11_shortest_63) hV (va_free hV.2.1 hV.2.2 hA [6, 7, 8, 9, 10, 11, 12, 13, 14, 15, 2, 3, 4, 5, 18, 19, 20, 21] rfl) (fr_jn (s := s) (wn := wY11 cs h0 h3 h4 o0_2a o0_2b o0_2c o0_3 o0_4 o0_5 o0_6 h1 o0_8 o0_9 o0_10 h2 o0_12 o0_13 o0_14 ra0 x0_15 ++ (wX0 cs h1 h4 ra1 u5.2.2.2.2.2.2.2.1 u5.2.2.2.2.2.2.2.2.1 u5.2.2.2.2.2.2.2.2.2.1 u5.2.2.2.2.2.2.2.2.2.2.1 u5.2.2.2.2.2.2.2.2.2.2.2.1 u5.2.2.2.2.2.2.2.2.2.2.2.2.1 u5.2.2.2.2.2.2.2.2.2.2.2.2.2.1 u5.2.2.2.2.2.2.2.2.2.2.2.2.2.2 y1_9 x1_10 x1_11 x1_12 x1_13 x1_14 ++ (wX3 cs h2 h4 h1 ra2 u2 u5.2.1 u5.2.2.1 u5.2.2.2.1 y2_6 y2_7 y2_8 u5.2.2.2.2.1 u5.2.2.2.2.2.1 u5.2.2.2.2.2.2.1 ++ (wX9 cs h3 ra3 y3_0 u3 x3_2 x3_3 x3_4 ++ (wX10 cs h4 ra4 y4_0 y4_1 y4_2 x4_3))))) hV hA [6, 7, 8, 9, 10, 11, 12, 13, 14, 15, 2, 3, 4, 5, 18, 19, 20, 21] [0, 1, 16, 17] [0, 1, 14, 15, 16, 17, 4, 5, 6, 7, 8, 9, 10, 11, 12, 13, 2, 3, 18, 19, 20, 21] rfl rfl (by decide) (by decide) rfl (by decide)) (fun H locs hV => ?_)
        refine lv_istore_n (lv' := [(2, .int u5.1), (0, .ref h0), (1, .int v1)]) hx hb dX11_shortest_66 rfl hl (by decide) rfl (fun ls hl => ?_)
        refine lv_iload_n hx hb dX11_shortest_67 rfl (lv_at hl 0 rfl) ?_
        refine lv_if_ge (tgt := 74) hx hb dX11_shortest_68 (by decide) (fun hc => ?_) (fun hc => ?_)
        · have hf := hf_t hf hc
          refine lv_iload_n hx hb dX11_shortest_74 rfl (lv_at hl 2 rfl) ?_
          refine lv_iconst (v := (-1)) hx hb dX11_shortest_75 (by decide) ?_
          refine lv_icmp_ne (tgt := 81) hx hb dX11_shortest_76 (by decide) (fun hc => ?_) (fun hc => ?_)
          · have hf := hf_f hf hc
            refine lv_iload_n hx hb dX11_shortest_81 rfl (lv_at hl 2 rfl) ?_
            refine lv_iload_n hx hb dX11_shortest_82 rfl (lv_at hl 0 rfl) ?_
            refine lv_icmp_ge (tgt := 98) hx hb dX11_shortest_83 (by decide) (fun hc => ?_) (fun hc => ?_)
            · have hf := hf_t hf hc
              refine lv_bipush (v := (-4)) hx hb dX11_shortest_98 (by decide) ?_
              obtain rfl := Option.some.inj hf
              exact q_ret hC hr hlocks hV dX11_shortest_100
            · have hf := hf_f hf hc
              refine lv_aload_n hx hb dX11_shortest_86 rfl (lv_at hl 1 rfl) ?_
              refine q_get (v := .ref h2) hC hK hV fl_X11_86 0 rfl rfl dX11_shortest_87 ?_
              refine q_get (v := .ref (ra2 3)) hC hK hV fl_X11_241 6 rfl rfl dX11_shortest_90 ?_
              refine lv_iload_n hx hb dX11_shortest_93 rfl (lv_at hl 2 rfl) ?_
              obtain ⟨hi6, hf⟩ := hf_if hf
              refine q_iald hC hK hV 8 rfl hi6 dX11_shortest_94 ?_
              refine lv_goto (tgt := 100) hx hb dX11_shortest_95 (by decide) ?_
              obtain rfl := Option.some.inj hf
              exact q_ret hC hr hlocks hV dX11_shortest_100
          · have hf := hf_t hf hc
            refine lv_iload_n hx hb dX11_shortest_79 rfl (lv_at hl 0 rfl) ?_
            obtain rfl := Option.some.inj hf
            exact q_ret hC hr hlocks hV dX11_shortest_80
        · have hf := hf_f hf hc
          refine lv_bipush (v := (-2)) hx hb dX11_shortest_71 (by decide) ?_
          obtain rfl := Option.some.inj hf
          exact q_ret hC hr hlocks hV dX11_shortest_73
      · have hf := hf_t hf hc
        refine lv_bipush (v := (-3)) hx hb dX11_shortest_56 (by decide) ?_
        obtain rfl := Option.some.inj hf
        exact q_ret hC hr hlocks hV dX11_shortest_58
    · have hf := hf_f hf hc
      refine lv_bipush (v := (-4)) hx hb dX11_shortest_22 (by decide) ?_
      obtain rfl := Option.some.inj hf
      exact q_ret hC hr hlocks hV dX11_shortest_24
set_option maxRecDepth 100000 in
theorem k_X11_shortest (l : Launch) (D : va_G) (cs : Nat → ClassId) (h0 : Nat) (o0_2a : Nat) (o0_2b : Nat) (o0_2c : Nat) (o0_3 : Nat) (o0_4 : Nat) (o0_5 : Nat) (o0_6 : Nat) (o0_8 : Nat) (o0_9 : Nat) (o0_10 : Nat) (o0_12 : Nat) (o0_13 : Nat) (o0_14 : Nat) (ra0 : Nat → Nat) (h1 : Nat) (ra1 : Nat → Nat) (h2 : Nat) (ra2 : Nat → Nat) (h3 : Nat) (ra3 : Nat → Nat) (h4 : Nat) (ra4 : Nat → Nat) (x0_15 : Int32) (y1_1 y1_2 : Nat → Int32) (x1_3 x1_4 x1_5 x1_6 x1_7 x1_8 : Int32) (y1_9 : Nat → Int32) (x1_10 x1_11 x1_12 x1_13 x1_14 : Int32) (y2_2 y2_3 y2_4 y2_5 y2_6 y2_7 y2_8 y2_9 y2_10 : Nat → Int32) (x2_11 : Int32) (y3_0 : Nat → Int32) (x3_1 x3_2 x3_3 x3_4 : Int32) (y4_0 y4_1 y4_2 : Nat → Int32) (x4_3 : Int32) (v1 : Int32) (u : Int32 × (Nat → Int32) × (Nat → Int32) × Int32 × Int32 × Int32 × Int32 × Int32 × Int32 × (Nat → Int32) × (Nat → Int32) × (Nat → Int32) × (Nat → Int32) × (Nat → Int32) × (Nat → Int32) × Int32 × Int32) (sz : Nat) (hf : f_X11_shortest v1 y1_1 y1_2 x1_3 x1_4 x1_5 x1_6 x1_7 x1_8 y2_2 y2_3 y2_4 y2_5 y2_6 y2_7 y2_8 y2_9 y2_10 x2_11 y3_0 x3_1 y4_0 y4_1 y4_2 x4_3 = some u) : Met l yX11_shortest (WS yX11_shortest cX11_shortest 3 (some .int)) rm_X11_shortest (va_Pc [.ref h0, .int v1] (PR D cs (wY11 cs h0 h3 h4 o0_2a o0_2b o0_2c o0_3 o0_4 o0_5 o0_6 h1 o0_8 o0_9 o0_10 h2 o0_12 o0_13 o0_14 ra0 x0_15 ++ (wX0 cs h1 h4 ra1 y1_1 y1_2 x1_3 x1_4 x1_5 x1_6 x1_7 x1_8 y1_9 x1_10 x1_11 x1_12 x1_13 x1_14 ++ (wX3 cs h2 h4 h1 ra2 y2_2 y2_3 y2_4 y2_5 y2_6 y2_7 y2_8 y2_9 y2_10 x2_11 ++ (wX9 cs h3 ra3 y3_0 x3_1 x3_2 x3_3 x3_4 ++ (wX10 cs h4 ra4 y4_0 y4_1 y4_2 x4_3))))) sz)) (QI D (wY11 cs h0 h3 h4 o0_2a o0_2b o0_2c o0_3 o0_4 o0_5 o0_6 h1 o0_8 o0_9 o0_10 h2 o0_12 o0_13 o0_14 ra0 x0_15 ++ (wX0 cs h1 h4 ra1 u.2.1 u.2.2.1 u.2.2.2.1 u.2.2.2.2.1 u.2.2.2.2.2.1 u.2.2.2.2.2.2.1 u.2.2.2.2.2.2.2.1 u.2.2.2.2.2.2.2.2.1 y1_9 x1_10 x1_11 x1_12 x1_13 x1_14 ++ (wX3 cs h2 h4 h1 ra2 u.2.2.2.2.2.2.2.2.2.1 u.2.2.2.2.2.2.2.2.2.2.1 u.2.2.2.2.2.2.2.2.2.2.2.1 u.2.2.2.2.2.2.2.2.2.2.2.2.1 y2_6 y2_7 y2_8 u.2.2.2.2.2.2.2.2.2.2.2.2.2.1 u.2.2.2.2.2.2.2.2.2.2.2.2.2.2.1 u.2.2.2.2.2.2.2.2.2.2.2.2.2.2.2.1 ++ (wX9 cs h3 ra3 y3_0 u.2.2.2.2.2.2.2.2.2.2.2.2.2.2.2.2 x3_2 x3_3 x3_4 ++ (wX10 cs h4 ra4 y4_0 y4_1 y4_2 x4_3))))) (va_A (wY11 cs h0 h3 h4 o0_2a o0_2b o0_2c o0_3 o0_4 o0_5 o0_6 h1 o0_8 o0_9 o0_10 h2 o0_12 o0_13 o0_14 ra0 x0_15 ++ (wX0 cs h1 h4 ra1 y1_1 y1_2 x1_3 x1_4 x1_5 x1_6 x1_7 x1_8 y1_9 x1_10 x1_11 x1_12 x1_13 x1_14 ++ (wX3 cs h2 h4 h1 ra2 y2_2 y2_3 y2_4 y2_5 y2_6 y2_7 y2_8 y2_9 y2_10 x2_11 ++ (wX9 cs h3 ra3 y3_0 x3_1 x3_2 x3_3 x3_4 ++ (wX10 cs h4 ra4 y4_0 y4_1 y4_2 x4_3))))) sz) u.1) 0 0 (va_A (wY11 cs h0 h3 h4 o0_2a o0_2b o0_2c o0_3 o0_4 o0_5 o0_6 h1 o0_8 o0_9 o0_10 h2 o0_12 o0_13 o0_14 ra0 x0_15 ++ (wX0 cs h1 h4 ra1 y1_1 y1_2 x1_3 x1_4 x1_5 x1_6 x1_7 x1_8 y1_9 x1_10 x1_11 x1_12 x1_13 x1_14 ++ (wX3 cs h2 h4 h1 ra2 y2_2 y2_3 y2_4 y2_5 y2_6 y2_7 y2_8 y2_9 y2_10 x2_11 ++ (wX9 cs h3 ra3 y3_0 x3_1 x3_2 x3_3 x3_4 ++ (wX10 cs h4 ra4 y4_0 y4_1 y4_2 x4_3))))) sz) := by
  refine met_of RX11 rfl (by decide) (Nat.le_of_ble_eq_true rfl) ?_
  intro p e s m args below meth c hC hr hlocks hK hsz hA hV ls hl
  exact b_X11_shortest_0 hC hr hlocks hK hA h0 o0_2a o0_2b o0_2c o0_3 o0_4 o0_5 o0_6 o0_8 o0_9 o0_10 o0_12 o0_13 o0_14 ra0 h1 ra1 h2 ra2 h3 ra3 h4 ra4 x0_15 y1_9 x1_10 x1_11 x1_12 x1_13 x1_14 x3_2 x3_3 x3_4 u v1 y1_1 y1_2 x1_3 x1_4 x1_5 x1_6 x1_7 x1_8 y2_2 y2_3 y2_4 y2_5 y2_6 y2_7 y2_8 y2_9 y2_10 x2_11 y3_0 x3_1 y4_0 y4_1 y4_2 x4_3 s.heap [] ls hf (lv_sub hl [0, 1] rfl) hV
def rm_X11_unfelt : Room := { frames := 4, cells := 0, slots := 0, locals := 113 }
set_option maxHeartbeats 4000000 in
set_option maxRecDepth 100000 in
theorem b_X11_unfelt_113 {p : Program} {l : Launch} {e : Env} {s : State} {m : MethodId} {args : Array Value} {below : List Frame} {meth : Method} {c : Code} {D : va_G} {cs : Nat → ClassId} {A : Nat → Prop} (hC : CallFix p m c cX11_unfelt 7 s args gtbl RX11) (hr : meth.sig.returnType = (some .int)) (hlocks : meth.locks = false) (hK : KN D cs s) (hA : ∀ q : Nat, s.heap.size ≤ q → A q) (h0 : Nat) (o0_0 : Nat) (o0_2a : Nat) (o0_2b : Nat) (o0_2c : Nat) (o0_3 : Nat) (o0_5 : Nat) (o0_6 : Nat) (o0_9 : Nat) (o0_10 : Nat) (o0_11 : Nat) (o0_12 : Nat) (o0_13 : Nat) (o0_14 : Nat) (ra0 : Nat → Nat) (h1 : Nat) (ra1 : Nat → Nat) (h2 : Nat) (ra2 : Nat → Nat) (h3 : Nat) (ra3 : Nat → Nat) (h4 : Nat) (ra4 : Nat → Nat) (h5 : Nat) (ra5 : Nat → Nat) (x0_15 x1_6 : Int32) (y2_9 : Nat → Int32) (x2_10 x2_11 x2_12 x2_13 x2_14 : Int32) (u : Int32 × (Nat → Int32) × (Nat → Int32) × Int32 × Int32 × Int32 × Int32 × Int32 × Int32 × (Nat → Int32) × (Nat → Int32) × Int32 × Int32 × Int32 × Int32 × Int32 × Int32 × (Nat → Int32) × Int32 × Int32 × Int32 × Int32 × Int32 × (Nat → Int32) × Int32 × Int32 × Int32) (k21 : Int32 → Int32 → Int32 → Int32 → Int32 → (Nat → Int32) → (Nat → Int32) → (Nat → Int32) → (Nat → Int32) → (Nat → Int32) → Int32 → (Nat → Int32) → (Nat → Int32) → Int32 → Int32 → Int32 → Int32 → Int32 → Int32 → (Nat → Int32) → (Nat → Int32) → Int32 → Int32 → Int32 → Int32 → Int32 → Int32 → (Nat → Int32) → Int32 → Int32 → Int32 → Int32 → Int32 → (Nat → Int32) → (Nat → Int32) → Int32 → (Nat → Int32) → Int32 → Int32 → Int32 → (Nat → Int32) → (Nat → Int32) → (Nat → Int32) → Int32 → Option (Int32 × (Nat → Int32) × (Nat → Int32) × Int32 × Int32 × Int32 × Int32 × Int32 × Int32 × (Nat → Int32) × (Nat → Int32) × Int32 × Int32 × Int32 × Int32 × Int32 × Int32 × (Nat → Int32) × Int32 × Int32 × Int32 × Int32 × Int32 × (Nat → Int32) × Int32 × Int32 × Int32)) (hk21 : ∀ (v2 v3 v4 v5 v6 : Int32) (y1_0 y1_1 y1_2 y1_3 y1_4 : Nat → Int32) (x1_5 : Int32) (y2_1 y2_2 : Nat → Int32) (x2_3 x2_4 x2_5 x2_6 x2_7 x2_8 : Int32) (y3_1 y3_2 : Nat → Int32) (x3_3 x3_4 x3_5 x3_6 x3_7 x3_8 : Int32) (y3_9 : Nat → Int32) (x3_10 x3_11 x3_12 x3_13 x3_14 : Int32) (y4_0 y4_1 : Nat → Int32) (x4_2 : Int32) (y4_3 : Nat → Int32) (x4_4 x4_5 x4_6 : Int32) (y5_0 y5_1 y5_2 : Nat → Int32) (x5_3 : Int32) (H : Heap) (locs : List Loc) (ls : Array Slot), k21 v2 v3 v4 v5 v6 y1_0 y1_1 y1_2 y1_3 y1_4 x1_5 y2_1 y2_2 x2_3 x2_4 x2_5 x2_6 x2_7 x2_8 y3_1 y3_2 x3_3 x3_4 x3_5 x3_6 x3_7 x3_8 y3_9 x3_10 x3_11 x3_12 x3_13 x3_14 y4_0 y4_1 x4_2 y4_3 x4_4 x4_5 x4_6 y5_0 y5_1 y5_2 x5_3 = some u → lv_has ls 7 [(0, .ref h0), (1, .ref h1), (2, .int v2), (3, .int v3), (4, .int v4), (5, .int v5), (6, .int v6)] → VW D A s.heap (wY11 cs h0 o0_0 h5 o0_2a o0_2b o0_2c o0_3 h4 o0_5 o0_6 h2 h3 o0_9 o0_10 o0_11 o0_12 o0_13 o0_14 ra0 x0_15 ++ (wX4 cs h1 ra1 y1_0 y1_1 y1_2 y1_3 y1_4 x1_5 x1_6 ++ (wX0 cs h2 h5 ra2 y2_1 y2_2 x2_3 x2_4 x2_5 x2_6 x2_7 x2_8 y2_9 x2_10 x2_11 x2_12 x2_13 x2_14 ++ (wX0 cs h3 h5 ra3 y3_1 y3_2 x3_3 x3_4 x3_5 x3_6 x3_7 x3_8 y3_9 x3_10 x3_11 x3_12 x3_13 x3_14 ++ (wX6 cs h4 ra4 y4_0 y4_1 x4_2 y4_3 x4_4 x4_5 x4_6 ++ (wX10 cs h5 ra5 y5_0 y5_1 y5_2 x5_3)))))) H locs → W p l e rm_X11_unfelt s m args below meth c H locs 0 0 (MQ below (QI D (wY11 cs h0 o0_0 h5 o0_2a o0_2b o0_2c o0_3 h4 o0_5 o0_6 h2 h3 o0_9 o0_10 o0_11 o0_12 o0_13 o0_14 ra0 x0_15 ++ (wX4 cs h1 ra1 y1_0 y1_1 y1_2 y1_3 y1_4 x1_5 x1_6 ++ (wX0 cs h2 h5 ra2 u.2.1 u.2.2.1 u.2.2.2.1 u.2.2.2.2.1 u.2.2.2.2.2.1 u.2.2.2.2.2.2.1 u.2.2.2.2.2.2.2.1 u.2.2.2.2.2.2.2.2.1 y2_9 x2_10 x2_11 x2_12 x2_13 x2_14 ++ (wX0 cs h3 h5 ra3 u.2.2.2.2.2.2.2.2.2.1 u.2.2.2.2.2.2.2.2.2.2.1 u.2.2.2.2.2.2.2.2.2.2.2.1 u.2.2.2.2.2.2.2.2.2.2.2.2.1 u.2.2.2.2.2.2.2.2.2.2.2.2.2.1 u.2.2.2.2.2.2.2.2.2.2.2.2.2.2.1 u.2.2.2.2.2.2.2.2.2.2.2.2.2.2.2.1 u.2.2.2.2.2.2.2.2.2.2.2.2.2.2.2.2.1 u.2.2.2.2.2.2.2.2.2.2.2.2.2.2.2.2.2.1 u.2.2.2.2.2.2.2.2.2.2.2.2.2.2.2.2.2.2.1 u.2.2.2.2.2.2.2.2.2.2.2.2.2.2.2.2.2.2.2.1 u.2.2.2.2.2.2.2.2.2.2.2.2.2.2.2.2.2.2.2.2.1 u.2.2.2.2.2.2.2.2.2.2.2.2.2.2.2.2.2.2.2.2.2.1 u.2.2.2.2.2.2.2.2.2.2.2.2.2.2.2.2.2.2.2.2.2.2.1 ++ (wX6 cs h4 ra4 y4_0 y4_1 x4_2 u.2.2.2.2.2.2.2.2.2.2.2.2.2.2.2.2.2.2.2.2.2.2.2.1 u.2.2.2.2.2.2.2.2.2.2.2.2.2.2.2.2.2.2.2.2.2.2.2.2.1 u.2.2.2.2.2.2.2.2.2.2.2.2.2.2.2.2.2.2.2.2.2.2.2.2.2.1 u.2.2.2.2.2.2.2.2.2.2.2.2.2.2.2.2.2.2.2.2.2.2.2.2.2.2 ++ (wX10 cs h5 ra5 y5_0 y5_1 y5_2 x5_3)))))) A u.1) args s 0 0 A) (F0 m 21 ls [])) : ∀ (v2 v3 v4 v5 v6 : Int32) (y1_0 y1_1 y1_2 y1_3 y1_4 : Nat → Int32) (x1_5 : Int32) (y2_1 y2_2 : Nat → Int32) (x2_3 x2_4 x2_5 x2_6 x2_7 x2_8 : Int32) (y3_1 y3_2 : Nat → Int32) (x3_3 x3_4 x3_5 x3_6 x3_7 x3_8 : Int32) (y3_9 : Nat → Int32) (x3_10 x3_11 x3_12 x3_13 x3_14 : Int32) (y4_0 y4_1 : Nat → Int32) (x4_2 : Int32) (y4_3 : Nat → Int32) (x4_4 x4_5 x4_6 : Int32) (y5_0 y5_1 y5_2 : Nat → Int32) (x5_3 : Int32) (H : Heap) (locs : List Loc) (ls : Array Slot), g_X11_unfelt_113 k21 v2 v3 v4 v5 v6 y1_0 y1_1 y1_2 y1_3 y1_4 x1_5 y2_1 y2_2 x2_3 x2_4 x2_5 x2_6 x2_7 x2_8 y3_1 y3_2 x3_3 x3_4 x3_5 x3_6 x3_7 x3_8 y3_9 x3_10 x3_11 x3_12 x3_13 x3_14 y4_0 y4_1 x4_2 y4_3 x4_4 x4_5 x4_6 y5_0 y5_1 y5_2 x5_3 = some u → lv_has ls 7 [(0, .ref h0), (1, .ref h1), (2, .int v2), (3, .int v3), (4, .int v4), (5, .int v5), (6, .int v6)] → VW D A s.heap (wY11 cs h0 o0_0 h5 o0_2a o0_2b o0_2c o0_3 h4 o0_5 o0_6 h2 h3 o0_9 o0_10 o0_11 o0_12 o0_13 o0_14 ra0 x0_15 ++ (wX4 cs h1 ra1 y1_0 y1_1 y1_2 y1_3 y1_4 x1_5 x1_6 ++ (wX0 cs h2 h5 ra2 y2_1 y2_2 x2_3 x2_4 x2_5 x2_6 x2_7 x2_8 y2_9 x2_10 x2_11 x2_12 x2_13 x2_14 ++ (wX0 cs h3 h5 ra3 y3_1 y3_2 x3_3 x3_4 x3_5 x3_6 x3_7 x3_8 y3_9 x3_10 x3_11 x3_12 x3_13 x3_14 ++ (wX6 cs h4 ra4 y4_0 y4_1 x4_2 y4_3 x4_4 x4_5 x4_6 ++ (wX10 cs h5 ra5 y5_0 y5_1 y5_2 x5_3)))))) H locs → W p l e rm_X11_unfelt s m args below meth c H locs 0 0 (MQ below (QI D (wY11 cs h0 o0_0 h5 o0_2a o0_2b o0_2c o0_3 h4 o0_5 o0_6 h2 h3 o0_9 o0_10 o0_11 o0_12 o0_13 o0_14 ra0 x0_15 ++ (wX4 cs h1 ra1 y1_0 y1_1 y1_2 y1_3 y1_4 x1_5 x1_6 ++ (wX0 cs h2 h5 ra2 u.2.1 u.2.2.1 u.2.2.2.1 u.2.2.2.2.1 u.2.2.2.2.2.1 u.2.2.2.2.2.2.1 u.2.2.2.2.2.2.2.1 u.2.2.2.2.2.2.2.2.1 y2_9 x2_10 x2_11 x2_12 x2_13 x2_14 ++ (wX0 cs h3 h5 ra3 u.2.2.2.2.2.2.2.2.2.1 u.2.2.2.2.2.2.2.2.2.2.1 u.2.2.2.2.2.2.2.2.2.2.2.1 u.2.2.2.2.2.2.2.2.2.2.2.2.1 u.2.2.2.2.2.2.2.2.2.2.2.2.2.1 u.2.2.2.2.2.2.2.2.2.2.2.2.2.2.1 u.2.2.2.2.2.2.2.2.2.2.2.2.2.2.2.1 u.2.2.2.2.2.2.2.2.2.2.2.2.2.2.2.2.1 u.2.2.2.2.2.2.2.2.2.2.2.2.2.2.2.2.2.1 u.2.2.2.2.2.2.2.2.2.2.2.2.2.2.2.2.2.2.1 u.2.2.2.2.2.2.2.2.2.2.2.2.2.2.2.2.2.2.2.1 u.2.2.2.2.2.2.2.2.2.2.2.2.2.2.2.2.2.2.2.2.1 u.2.2.2.2.2.2.2.2.2.2.2.2.2.2.2.2.2.2.2.2.2.1 u.2.2.2.2.2.2.2.2.2.2.2.2.2.2.2.2.2.2.2.2.2.2.1 ++ (wX6 cs h4 ra4 y4_0 y4_1 x4_2 u.2.2.2.2.2.2.2.2.2.2.2.2.2.2.2.2.2.2.2.2.2.2.2.1 u.2.2.2.2.2.2.2.2.2.2.2.2.2.2.2.2.2.2.2.2.2.2.2.2.1 u.2.2.2.2.2.2.2.2.2.2.2.2.2.2.2.2.2.2.2.2.2.2.2.2.2.1 u.2.2.2.2.2.2.2.2.2.2.2.2.2.2.2.2.2.2.2.2.2.2.2.2.2.2 ++ (wX10 cs h5 ra5 y5_0 y5_1 y5_2 x5_3)))))) A u.1) args s 0 0 A) (F0 m 113 ls []) := by
  have hx := hC.1
  have hb := hC.2.1
  have hown := hC.2.2.2.1
  have hts := hC.2.2.2.2
  intro v2 v3 v4 v5 v6 y1_0 y1_1 y1_2 y1_3 y1_4 x1_5 y2_1 y2_2 x2_3 x2_4 x2_5 x2_6 x2_7 x2_8 y3_1 y3_2 x3_3 x3_4 x3_5 x3_6 x3_7 x3_8 y3_9 x3_10 x3_11 x3_12 x3_13 x3_14 y4_0 y4_1 x4_2 y4_3 x4_4 x4_5 x4_6 y5_0 y5_1 y5_2 x5_3 H locs ls hf hl hV
  refine lv_aload_n hx hb dX11_unfelt_113 rfl (lv_at hl 0 rfl) ?_
  refine q_get (v := .ref h2) hC hK hV fl_X11_58 0 rfl rfl dX11_unfelt_114 ?_
  refine lv_aload_n hx hb dX11_unfelt_117 rfl (lv_at hl 1 rfl) ?_
  refine lv_iconst (v := 1) hx hb dX11_unfelt_118 (by decide) ?_
  obtain ⟨u1, hc1, hf⟩ := hf_b hf
  refine aft_v (run_v hC (k_X0_step l D cs h2 ra2 h1 ra1 h5 ra5 y2_1 y2_2 x2_3 x2_4 x2_5 x2_6 x2_7 x2_8 y2_9 x2_10 x2_11 x2_12 x2_13 x2_14 y1_0 y1_1 y1_2 y1_3 y1_4 x1_5 x1_6 y5_0 y5_1 y5_2 x5_3 1 u1 H.size hc1) cd_X0_step cv_X0_step ml_X11_332 rfl rfl ⟨by decide, by decide⟩ hK hV (fr_pre hK hV [8, 9, 10, 11, 2, 3, 4, 5, 6, 7, 20, 21, 22, 23] rfl (by decide)) (ci := 0) (q0 := 8) rfl rfl rfl rfl hl.1 rfl (Nat.le_of_ble_eq_true rfl) dX11_unfelt_119) hV (va_free hV.2.1 hV.2.2 hA [8, 9, 10, 11, 2, 3, 4, 5, 6, 7, 20, 21, 22, 23] rfl) (fr_jn (s := s) (wn := wY11 cs h0 o0_0 h5 o0_2a o0_2b o0_2c o0_3 h4 o0_5 o0_6 h2 h3 o0_9 o0_10 o0_11 o0_12 o0_13 o0_14 ra0 x0_15 ++ (wX4 cs h1 ra1 y1_0 y1_1 y1_2 y1_3 y1_4 x1_5 x1_6 ++ (wX0 cs h2 h5 ra2 y2_1 u1.1 u1.2.1 u1.2.2.1 u1.2.2.2.1 u1.2.2.2.2.1 u1.2.2.2.2.2.1 u1.2.2.2.2.2.2 y2_9 x2_10 x2_11 x2_12 x2_13 x2_14 ++ (wX0 cs h3 h5 ra3 y3_1 y3_2 x3_3 x3_4 x3_5 x3_6 x3_7 x3_8 y3_9 x3_10 x3_11 x3_12 x3_13 x3_14 ++ (wX6 cs h4 ra4 y4_0 y4_1 x4_2 y4_3 x4_4 x4_5 x4_6 ++ (wX10 cs h5 ra5 y5_0 y5_1 y5_2 x5_3)))))) hV hA [8, 9, 10, 11, 2, 3, 4, 5, 6, 7, 20, 21, 22, 23] [0, 1, 12, 13, 14, 15, 16, 17, 18, 19] [0, 1, 14, 15, 16, 17, 18, 19, 10, 11, 12, 13, 2, 3, 4, 5, 6, 7, 8, 9, 20, 21, 22, 23] rfl rfl (by decide) (by decide) rfl (by decide)) (fun H locs hV => ?_)
  refine lv_iinc (v := (v6 + 1)) (lv' := [(6, .int (v6 + 1)), (0, .ref h0), (1, .ref h1), (2, .int v2), (3, .int v3), (4, .int v4), (5, .int v5)]) hx hb dX11_unfelt_122 hl (k := 6) rfl (by rfl) (by decide) rfl (fun ls hl => ?_)
  refine lv_goto (tgt := 21) hx hb dX11_unfelt_125 (by decide) ?_
  exact hk21 v2 v3 v4 v5 (v6 + 1) y1_0 y1_1 y1_2 y1_3 y1_4 x1_5 y2_1 u1.1 u1.2.1 u1.2.2.1 u1.2.2.2.1 u1.2.2.2.2.1 u1.2.2.2.2.2.1 u1.2.2.2.2.2.2 y3_1 y3_2 x3_3 x3_4 x3_5 x3_6 x3_7 x3_8 y3_9 x3_10 x3_11 x3_12 x3_13 x3_14 y4_0 y4_1 x4_2 y4_3 x4_4 x4_5 x4_6 y5_0 y5_1 y5_2 x5_3 H locs ls hf (lv_sub hl [1, 2, 3, 4, 5, 6, 0] rfl) hV
set_option maxHeartbeats 4000000 in
set_option maxRecDepth 100000 in
theorem b_X11_unfelt_128 {p : Program} {l : Launch} {e : Env} {s : State} {m : MethodId} {args : Array Value} {below : List Frame} {meth : Method} {c : Code} {D : va_G} {cs : Nat → ClassId} {A : Nat → Prop} (hC : CallFix p m c cX11_unfelt 7 s args gtbl RX11) (hr : meth.sig.returnType = (some .int)) (hlocks : meth.locks = false) (hK : KN D cs s) (hA : ∀ q : Nat, s.heap.size ≤ q → A q) (h0 : Nat) (o0_0 : Nat) (o0_2a : Nat) (o0_2b : Nat) (o0_2c : Nat) (o0_3 : Nat) (o0_5 : Nat) (o0_6 : Nat) (o0_9 : Nat) (o0_10 : Nat) (o0_11 : Nat) (o0_12 : Nat) (o0_13 : Nat) (o0_14 : Nat) (ra0 : Nat → Nat) (h1 : Nat) (ra1 : Nat → Nat) (h2 : Nat) (ra2 : Nat → Nat) (h3 : Nat) (ra3 : Nat → Nat) (h4 : Nat) (ra4 : Nat → Nat) (h5 : Nat) (ra5 : Nat → Nat) (x0_15 x1_6 : Int32) (y2_9 : Nat → Int32) (x2_10 x2_11 x2_12 x2_13 x2_14 : Int32) (u : Int32 × (Nat → Int32) × (Nat → Int32) × Int32 × Int32 × Int32 × Int32 × Int32 × Int32 × (Nat → Int32) × (Nat → Int32) × Int32 × Int32 × Int32 × Int32 × Int32 × Int32 × (Nat → Int32) × Int32 × Int32 × Int32 × Int32 × Int32 × (Nat → Int32) × Int32 × Int32 × Int32) : ∀ (v4 v5 : Int32) (y1_0 y1_1 y1_2 y1_3 y1_4 : Nat → Int32) (x1_5 : Int32) (y2_1 y2_2 : Nat → Int32) (x2_3 x2_4 x2_5 x2_6 x2_7 x2_8 : Int32) (y3_1 y3_2 : Nat → Int32) (x3_3 x3_4 x3_5 x3_6 x3_7 x3_8 : Int32) (y3_9 : Nat → Int32) (x3_10 x3_11 x3_12 x3_13 x3_14 : Int32) (y4_0 y4_1 : Nat → Int32) (x4_2 : Int32) (y4_3 : Nat → Int32) (x4_4 x4_5 x4_6 : Int32) (y5_0 y5_1 y5_2 : Nat → Int32) (x5_3 : Int32) (H : Heap) (locs : List Loc) (ls : Array Slot), g_X11_unfelt_128 v4 v5 y1_0 y1_1 y1_2 y1_3 y1_4 x1_5 y2_1 y2_2 x2_3 x2_4 x2_5 x2_6 x2_7 x2_8 y3_1 y3_2 x3_3 x3_4 x3_5 x3_6 x3_7 x3_8 y3_9 x3_10 x3_11 x3_12 x3_13 x3_14 y4_0 y4_1 x4_2 y4_3 x4_4 x4_5 x4_6 y5_0 y5_1 y5_2 x5_3 = some u → lv_has ls 7 [(4, .int v4), (5, .int v5)] → VW D A s.heap (wY11 cs h0 o0_0 h5 o0_2a o0_2b o0_2c o0_3 h4 o0_5 o0_6 h2 h3 o0_9 o0_10 o0_11 o0_12 o0_13 o0_14 ra0 x0_15 ++ (wX4 cs h1 ra1 y1_0 y1_1 y1_2 y1_3 y1_4 x1_5 x1_6 ++ (wX0 cs h2 h5 ra2 y2_1 y2_2 x2_3 x2_4 x2_5 x2_6 x2_7 x2_8 y2_9 x2_10 x2_11 x2_12 x2_13 x2_14 ++ (wX0 cs h3 h5 ra3 y3_1 y3_2 x3_3 x3_4 x3_5 x3_6 x3_7 x3_8 y3_9 x3_10 x3_11 x3_12 x3_13 x3_14 ++ (wX6 cs h4 ra4 y4_0 y4_1 x4_2 y4_3 x4_4 x4_5 x4_6 ++ (wX10 cs h5 ra5 y5_0 y5_1 y5_2 x5_3)))))) H locs → W p l e rm_X11_unfelt s m args below meth c H locs 0 0 (MQ below (QI D (wY11 cs h0 o0_0 h5 o0_2a o0_2b o0_2c o0_3 h4 o0_5 o0_6 h2 h3 o0_9 o0_10 o0_11 o0_12 o0_13 o0_14 ra0 x0_15 ++ (wX4 cs h1 ra1 y1_0 y1_1 y1_2 y1_3 y1_4 x1_5 x1_6 ++ (wX0 cs h2 h5 ra2 u.2.1 u.2.2.1 u.2.2.2.1 u.2.2.2.2.1 u.2.2.2.2.2.1 u.2.2.2.2.2.2.1 u.2.2.2.2.2.2.2.1 u.2.2.2.2.2.2.2.2.1 y2_9 x2_10 x2_11 x2_12 x2_13 x2_14 ++ (wX0 cs h3 h5 ra3 u.2.2.2.2.2.2.2.2.2.1 u.2.2.2.2.2.2.2.2.2.2.1 u.2.2.2.2.2.2.2.2.2.2.2.1 u.2.2.2.2.2.2.2.2.2.2.2.2.1 u.2.2.2.2.2.2.2.2.2.2.2.2.2.1 u.2.2.2.2.2.2.2.2.2.2.2.2.2.2.1 u.2.2.2.2.2.2.2.2.2.2.2.2.2.2.2.1 u.2.2.2.2.2.2.2.2.2.2.2.2.2.2.2.2.1 u.2.2.2.2.2.2.2.2.2.2.2.2.2.2.2.2.2.1 u.2.2.2.2.2.2.2.2.2.2.2.2.2.2.2.2.2.2.1 u.2.2.2.2.2.2.2.2.2.2.2.2.2.2.2.2.2.2.2.1 u.2.2.2.2.2.2.2.2.2.2.2.2.2.2.2.2.2.2.2.2.1 u.2.2.2.2.2.2.2.2.2.2.2.2.2.2.2.2.2.2.2.2.2.1 u.2.2.2.2.2.2.2.2.2.2.2.2.2.2.2.2.2.2.2.2.2.2.1 ++ (wX6 cs h4 ra4 y4_0 y4_1 x4_2 u.2.2.2.2.2.2.2.2.2.2.2.2.2.2.2.2.2.2.2.2.2.2.2.1 u.2.2.2.2.2.2.2.2.2.2.2.2.2.2.2.2.2.2.2.2.2.2.2.2.1 u.2.2.2.2.2.2.2.2.2.2.2.2.2.2.2.2.2.2.2.2.2.2.2.2.2.1 u.2.2.2.2.2.2.2.2.2.2.2.2.2.2.2.2.2.2.2.2.2.2.2.2.2.2 ++ (wX10 cs h5 ra5 y5_0 y5_1 y5_2 x5_3)))))) A u.1) args s 0 0 A) (F0 m 128 ls []) := by
  have hx := hC.1
  have hb := hC.2.1
  have hown := hC.2.2.2.1
  have hts := hC.2.2.2.2
  intro v4 v5 y1_0 y1_1 y1_2 y1_3 y1_4 x1_5 y2_1 y2_2 x2_3 x2_4 x2_5 x2_6 x2_7 x2_8 y3_1 y3_2 x3_3 x3_4 x3_5 x3_6 x3_7 x3_8 y3_9 x3_10 x3_11 x3_12 x3_13 x3_14 y4_0 y4_1 x4_2 y4_3 x4_4 x4_5 x4_6 y5_0 y5_1 y5_2 x5_3 H locs ls hf hl hV
  refine lv_iload hx hb dX11_unfelt_128 (lv_at hl 0 rfl) ?_
  refine lv_if_eq (tgt := 138) hx hb dX11_unfelt_130 (by decide) (fun hc => ?_) (fun hc => ?_)
  · have hf := hf_t hf hc
    refine lv_iload hx hb dX11_unfelt_138 (lv_at hl 1 rfl) ?_
    obtain rfl := Option.some.inj hf
    exact q_ret hC hr hlocks hV dX11_unfelt_140
  · have hf := hf_f hf hc
    refine lv_bipush (v := (-2)) hx hb dX11_unfelt_133 (by decide) ?_
    refine lv_goto (tgt := 140) hx hb dX11_unfelt_135 (by decide) ?_
    obtain rfl := Option.some.inj hf
    exact q_ret hC hr hlocks hV dX11_unfelt_140
set_option maxHeartbeats 4000000 in
set_option maxRecDepth 100000 in
theorem b_X11_unfelt_21 {p : Program} {l : Launch} {e : Env} {s : State} {m : MethodId} {args : Array Value} {below : List Frame} {meth : Method} {c : Code} {D : va_G} {cs : Nat → ClassId} {A : Nat → Prop} (hC : CallFix p m c cX11_unfelt 7 s args gtbl RX11) (hr : meth.sig.returnType = (some .int)) (hlocks : meth.locks = false) (hK : KN D cs s) (hA : ∀ q : Nat, s.heap.size ≤ q → A q) (h0 : Nat) (o0_0 : Nat) (o0_2a : Nat) (o0_2b : Nat) (o0_2c : Nat) (o0_3 : Nat) (o0_5 : Nat) (o0_6 : Nat) (o0_9 : Nat) (o0_10 : Nat) (o0_11 : Nat) (o0_12 : Nat) (o0_13 : Nat) (o0_14 : Nat) (ra0 : Nat → Nat) (h1 : Nat) (ra1 : Nat → Nat) (h2 : Nat) (ra2 : Nat → Nat) (h3 : Nat) (ra3 : Nat → Nat) (h4 : Nat) (ra4 : Nat → Nat) (h5 : Nat) (ra5 : Nat → Nat) (x0_15 x1_6 : Int32) (y2_9 : Nat → Int32) (x2_10 x2_11 x2_12 x2_13 x2_14 : Int32) (u : Int32 × (Nat → Int32) × (Nat → Int32) × Int32 × Int32 × Int32 × Int32 × Int32 × Int32 × (Nat → Int32) × (Nat → Int32) × Int32 × Int32 × Int32 × Int32 × Int32 × Int32 × (Nat → Int32) × Int32 × Int32 × Int32 × Int32 × Int32 × (Nat → Int32) × Int32 × Int32 × Int32) : ∀ (n : Nat), ∀ (v2 v3 v4 v5 v6 : Int32) (y1_0 y1_1 y1_2 y1_3 y1_4 : Nat → Int32) (x1_5 : Int32) (y2_1 y2_2 : Nat → Int32) (x2_3 x2_4 x2_5 x2_6 x2_7 x2_8 : Int32) (y3_1 y3_2 : Nat → Int32) (x3_3 x3_4 x3_5 x3_6 x3_7 x3_8 : Int32) (y3_9 : Nat → Int32) (x3_10 x3_11 x3_12 x3_13 x3_14 : Int32) (y4_0 y4_1 : Nat → Int32) (x4_2 : Int32) (y4_3 : Nat → Int32) (x4_4 x4_5 x4_6 : Int32) (y5_0 y5_1 y5_2 : Nat → Int32) (x5_3 : Int32) (H : Heap) (locs : List Loc) (ls : Array Slot), g_X11_unfelt_21 n v2 v3 v4 v5 v6 y1_0 y1_1 y1_2 y1_3 y1_4 x1_5 y2_1 y2_2 x2_3 x2_4 x2_5 x2_6 x2_7 x2_8 y3_1 y3_2 x3_3 x3_4 x3_5 x3_6 x3_7 x3_8 y3_9 x3_10 x3_11 x3_12 x3_13 x3_14 y4_0 y4_1 x4_2 y4_3 x4_4 x4_5 x4_6 y5_0 y5_1 y5_2 x5_3 = some u → lv_has ls 7 [(0, .ref h0), (1, .ref h1), (2, .int v2), (3, .int v3), (4, .int v4), (5, .int v5), (6, .int v6)] → VW D A s.heap (wY11 cs h0 o0_0 h5 o0_2a o0_2b o0_2c o0_3 h4 o0_5 o0_6 h2 h3 o0_9 o0_10 o0_11 o0_12 o0_13 o0_14 ra0 x0_15 ++ (wX4 cs h1 ra1 y1_0 y1_1 y1_2 y1_3 y1_4 x1_5 x1_6 ++ (wX0 cs h2 h5 ra2 y2_1 y2_2 x2_3 x2_4 x2_5 x2_6 x2_7 x2_8 y2_9 x2_10 x2_11 x2_12 x2_13 x2_14 ++ (wX0 cs h3 h5 ra3 y3_1 y3_2 x3_3 x3_4 x3_5 x3_6 x3_7 x3_8 y3_9 x3_10 x3_11 x3_12 x3_13 x3_14 ++ (wX6 cs h4 ra4 y4_0 y4_1 x4_2 y4_3 x4_4 x4_5 x4_6 ++ (wX10 cs h5 ra5 y5_0 y5_1 y5_2 x5_3)))))) H locs → W p l e rm_X11_unfelt s m args below meth c H locs 0 0 (MQ below (QI D (wY11 cs h0 o0_0 h5 o0_2a o0_2b o0_2c o0_3 h4 o0_5 o0_6 h2 h3 o0_9 o0_10 o0_11 o0_12 o0_13 o0_14 ra0 x0_15 ++ (wX4 cs h1 ra1 y1_0 y1_1 y1_2 y1_3 y1_4 x1_5 x1_6 ++ (wX0 cs h2 h5 ra2 u.2.1 u.2.2.1 u.2.2.2.1 u.2.2.2.2.1 u.2.2.2.2.2.1 u.2.2.2.2.2.2.1 u.2.2.2.2.2.2.2.1 u.2.2.2.2.2.2.2.2.1 y2_9 x2_10 x2_11 x2_12 x2_13 x2_14 ++ (wX0 cs h3 h5 ra3 u.2.2.2.2.2.2.2.2.2.1 u.2.2.2.2.2.2.2.2.2.2.1 u.2.2.2.2.2.2.2.2.2.2.2.1 u.2.2.2.2.2.2.2.2.2.2.2.2.1 u.2.2.2.2.2.2.2.2.2.2.2.2.2.1 u.2.2.2.2.2.2.2.2.2.2.2.2.2.2.1 u.2.2.2.2.2.2.2.2.2.2.2.2.2.2.2.1 u.2.2.2.2.2.2.2.2.2.2.2.2.2.2.2.2.1 u.2.2.2.2.2.2.2.2.2.2.2.2.2.2.2.2.2.1 u.2.2.2.2.2.2.2.2.2.2.2.2.2.2.2.2.2.2.1 u.2.2.2.2.2.2.2.2.2.2.2.2.2.2.2.2.2.2.2.1 u.2.2.2.2.2.2.2.2.2.2.2.2.2.2.2.2.2.2.2.2.1 u.2.2.2.2.2.2.2.2.2.2.2.2.2.2.2.2.2.2.2.2.2.1 u.2.2.2.2.2.2.2.2.2.2.2.2.2.2.2.2.2.2.2.2.2.2.1 ++ (wX6 cs h4 ra4 y4_0 y4_1 x4_2 u.2.2.2.2.2.2.2.2.2.2.2.2.2.2.2.2.2.2.2.2.2.2.2.1 u.2.2.2.2.2.2.2.2.2.2.2.2.2.2.2.2.2.2.2.2.2.2.2.2.1 u.2.2.2.2.2.2.2.2.2.2.2.2.2.2.2.2.2.2.2.2.2.2.2.2.2.1 u.2.2.2.2.2.2.2.2.2.2.2.2.2.2.2.2.2.2.2.2.2.2.2.2.2.2 ++ (wX10 cs h5 ra5 y5_0 y5_1 y5_2 x5_3)))))) A u.1) args s 0 0 A) (F0 m 21 ls []) := by
  have hx := hC.1
  have hb := hC.2.1
  have hown := hC.2.2.2.1
  have hts := hC.2.2.2.2
  intro n
  induction n with
  | zero =>
    intro v2 v3 v4 v5 v6 y1_0 y1_1 y1_2 y1_3 y1_4 x1_5 y2_1 y2_2 x2_3 x2_4 x2_5 x2_6 x2_7 x2_8 y3_1 y3_2 x3_3 x3_4 x3_5 x3_6 x3_7 x3_8 y3_9 x3_10 x3_11 x3_12 x3_13 x3_14 y4_0 y4_1 x4_2 y4_3 x4_4 x4_5 x4_6 y5_0 y5_1 y5_2 x5_3 H locs ls hf hl hV
    exact hf_no (show (none : Option (Int32 × (Nat → Int32) × (Nat → Int32) × Int32 × Int32 × Int32 × Int32 × Int32 × Int32 × (Nat → Int32) × (Nat → Int32) × Int32 × Int32 × Int32 × Int32 × Int32 × Int32 × (Nat → Int32) × Int32 × Int32 × Int32 × Int32 × Int32 × (Nat → Int32) × Int32 × Int32 × Int32)) = some u from hf)
  | succ n ih =>
    intro v2 v3 v4 v5 v6 y1_0 y1_1 y1_2 y1_3 y1_4 x1_5 y2_1 y2_2 x2_3 x2_4 x2_5 x2_6 x2_7 x2_8 y3_1 y3_2 x3_3 x3_4 x3_5 x3_6 x3_7 x3_8 y3_9 x3_10 x3_11 x3_12 x3_13 x3_14 y4_0 y4_1 x4_2 y4_3 x4_4 x4_5 x4_6 y5_0 y5_1 y5_2 x5_3 H locs ls hf hl hV
    refine lv_iload hx hb dX11_unfelt_21 (lv_at hl 6 rfl) ?_
    refine lv_iload_n hx hb dX11_unfelt_23 rfl (lv_at hl 2 rfl) ?_
    refine lv_icmp_ge (tgt := 128) hx hb dX11_unfelt_24 (by decide) (fun hc => ?_) (fun hc => ?_)
    · have hf := hf_t hf hc
      exact b_X11_unfelt_128 hC hr hlocks hK hA h0 o0_0 o0_2a o0_2b o0_2c o0_3 o0_5 o0_6 o0_9 o0_10 o0_11 o0_12 o0_13 o0_14 ra0 h1 ra1 h2 ra2 h3 ra3 h4 ra4 h5 ra5 x0_15 x1_6 y2_9 x2_10 x2_11 x2_12 x2_13 x2_14 u v4 v5 y1_0 y1_1 y1_2 y1_3 y1_4 x1_5 y2_1 y2_2 x2_3 x2_4 x2_5 x2_6 x2_7 x2_8 y3_1 y3_2 x3_3 x3_4 x3_5 x3_6 x3_7 x3_8 y3_9 x3_10 x3_11 x3_12 x3_13 x3_14 y4_0 y4_1 x4_2 y4_3 x4_4 x4_5 x4_6 y5_0 y5_1 y5_2 x5_3 H locs ls hf (lv_sub hl [4, 5] rfl) hV
    · have hf := hf_f hf hc
      refine lv_aload_n hx hb dX11_unfelt_27 rfl (lv_at hl 0 rfl) ?_
      refine q_get (v := .ref h2) hC hK hV fl_X11_58 0 rfl rfl dX11_unfelt_28 ?_
      refine lv_aload_n hx hb dX11_unfelt_31 rfl (lv_at hl 1 rfl) ?_
      obtain ⟨u1, hc1, hf⟩ := hf_b hf
      refine aft_i (run_v hC (k_X0_isOver l D cs h2 h5 ra2 h1 ra1 y2_1 y2_2 x2_3 x2_4 x2_5 x2_6 x2_7 x2_8 y2_9 x2_10 x2_11 x2_12 x2_13 x2_14 y1_0 y1_1 y1_2 y1_3 y1_4 x1_5 x1_6 u1 H.size hc1) cd_X0_isOver cv_X0_isOver ml_X11_319 rfl rfl ⟨by decide, by decide⟩ hK hV (fr_pre hK hV [8, 9, 10, 11, 2, 3, 4, 5, 6, 7] rfl (by decide)) (ci := 0) (q0 := 8) rfl rfl rfl rfl hl.1 rfl (Nat.le_of_ble_eq_true rfl) dX11_unfelt_32) hV (va_free hV.2.1 hV.2.2 hA [8, 9, 10, 11, 2, 3, 4, 5, 6, 7] rfl) (fr_jn (s := s) (wn := wY11 cs h0 o0_0 h5 o0_2a o0_2b o0_2c o0_3 h4 o0_5 o0_6 h2 h3 o0_9 o0_10 o0_11 o0_12 o0_13 o0_14 ra0 x0_15 ++ (wX4 cs h1 ra1 y1_0 y1_1 y1_2 y1_3 y1_4 x1_5 x1_6 ++ (wX0 cs h2 h5 ra2 y2_1 y2_2 x2_3 x2_4 x2_5 x2_6 x2_7 x2_8 y2_9 x2_10 x2_11 x2_12 x2_13 x2_14 ++ (wX0 cs h3 h5 ra3 y3_1 y3_2 x3_3 x3_4 x3_5 x3_6 x3_7 x3_8 y3_9 x3_10 x3_11 x3_12 x3_13 x3_14 ++ (wX6 cs h4 ra4 y4_0 y4_1 x4_2 y4_3 x4_4 x4_5 x4_6 ++ (wX10 cs h5 ra5 y5_0 y5_1 y5_2 x5_3)))))) hV hA [8, 9, 10, 11, 2, 3, 4, 5, 6, 7] [0, 1, 12, 13, 14, 15, 16, 17, 18, 19, 20, 21, 22, 23] [0, 1, 18, 19, 20, 21, 22, 23, 14, 15, 16, 17, 2, 3, 4, 5, 6, 7, 8, 9, 10, 11, 12, 13] rfl rfl (by decide) (by decide) rfl (by decide)) (fun H locs hV => ?_)
      refine lv_if_ne (tgt := 128) hx hb dX11_unfelt_35 (by decide) (fun hc => ?_) (fun hc => ?_)
      · have hf := hf_f hf hc
        exact b_X11_unfelt_128 hC hr hlocks hK hA h0 o0_0 o0_2a o0_2b o0_2c o0_3 o0_5 o0_6 o0_9 o0_10 o0_11 o0_12 o0_13 o0_14 ra0 h1 ra1 h2 ra2 h3 ra3 h4 ra4 h5 ra5 x0_15 x1_6 y2_9 x2_10 x2_11 x2_12 x2_13 x2_14 u v4 v5 y1_0 y1_1 y1_2 y1_3 y1_4 x1_5 y2_1 y2_2 x2_3 x2_4 x2_5 x2_6 x2_7 x2_8 y3_1 y3_2 x3_3 x3_4 x3_5 x3_6 x3_7 x3_8 y3_9 x3_10 x3_11 x3_12 x3_13 x3_14 y4_0 y4_1 x4_2 y4_3 x4_4 x4_5 x4_6 y5_0 y5_1 y5_2 x5_3 H locs ls hf (lv_sub hl [4, 5] rfl) hV
      · have hf := hf_t hf hc
        refine lv_aload_n hx hb dX11_unfelt_38 rfl (lv_at hl 1 rfl) ?_
        refine lv_aload_n hx hb dX11_unfelt_39 rfl (lv_at hl 0 rfl) ?_
        refine q_get (v := .ref h2) hC hK hV fl_X11_58 0 rfl rfl dX11_unfelt_40 ?_
        refine q_get (v := .int x2_7) hC hK hV fl_X11_323 8 rfl rfl dX11_unfelt_43 ?_
        obtain ⟨u2, hc2, hf⟩ := hf_b hf
        refine aft_i (run_v hC (k_X4_maySlip l D cs h1 ra1 y1_0 y1_1 y1_2 y1_3 y1_4 x1_5 x1_6 x2_7 u2 H.size hc2) cd_X4_maySlip cv_X4_maySlip ml_X11_326 rfl rfl ⟨by decide, by decide⟩ hK hV (fr_pre hK hV [2, 3, 4, 5, 6, 7] rfl (by decide)) (ci := 4) (q0 := 2) rfl rfl rfl rfl hl.1 rfl (Nat.le_of_ble_eq_true rfl) dX11_unfelt_46) hV (va_free hV.2.1 hV.2.2 hA [2, 3, 4, 5, 6, 7] rfl) (fr_jn (s := s) (wn := wY11 cs h0 o0_0 h5 o0_2a o0_2b o0_2c o0_3 h4 o0_5 o0_6 h2 h3 o0_9 o0_10 o0_11 o0_12 o0_13 o0_14 ra0 x0_15 ++ (wX4 cs h1 ra1 y1_0 y1_1 y1_2 y1_3 y1_4 x1_5 x1_6 ++ (wX0 cs h2 h5 ra2 y2_1 y2_2 x2_3 x2_4 x2_5 x2_6 x2_7 x2_8 y2_9 x2_10 x2_11 x2_12 x2_13 x2_14 ++ (wX0 cs h3 h5 ra3 y3_1 y3_2 x3_3 x3_4 x3_5 x3_6 x3_7 x3_8 y3_9 x3_10 x3_11 x3_12 x3_13 x3_14 ++ (wX6 cs h4 ra4 y4_0 y4_1 x4_2 y4_3 x4_4 x4_5 x4_6 ++ (wX10 cs h5 ra5 y5_0 y5_1 y5_2 x5_3)))))) hV hA [2, 3, 4, 5, 6, 7] [0, 1, 8, 9, 10, 11, 12, 13, 14, 15, 16, 17, 18, 19, 20, 21, 22, 23] [0, 1, 18, 19, 20, 21, 22, 23, 2, 3, 4, 5, 6, 7, 8, 9, 10, 11, 12, 13, 14, 15, 16, 17] rfl rfl (by decide) (by decide) rfl (by decide)) (fun H locs hV => ?_)
        refine lv_if_eq (tgt := 113) hx hb dX11_unfelt_49 (by decide) (fun hc => ?_) (fun hc => ?_)
        · have hf := hf_t hf hc
          exact b_X11_unfelt_113 hC hr hlocks hK hA h0 o0_0 o0_2a o0_2b o0_2c o0_3 o0_5 o0_6 o0_9 o0_10 o0_11 o0_12 o0_13 o0_14 ra0 h1 ra1 h2 ra2 h3 ra3 h4 ra4 h5 ra5 x0_15 x1_6 y2_9 x2_10 x2_11 x2_12 x2_13 x2_14 u (g_X11_unfelt_21 n) ih v2 v3 v4 v5 v6 y1_0 y1_1 y1_2 y1_3 y1_4 x1_5 y2_1 y2_2 x2_3 x2_4 x2_5 x2_6 x2_7 x2_8 y3_1 y3_2 x3_3 x3_4 x3_5 x3_6 x3_7 x3_8 y3_9 x3_10 x3_11 x3_12 x3_13 x3_14 y4_0 y4_1 x4_2 y4_3 x4_4 x4_5 x4_6 y5_0 y5_1 y5_2 x5_3 H locs ls hf (lv_sub hl [0, 1, 2, 3, 4, 5, 6] rfl) hV
        · have hf := hf_f hf hc
          refine lv_aload_n hx hb dX11_unfelt_52 rfl (lv_at hl 0 rfl) ?_
          refine q_get (v := .ref h3) hC hK hV fl_X11_62 0 rfl rfl dX11_unfelt_53 ?_
          refine lv_aload_n hx hb dX11_unfelt_56 rfl (lv_at hl 0 rfl) ?_
          refine q_get (v := .ref h2) hC hK hV fl_X11_58 0 rfl rfl dX11_unfelt_57 ?_
          obtain ⟨u3, hc3, hf⟩ := hf_b hf
          refine aft_v (run_v hC (k_X0_copy l D cs h3 h5 ra3 h2 h5 ra2 y3_1 y3_2 x3_3 x3_4 x3_5 x3_6 x3_7 x3_8 y3_9 x3_10 x3_11 x3_12 x3_13 x3_14 y2_1 y2_2 x2_3 x2_4 x2_5 x2_6 x2_7 x2_8 y2_9 x2_10 x2_11 x2_12 x2_13 x2_14 u3 H.size hc3) cd_X0_copy cv_X0_copy ml_X11_329 rfl rfl ⟨by decide, by decide⟩ hK hV (fr_pre hK hV [12, 13, 14, 15, 8, 9, 10, 11] rfl (by decide)) (ci := 0) (q0 := 12) rfl rfl rfl rfl hl.1 rfl (Nat.le_of_ble_eq_true rfl) dX11_unfelt_60) hV (va_free hV.2.1 hV.2.2 hA [12, 13, 14, 15, 8, 9, 10, 11] rfl) (fr_jn (s := s) (wn := wY11 cs h0 o0_0 h5 o0_2a o0_2b o0_2c o0_3 h4 o0_5 o0_6 h2 h3 o0_9 o0_10 o0_11 o0_12 o0_13 o0_14 ra0 x0_15 ++ (wX4 cs h1 ra1 y1_0 y1_1 y1_2 y1_3 y1_4 x1_5 x1_6 ++ (wX0 cs h2 h5 ra2 y2_1 y2_2 x2_3 x2_4 x2_5 x2_6 x2_7 x2_8 y2_9 x2_10 x2_11 x2_12 x2_13 x2_14 ++ (wX0 cs h3 h5 ra3 u3.1 u3.2.1 u3.2.2.1 u3.2.2.2.1 u3.2.2.2.2.1 u3.2.2.2.2.2.1 u3.2.2.2.2.2.2.1 u3.2.2.2.2.2.2.2 y3_9 x3_10 x3_11 x3_12 x3_13 x3_14 ++ (wX6 cs h4 ra4 y4_0 y4_1 x4_2 y4_3 x4_4 x4_5 x4_6 ++ (wX10 cs h5 ra5 y5_0 y5_1 y5_2 x5_3)))))) hV hA [12, 13, 14, 15, 8, 9, 10, 11] [0, 1, 2, 3, 4, 5, 6, 7, 16, 17, 18, 19, 20, 21, 22, 23] [0, 1, 2, 3, 4, 5, 6, 7, 20, 21, 22, 23, 16, 17, 18, 19, 8, 9, 10, 11, 12, 13, 14, 15] rfl rfl (by decide) (by decide) rfl (by decide)) (fun H locs hV => ?_)
          refine lv_aload_n hx hb dX11_unfelt_63 rfl (lv_at hl 0 rfl) ?_
          refine q_get (v := .ref h3) hC hK hV fl_X11_62 0 rfl rfl dX11_unfelt_64 ?_
          refine lv_aload_n hx hb dX11_unfelt_67 rfl (lv_at hl 1 rfl) ?_
          refine lv_iload_n hx hb dX11_unfelt_68 rfl (lv_at hl 3 rfl) ?_
          obtain ⟨u4, hc4, hf⟩ := hf_b hf
          refine aft_v (run_v hC (k_X0_step l D cs h3 ra3 h1 ra1 h5 ra5 u3.1 u3.2.1 u3.2.2.1 u3.2.2.2.1 u3.2.2.2.2.1 u3.2.2.2.2.2.1 u3.2.2.2.2.2.2.1 u3.2.2.2.2.2.2.2 y3_9 x3_10 x3_11 x3_12 x3_13 x3_14 y1_0 y1_1 y1_2 y1_3 y1_4 x1_5 x1_6 y5_0 y5_1 y5_2 x5_3 v3 u4 H.size hc4) cd_X0_step cv_X0_step ml_X11_332 rfl rfl ⟨by decide, by decide⟩ hK hV (fr_pre hK hV [12, 13, 14, 15, 2, 3, 4, 5, 6, 7, 20, 21, 22, 23] rfl (by decide)) (ci := 0) (q0 := 12) rfl rfl rfl rfl hl.1 rfl (Nat.le_of_ble_eq_true rfl) dX11_unfelt_69) hV (va_free hV.2.1 hV.2.2 hA [12, 13, 14, 15, 2, 3, 4, 5, 6, 7, 20, 21, 22, 23] rfl) (fr_jn (s := s) (wn := wY11 cs h0 o0_0 h5 o0_2a o0_2b o0_2c o0_3 h4 o0_5 o0_6 h2 h3 o0_9 o0_10 o0_11 o0_12 o0_13 o0_14 ra0 x0_15 ++ (wX4 cs h1 ra1 y1_0 y1_1 y1_2 y1_3 y1_4 x1_5 x1_6 ++ (wX0 cs h2 h5 ra2 y2_1 y2_2 x2_3 x2_4 x2_5 x2_6 x2_7 x2_8 y2_9 x2_10 x2_11 x2_12 x2_13 x2_14 ++ (wX0 cs h3 h5 ra3 u3.1 u4.1 u4.2.1 u4.2.2.1 u4.2.2.2.1 u4.2.2.2.2.1 u4.2.2.2.2.2.1 u4.2.2.2.2.2.2 y3_9 x3_10 x3_11 x3_12 x3_13 x3_14 ++ (wX6 cs h4 ra4 y4_0 y4_1 x4_2 y4_3 x4_4 x4_5 x4_6 ++ (wX10 cs h5 ra5 y5_0 y5_1 y5_2 x5_3)))))) hV hA [12, 13, 14, 15, 2, 3, 4, 5, 6, 7, 20, 21, 22, 23] [0, 1, 8, 9, 10, 11, 16, 17, 18, 19] [0, 1, 14, 15, 16, 17, 18, 19, 2, 3, 4, 5, 10, 11, 12, 13, 6, 7, 8, 9, 20, 21, 22, 23] rfl rfl (by decide) (by decide) rfl (by decide)) (fun H locs hV => ?_)
          refine lv_aload_n hx hb dX11_unfelt_72 rfl (lv_at hl 0 rfl) ?_
          refine q_get (v := .ref h3) hC hK hV fl_X11_62 0 rfl rfl dX11_unfelt_73 ?_
          refine lv_aload_n hx hb dX11_unfelt_76 rfl (lv_at hl 1 rfl) ?_
          refine lv_iload_n hx hb dX11_unfelt_77 rfl (lv_at hl 2 rfl) ?_
          obtain ⟨u5, hc5, hf⟩ := hf_b hf
          refine aft_v (run_v hC (k_X0_go l D cs h3 ra3 h1 ra1 h5 ra5 u3.1 u4.1 u4.2.1 u4.2.2.1 u4.2.2.2.1 u4.2.2.2.2.1 u4.2.2.2.2.2.1 u4.2.2.2.2.2.2 y3_9 x3_10 x3_11 x3_12 x3_13 x3_14 y1_0 y1_1 y1_2 y1_3 y1_4 x1_5 x1_6 y5_0 y5_1 y5_2 x5_3 v2 u5 H.size hc5) cd_X0_go cv_X0_go ml_X11_165 rfl rfl ⟨by decide, by decide⟩ hK hV (fr_pre hK hV [12, 13, 14, 15, 2, 3, 4, 5, 6, 7, 20, 21, 22, 23] rfl (by decide)) (ci := 0) (q0 := 12) rfl rfl rfl rfl hl.1 rfl (Nat.le_of_ble_eq_true rfl) dX11_unfelt_78) hV (va_free hV.2.1 hV.2.2 hA [12, 13, 14, 15, 2, 3, 4, 5, 6, 7, 20, 21, 22, 23] rfl) (fr_jn (s := s) (wn := wY11 cs h0 o0_0 h5 o0_2a o0_2b o0_2c o0_3 h4 o0_5 o0_6 h2 h3 o0_9 o0_10 o0_11 o0_12 o0_13 o0_14 ra0 x0_15 ++ (wX4 cs h1 ra1 y1_0 y1_1 y1_2 y1_3 y1_4 x1_5 x1_6 ++ (wX0 cs h2 h5 ra2 y2_1 y2_2 x2_3 x2_4 x2_5 x2_6 x2_7 x2_8 y2_9 x2_10 x2_11 x2_12 x2_13 x2_14 ++ (wX0 cs h3 h5 ra3 u3.1 u5.1 u5.2.1 u5.2.2.1 u5.2.2.2.1 u5.2.2.2.2.1 u5.2.2.2.2.2.1 u5.2.2.2.2.2.2.1 u5.2.2.2.2.2.2.2.1 u5.2.2.2.2.2.2.2.2.1 u5.2.2.2.2.2.2.2.2.2.1 u5.2.2.2.2.2.2.2.2.2.2.1 u5.2.2.2.2.2.2.2.2.2.2.2.1 u5.2.2.2.2.2.2.2.2.2.2.2.2 ++ (wX6 cs h4 ra4 y4_0 y4_1 x4_2 y4_3 x4_4 x4_5 x4_6 ++ (wX10 cs h5 ra5 y5_0 y5_1 y5_2 x5_3)))))) hV hA [12, 13, 14, 15, 2, 3, 4, 5, 6, 7, 20, 21, 22, 23] [0, 1, 8, 9, 10, 11, 16, 17, 18, 19] [0, 1, 14, 15, 16, 17, 18, 19, 2, 3, 4, 5, 10, 11, 12, 13, 6, 7, 8, 9, 20, 21, 22, 23] rfl rfl (by decide) (by decide) rfl (by decide)) (fun H locs hV => ?_)
          refine lv_aload_n hx hb dX11_unfelt_81 rfl (lv_at hl 0 rfl) ?_
          refine q_get (v := .ref h4) hC hK hV fl_X11_37 0 rfl rfl dX11_unfelt_82 ?_
          refine lv_aload_n hx hb dX11_unfelt_85 rfl (lv_at hl 0 rfl) ?_
          refine q_get (v := .ref h3) hC hK hV fl_X11_62 0 rfl rfl dX11_unfelt_86 ?_
          obtain ⟨u6, hc6, hf⟩ := hf_b hf
          refine aft_i (run_v hC (k_X6_holds l D cs h4 ra4 h3 h5 ra3 y4_0 y4_1 x4_2 y4_3 x4_4 x4_5 x4_6 u3.1 u5.1 u5.2.1 u5.2.2.1 u5.2.2.2.1 u5.2.2.2.2.1 u5.2.2.2.2.2.1 u5.2.2.2.2.2.2.1 u5.2.2.2.2.2.2.2.1 u5.2.2.2.2.2.2.2.2.1 u5.2.2.2.2.2.2.2.2.2.1 u5.2.2.2.2.2.2.2.2.2.2.1 u5.2.2.2.2.2.2.2.2.2.2.2.1 u5.2.2.2.2.2.2.2.2.2.2.2.2 u6 H.size hc6) cd_X6_holds cv_X6_holds ml_X11_184 rfl rfl ⟨by decide, by decide⟩ hK hV (fr_pre hK hV [16, 17, 18, 19, 12, 13, 14, 15] rfl (by decide)) (ci := 6) (q0 := 16) rfl rfl rfl rfl hl.1 rfl (Nat.le_of_ble_eq_true rfl) dX11_unfelt_89) hV (va_free hV.2.1 hV.2.2 hA [16, 17, 18, 19, 12, 13, 14, 15] rfl) (fr_jn (s := s) (wn := wY11 cs h0 o0_0 h5 o0_2a o0_2b o0_2c o0_3 h4 o0_5 o0_6 h2 h3 o0_9 o0_10 o0_11 o0_12 o0_13 o0_14 ra0 x0_15 ++ (wX4 cs h1 ra1 y1_0 y1_1 y1_2 y1_3 y1_4 x1_5 x1_6 ++ (wX0 cs h2 h5 ra2 y2_1 y2_2 x2_3 x2_4 x2_5 x2_6 x2_7 x2_8 y2_9 x2_10 x2_11 x2_12 x2_13 x2_14 ++ (wX0 cs h3 h5 ra3 u3.1 u5.1 u5.2.1 u5.2.2.1 u5.2.2.2.1 u5.2.2.2.2.1 u5.2.2.2.2.2.1 u5.2.2.2.2.2.2.1 u5.2.2.2.2.2.2.2.1 u5.2.2.2.2.2.2.2.2.1 u5.2.2.2.2.2.2.2.2.2.1 u5.2.2.2.2.2.2.2.2.2.2.1 u5.2.2.2.2.2.2.2.2.2.2.2.1 u5.2.2.2.2.2.2.2.2.2.2.2.2 ++ (wX6 cs h4 ra4 y4_0 y4_1 x4_2 u6.2.1 u6.2.2.1 u6.2.2.2.1 u6.2.2.2.2 ++ (wX10 cs h5 ra5 y5_0 y5_1 y5_2 x5_3)))))) hV hA [16, 17, 18, 19, 12, 13, 14, 15] [0, 1, 2, 3, 4, 5, 6, 7, 8, 9, 10, 11, 20, 21, 22, 23] [0, 1, 2, 3, 4, 5, 6, 7, 8, 9, 10, 11, 20, 21, 22, 23, 16, 17, 18, 19, 12, 13, 14, 15] rfl rfl (by decide) (by decide) rfl (by decide)) (fun H locs hV => ?_)
          refine lv_if_eq (tgt := 113) hx hb dX11_unfelt_92 (by decide) (fun hc => ?_) (fun hc => ?_)
          · have hf := hf_t hf hc
            exact b_X11_unfelt_113 hC hr hlocks hK hA h0 o0_0 o0_2a o0_2b o0_2c o0_3 o0_5 o0_6 o0_9 o0_10 o0_11 o0_12 o0_13 o0_14 ra0 h1 ra1 h2 ra2 h3 ra3 h4 ra4 h5 ra5 x0_15 x1_6 y2_9 x2_10 x2_11 x2_12 x2_13 x2_14 u (g_X11_unfelt_21 n) ih v2 v3 v4 v5 v6 y1_0 y1_1 y1_2 y1_3 y1_4 x1_5 y2_1 y2_2 x2_3 x2_4 x2_5 x2_6 x2_7 x2_8 u3.1 u5.1 u5.2.1 u5.2.2.1 u5.2.2.2.1 u5.2.2.2.2.1 u5.2.2.2.2.2.1 u5.2.2.2.2.2.2.1 u5.2.2.2.2.2.2.2.1 u5.2.2.2.2.2.2.2.2.1 u5.2.2.2.2.2.2.2.2.2.1 u5.2.2.2.2.2.2.2.2.2.2.1 u5.2.2.2.2.2.2.2.2.2.2.2.1 u5.2.2.2.2.2.2.2.2.2.2.2.2 y4_0 y4_1 x4_2 u6.2.1 u6.2.2.1 u6.2.2.2.1 u6.2.2.2.2 y5_0 y5_1 y5_2 x5_3 H locs ls hf (lv_sub hl [0, 1, 2, 3, 4, 5, 6] rfl) hV
          · have hf := hf_f hf hc
            refine lv_iload hx hb dX11_unfelt_95 (lv_at hl 4 rfl) ?_
            refine lv_if_eq (tgt := 110) hx hb dX11_unfelt_97 (by decide) (fun hc => ?_) (fun hc => ?_)
            · have hf := hf_t hf hc
              refine lv_iinc (v := (v5 + 1)) (lv' := [(5, .int (v5 + 1)), (0, .ref h0), (1, .ref h1), (2, .int v2), (3, .int v3), (4, .int v4), (6, .int v6)]) hx hb dX11_unfelt_110 hl (k := 5) rfl (by rfl) (by decide) rfl (fun ls hl => ?_)
              exact b_X11_unfelt_113 hC hr hlocks hK hA h0 o0_0 o0_2a o0_2b o0_2c o0_3 o0_5 o0_6 o0_9 o0_10 o0_11 o0_12 o0_13 o0_14 ra0 h1 ra1 h2 ra2 h3 ra3 h4 ra4 h5 ra5 x0_15 x1_6 y2_9 x2_10 x2_11 x2_12 x2_13 x2_14 u (g_X11_unfelt_21 n) ih v2 v3 v4 (v5 + 1) v6 y1_0 y1_1 y1_2 y1_3 y1_4 x1_5 y2_1 y2_2 x2_3 x2_4 x2_5 x2_6 x2_7 x2_8 u3.1 u5.1 u5.2.1 u5.2.2.1 u5.2.2.2.1 u5.2.2.2.2.1 u5.2.2.2.2.2.1 u5.2.2.2.2.2.2.1 u5.2.2.2.2.2.2.2.1 u5.2.2.2.2.2.2.2.2.1 u5.2.2.2.2.2.2.2.2.2.1 u5.2.2.2.2.2.2.2.2.2.2.1 u5.2.2.2.2.2.2.2.2.2.2.2.1 u5.2.2.2.2.2.2.2.2.2.2.2.2 y4_0 y4_1 x4_2 u6.2.1 u6.2.2.1 u6.2.2.2.1 u6.2.2.2.2 y5_0 y5_1 y5_2 x5_3 H locs ls hf (lv_sub hl [1, 2, 3, 4, 5, 0, 6] rfl) hV
            · have hf := hf_f hf hc
              refine lv_aload_n hx hb dX11_unfelt_100 rfl (lv_at hl 0 rfl) ?_
              refine q_get (v := .ref h2) hC hK hV fl_X11_58 0 rfl rfl dX11_unfelt_101 ?_
              refine q_get (v := .int x2_6) hC hK hV fl_X11_172 8 rfl rfl dX11_unfelt_104 ?_
              refine lv_iconst (v := 1) hx hb dX11_unfelt_107 (by decide) ?_
              refine lv_iadd hx hb dX11_unfelt_108 ?_
              obtain rfl := Option.some.inj hf
              exact q_ret hC hr hlocks hV dX11_unfelt_109
set_option maxHeartbeats 4000000 in
set_option maxRecDepth 100000 in
theorem b_X11_unfelt_0 {p : Program} {l : Launch} {e : Env} {s : State} {m : MethodId} {args : Array Value} {below : List Frame} {meth : Method} {c : Code} {D : va_G} {cs : Nat → ClassId} {A : Nat → Prop} (hC : CallFix p m c cX11_unfelt 7 s args gtbl RX11) (hr : meth.sig.returnType = (some .int)) (hlocks : meth.locks = false) (hK : KN D cs s) (hA : ∀ q : Nat, s.heap.size ≤ q → A q) (h0 : Nat) (o0_0 : Nat) (o0_2a : Nat) (o0_2b : Nat) (o0_2c : Nat) (o0_3 : Nat) (o0_5 : Nat) (o0_6 : Nat) (o0_9 : Nat) (o0_10 : Nat) (o0_11 : Nat) (o0_12 : Nat) (o0_13 : Nat) (o0_14 : Nat) (ra0 : Nat → Nat) (h1 : Nat) (ra1 : Nat → Nat) (h2 : Nat) (ra2 : Nat → Nat) (h3 : Nat) (ra3 : Nat → Nat) (h4 : Nat) (ra4 : Nat → Nat) (h5 : Nat) (ra5 : Nat → Nat) (x0_15 x1_6 : Int32) (y2_9 : Nat → Int32) (x2_10 x2_11 x2_12 x2_13 x2_14 : Int32) (u : Int32 × (Nat → Int32) × (Nat → Int32) × Int32 × Int32 × Int32 × Int32 × Int32 × Int32 × (Nat → Int32) × (Nat → Int32) × Int32 × Int32 × Int32 × Int32 × Int32 × Int32 × (Nat → Int32) × Int32 × Int32 × Int32 × Int32 × Int32 × (Nat → Int32) × Int32 × Int32 × Int32) : ∀ (v2 v3 v4 : Int32) (y1_0 y1_1 y1_2 y1_3 y1_4 : Nat → Int32) (x1_5 : Int32) (y2_1 y2_2 : Nat → Int32) (x2_3 x2_4 x2_5 x2_6 x2_7 x2_8 : Int32) (y3_1 y3_2 : Nat → Int32) (x3_3 x3_4 x3_5 x3_6 x3_7 x3_8 : Int32) (y3_9 : Nat → Int32) (x3_10 x3_11 x3_12 x3_13 x3_14 : Int32) (y4_0 y4_1 : Nat → Int32) (x4_2 : Int32) (y4_3 : Nat → Int32) (x4_4 x4_5 x4_6 : Int32) (y5_0 y5_1 y5_2 : Nat → Int32) (x5_3 : Int32) (H : Heap) (locs : List Loc) (ls : Array Slot), g_X11_unfelt_0 v2 v3 v4 y1_0 y1_1 y1_2 y1_3 y1_4 x1_5 y2_1 y2_2 x2_3 x2_4 x2_5 x2_6 x2_7 x2_8 y3_1 y3_2 x3_3 x3_4 x3_5 x3_6 x3_7 x3_8 y3_9 x3_10 x3_11 x3_12 x3_13 x3_14 y4_0 y4_1 x4_2 y4_3 x4_4 x4_5 x4_6 y5_0 y5_1 y5_2 x5_3 = some u → lv_has ls 7 [(0, .ref h0), (1, .ref h1), (2, .int v2), (3, .int v3), (4, .int v4)] → VW D A s.heap (wY11 cs h0 o0_0 h5 o0_2a o0_2b o0_2c o0_3 h4 o0_5 o0_6 h2 h3 o0_9 o0_10 o0_11 o0_12 o0_13 o0_14 ra0 x0_15 ++ (wX4 cs h1 ra1 y1_0 y1_1 y1_2 y1_3 y1_4 x1_5 x1_6 ++ (wX0 cs h2 h5 ra2 y2_1 y2_2 x2_3 x2_4 x2_5 x2_6 x2_7 x2_8 y2_9 x2_10 x2_11 x2_12 x2_13 x2_14 ++ (wX0 cs h3 h5 ra3 y3_1 y3_2 x3_3 x3_4 x3_5 x3_6 x3_7 x3_8 y3_9 x3_10 x3_11 x3_12 x3_13 x3_14 ++ (wX6 cs h4 ra4 y4_0 y4_1 x4_2 y4_3 x4_4 x4_5 x4_6 ++ (wX10 cs h5 ra5 y5_0 y5_1 y5_2 x5_3)))))) H locs → W p l e rm_X11_unfelt s m args below meth c H locs 0 0 (MQ below (QI D (wY11 cs h0 o0_0 h5 o0_2a o0_2b o0_2c o0_3 h4 o0_5 o0_6 h2 h3 o0_9 o0_10 o0_11 o0_12 o0_13 o0_14 ra0 x0_15 ++ (wX4 cs h1 ra1 y1_0 y1_1 y1_2 y1_3 y1_4 x1_5 x1_6 ++ (wX0 cs h2 h5 ra2 u.2.1 u.2.2.1 u.2.2.2.1 u.2.2.2.2.1 u.2.2.2.2.2.1 u.2.2.2.2.2.2.1 u.2.2.2.2.2.2.2.1 u.2.2.2.2.2.2.2.2.1 y2_9 x2_10 x2_11 x2_12 x2_13 x2_14 ++ (wX0 cs h3 h5 ra3 u.2.2.2.2.2.2.2.2.2.1 u.2.2.2.2.2.2.2.2.2.2.1 u.2.2.2.2.2.2.2.2.2.2.2.1 u.2.2.2.2.2.2.2.2.2.2.2.2.1 u.2.2.2.2.2.2.2.2.2.2.2.2.2.1 u.2.2.2.2.2.2.2.2.2.2.2.2.2.2.1 u.2.2.2.2.2.2.2.2.2.2.2.2.2.2.2.1 u.2.2.2.2.2.2.2.2.2.2.2.2.2.2.2.2.1 u.2.2.2.2.2.2.2.2.2.2.2.2.2.2.2.2.2.1 u.2.2.2.2.2.2.2.2.2.2.2.2.2.2.2.2.2.2.1 u.2.2.2.2.2.2.2.2.2.2.2.2.2.2.2.2.2.2.2.1 u.2.2.2.2.2.2.2.2.2.2.2.2.2.2.2.2.2.2.2.2.1 u.2.2.2.2.2.2.2.2.2.2.2.2.2.2.2.2.2.2.2.2.2.1 u.2.2.2.2.2.2.2.2.2.2.2.2.2.2.2.2.2.2.2.2.2.2.1 ++ (wX6 cs h4 ra4 y4_0 y4_1 x4_2 u.2.2.2.2.2.2.2.2.2.2.2.2.2.2.2.2.2.2.2.2.2.2.2.1 u.2.2.2.2.2.2.2.2.2.2.2.2.2.2.2.2.2.2.2.2.2.2.2.2.1 u.2.2.2.2.2.2.2.2.2.2.2.2.2.2.2.2.2.2.2.2.2.2.2.2.2.1 u.2.2.2.2.2.2.2.2.2.2.2.2.2.2.2.2.2.2.2.2.2.2.2.2.2.2 ++ (wX10 cs h5 ra5 y5_0 y5_1 y5_2 x5_3)))))) A u.1) args s 0 0 A) (F0 m 0 ls []) := by
  have hx := hC.1
  have hb := hC.2.1
  have hown := hC.2.2.2.1
  have hts := hC.2.2.2.2
  intro v2 v3 v4 y1_0 y1_1 y1_2 y1_3 y1_4 x1_5 y2_1 y2_2 x2_3 x2_4 x2_5 x2_6 x2_7 x2_8 y3_1 y3_2 x3_3 x3_4 x3_5 x3_6 x3_7 x3_8 y3_9 x3_10 x3_11 x3_12 x3_13 x3_14 y4_0 y4_1 x4_2 y4_3 x4_4 x4_5 x4_6 y5_0 y5_1 y5_2 x5_3 H locs ls hf hl hV
  refine lv_iconst (v := 0) hx hb dX11_unfelt_0 (by decide) ?_
  refine lv_istore (lv' := [(5, .int 0), (0, .ref h0), (1, .ref h1), (2, .int v2), (3, .int v3), (4, .int v4)]) hx hb dX11_unfelt_1 hl (by decide) rfl (fun ls hl => ?_)
  refine lv_aload_n hx hb dX11_unfelt_3 rfl (lv_at hl 1 rfl) ?_
  refine q_get (v := .ref h2) hC hK hV fl_X11_58 0 rfl rfl dX11_unfelt_4 ?_
  refine lv_aload_n hx hb dX11_unfelt_7 rfl (lv_at hl 1 rfl) ?_
  refine q_get (v := .ref h5) hC hK hV fl_X11_19 0 rfl rfl dX11_unfelt_8 ?_
  refine q_get (v := .ref (ra5 2)) hC hK hV fl_X11_157 20 rfl rfl dX11_unfelt_11 ?_
  refine lv_iconst (v := 0) hx hb dX11_unfelt_14 (by decide) ?_
  obtain ⟨u1, hc1, hf⟩ := hf_b hf
  refine aft_v (run_v hC (k_X0_start l D cs h2 h5 ra2 (ra5 2) y2_1 y2_2 x2_3 x2_4 x2_5 x2_6 x2_7 x2_8 y2_9 x2_10 x2_11 x2_12 x2_13 x2_14 y5_2 0 u1 H.size hc1) cd_X0_start cv_X0_start ml_X11_161 rfl rfl ⟨by decide, by decide⟩ hK hV (fr_pre hK hV [8, 9, 10, 11, 23] rfl (by decide)) (ci := 0) (q0 := 8) rfl rfl rfl rfl hl.1 rfl (Nat.le_of_ble_eq_true rfl) dX11_unfelt_15) hV (va_free hV.2.1 hV.2.2 hA [8, 9, 10, 11, 23] rfl) (fr_jn (s := s) (wn := wY11 cs h0 o0_0 h5 o0_2a o0_2b o0_2c o0_3 h4 o0_5 o0_6 h2 h3 o0_9 o0_10 o0_11 o0_12 o0_13 o0_14 ra0 x0_15 ++ (wX4 cs h1 ra1 y1_0 y1_1 y1_2 y1_3 y1_4 x1_5 x1_6 ++ (wX0 cs h2 h5 ra2 u1.1 u1.2.1 u1.2.2.1 u1.2.2.2.1 u1.2.2.2.2.1 u1.2.2.2.2.2.1 u1.2.2.2.2.2.2.1 u1.2.2.2.2.2.2.2 y2_9 x2_10 x2_11 x2_12 x2_13 x2_14 ++ (wX0 cs h3 h5 ra3 y3_1 y3_2 x3_3 x3_4 x3_5 x3_6 x3_7 x3_8 y3_9 x3_10 x3_11 x3_12 x3_13 x3_14 ++ (wX6 cs h4 ra4 y4_0 y4_1 x4_2 y4_3 x4_4 x4_5 x4_6 ++ (wX10 cs h5 ra5 y5_0 y5_1 y5_2 x5_3)))))) hV hA [8, 9, 10, 11, 23] [0, 1, 2, 3, 4, 5, 6, 7, 12, 13, 14, 15, 16, 17, 18, 19, 20, 21, 22] [0, 1, 2, 3, 4, 5, 6, 7, 19, 20, 21, 22, 8, 9, 10, 11, 12, 13, 14, 15, 16, 17, 18, 23] rfl rfl (by decide) (by decide) rfl (by decide)) (fun H locs hV => ?_)
  refine lv_iconst (v := 0) hx hb dX11_unfelt_18 (by decide) ?_
  refine lv_istore (lv' := [(6, .int 0), (5, .int 0), (0, .ref h0), (1, .ref h1), (2, .int v2), (3, .int v3), (4, .int v4)]) hx hb dX11_unfelt_19 hl (by decide) rfl (fun ls hl => ?_)
  exact b_X11_unfelt_21 hC hr hlocks hK hA h0 o0_0 o0_2a o0_2b o0_2c o0_3 o0_5 o0_6 o0_9 o0_10 o0_11 o0_12 o0_13 o0_14 ra0 h1 ra1 h2 ra2 h3 ra3 h4 ra4 h5 ra5 x0_15 x1_6 y2_9 x2_10 x2_11 x2_12 x2_13 x2_14 u FU v2 v3 v4 0 0 y1_0 y1_1 y1_2 y1_3 y1_4 x1_5 u1.1 u1.2.1 u1.2.2.1 u1.2.2.2.1 u1.2.2.2.2.1 u1.2.2.2.2.2.1 u1.2.2.2.2.2.2.1 u1.2.2.2.2.2.2.2 y3_1 y3_2 x3_3 x3_4 x3_5 x3_6 x3_7 x3_8 y3_9 x3_10 x3_11 x3_12 x3_13 x3_14 y4_0 y4_1 x4_2 y4_3 x4_4 x4_5 x4_6 y5_0 y5_1 y5_2 x5_3 H locs ls hf (lv_sub hl [2, 3, 4, 5, 6, 1, 0] rfl) hV
set_option maxRecDepth 100000 in
theorem k_X11_unfelt (l : Launch) (D : va_G) (cs : Nat → ClassId) (h0 : Nat) (o0_0 : Nat) (o0_2a : Nat) (o0_2b : Nat) (o0_2c : Nat) (o0_3 : Nat) (o0_5 : Nat) (o0_6 : Nat) (o0_9 : Nat) (o0_10 : Nat) (o0_11 : Nat) (o0_12 : Nat) (o0_13 : Nat) (o0_14 : Nat) (ra0 : Nat → Nat) (h1 : Nat) (ra1 : Nat → Nat) (h2 : Nat) (ra2 : Nat → Nat) (h3 : Nat) (ra3 : Nat → Nat) (h4 : Nat) (ra4 : Nat → Nat) (h5 : Nat) (ra5 : Nat → Nat) (x0_15 : Int32) (y1_0 y1_1 y1_2 y1_3 y1_4 : Nat → Int32) (x1_5 x1_6 : Int32) (y2_1 y2_2 : Nat → Int32) (x2_3 x2_4 x2_5 x2_6 x2_7 x2_8 : Int32) (y2_9 : Nat → Int32) (x2_10 x2_11 x2_12 x2_13 x2_14 : Int32) (y3_1 y3_2 : Nat → Int32) (x3_3 x3_4 x3_5 x3_6 x3_7 x3_8 : Int32) (y3_9 : Nat → Int32) (x3_10 x3_11 x3_12 x3_13 x3_14 : Int32) (y4_0 y4_1 : Nat → Int32) (x4_2 : Int32) (y4_3 : Nat → Int32) (x4_4 x4_5 x4_6 : Int32) (y5_0 y5_1 y5_2 : Nat → Int32) (x5_3 : Int32) (v2 v3 v4 : Int32) (u : Int32 × (Nat → Int32) × (Nat → Int32) × Int32 × Int32 × Int32 × Int32 × Int32 × Int32 × (Nat → Int32) × (Nat → Int32) × Int32 × Int32 × Int32 × Int32 × Int32 × Int32 × (Nat → Int32) × Int32 × Int32 × Int32 × Int32 × Int32 × (Nat → Int32) × Int32 × Int32 × Int32) (sz : Nat) (hf : f_X11_unfelt v2 v3 v4 y1_0 y1_1 y1_2 y1_3 y1_4 x1_5 y2_1 y2_2 x2_3 x2_4 x2_5 x2_6 x2_7 x2_8 y3_1 y3_2 x3_3 x3_4 x3_5 x3_6 x3_7 x3_8 y3_9 x3_10 x3_11 x3_12 x3_13 x3_14 y4_0 y4_1 x4_2 y4_3 x4_4 x4_5 x4_6 y5_0 y5_1 y5_2 x5_3 = some u) : Met l yX11_unfelt (WS yX11_unfelt cX11_unfelt 7 (some .int)) rm_X11_unfelt (va_Pc [.ref h0, .ref h1, .int v2, .int v3, .int v4] (PR D cs (wY11 cs h0 o0_0 h5 o0_2a o0_2b o0_2c o0_3 h4 o0_5 o0_6 h2 h3 o0_9 o0_10 o0_11 o0_12 o0_13 o0_14 ra0 x0_15 ++ (wX4 cs h1 ra1 y1_0 y1_1 y1_2 y1_3 y1_4 x1_5 x1_6 ++ (wX0 cs h2 h5 ra2 y2_1 y2_2 x2_3 x2_4 x2_5 x2_6 x2_7 x2_8 y2_9 x2_10 x2_11 x2_12 x2_13 x2_14 ++ (wX0 cs h3 h5 ra3 y3_1 y3_2 x3_3 x3_4 x3_5 x3_6 x3_7 x3_8 y3_9 x3_10 x3_11 x3_12 x3_13 x3_14 ++ (wX6 cs h4 ra4 y4_0 y4_1 x4_2 y4_3 x4_4 x4_5 x4_6 ++ (wX10 cs h5 ra5 y5_0 y5_1 y5_2 x5_3)))))) sz)) (QI D (wY11 cs h0 o0_0 h5 o0_2a o0_2b o0_2c o0_3 h4 o0_5 o0_6 h2 h3 o0_9 o0_10 o0_11 o0_12 o0_13 o0_14 ra0 x0_15 ++ (wX4 cs h1 ra1 y1_0 y1_1 y1_2 y1_3 y1_4 x1_5 x1_6 ++ (wX0 cs h2 h5 ra2 u.2.1 u.2.2.1 u.2.2.2.1 u.2.2.2.2.1 u.2.2.2.2.2.1 u.2.2.2.2.2.2.1 u.2.2.2.2.2.2.2.1 u.2.2.2.2.2.2.2.2.1 y2_9 x2_10 x2_11 x2_12 x2_13 x2_14 ++ (wX0 cs h3 h5 ra3 u.2.2.2.2.2.2.2.2.2.1 u.2.2.2.2.2.2.2.2.2.2.1 u.2.2.2.2.2.2.2.2.2.2.2.1 u.2.2.2.2.2.2.2.2.2.2.2.2.1 u.2.2.2.2.2.2.2.2.2.2.2.2.2.1 u.2.2.2.2.2.2.2.2.2.2.2.2.2.2.1 u.2.2.2.2.2.2.2.2.2.2.2.2.2.2.2.1 u.2.2.2.2.2.2.2.2.2.2.2.2.2.2.2.2.1 u.2.2.2.2.2.2.2.2.2.2.2.2.2.2.2.2.2.1 u.2.2.2.2.2.2.2.2.2.2.2.2.2.2.2.2.2.2.1 u.2.2.2.2.2.2.2.2.2.2.2.2.2.2.2.2.2.2.2.1 u.2.2.2.2.2.2.2.2.2.2.2.2.2.2.2.2.2.2.2.2.1 u.2.2.2.2.2.2.2.2.2.2.2.2.2.2.2.2.2.2.2.2.2.1 u.2.2.2.2.2.2.2.2.2.2.2.2.2.2.2.2.2.2.2.2.2.2.1 ++ (wX6 cs h4 ra4 y4_0 y4_1 x4_2 u.2.2.2.2.2.2.2.2.2.2.2.2.2.2.2.2.2.2.2.2.2.2.2.1 u.2.2.2.2.2.2.2.2.2.2.2.2.2.2.2.2.2.2.2.2.2.2.2.2.1 u.2.2.2.2.2.2.2.2.2.2.2.2.2.2.2.2.2.2.2.2.2.2.2.2.2.1 u.2.2.2.2.2.2.2.2.2.2.2.2.2.2.2.2.2.2.2.2.2.2.2.2.2.2 ++ (wX10 cs h5 ra5 y5_0 y5_1 y5_2 x5_3)))))) (va_A (wY11 cs h0 o0_0 h5 o0_2a o0_2b o0_2c o0_3 h4 o0_5 o0_6 h2 h3 o0_9 o0_10 o0_11 o0_12 o0_13 o0_14 ra0 x0_15 ++ (wX4 cs h1 ra1 y1_0 y1_1 y1_2 y1_3 y1_4 x1_5 x1_6 ++ (wX0 cs h2 h5 ra2 y2_1 y2_2 x2_3 x2_4 x2_5 x2_6 x2_7 x2_8 y2_9 x2_10 x2_11 x2_12 x2_13 x2_14 ++ (wX0 cs h3 h5 ra3 y3_1 y3_2 x3_3 x3_4 x3_5 x3_6 x3_7 x3_8 y3_9 x3_10 x3_11 x3_12 x3_13 x3_14 ++ (wX6 cs h4 ra4 y4_0 y4_1 x4_2 y4_3 x4_4 x4_5 x4_6 ++ (wX10 cs h5 ra5 y5_0 y5_1 y5_2 x5_3)))))) sz) u.1) 0 0 (va_A (wY11 cs h0 o0_0 h5 o0_2a o0_2b o0_2c o0_3 h4 o0_5 o0_6 h2 h3 o0_9 o0_10 o0_11 o0_12 o0_13 o0_14 ra0 x0_15 ++ (wX4 cs h1 ra1 y1_0 y1_1 y1_2 y1_3 y1_4 x1_5 x1_6 ++ (wX0 cs h2 h5 ra2 y2_1 y2_2 x2_3 x2_4 x2_5 x2_6 x2_7 x2_8 y2_9 x2_10 x2_11 x2_12 x2_13 x2_14 ++ (wX0 cs h3 h5 ra3 y3_1 y3_2 x3_3 x3_4 x3_5 x3_6 x3_7 x3_8 y3_9 x3_10 x3_11 x3_12 x3_13 x3_14 ++ (wX6 cs h4 ra4 y4_0 y4_1 x4_2 y4_3 x4_4 x4_5 x4_6 ++ (wX10 cs h5 ra5 y5_0 y5_1 y5_2 x5_3)))))) sz) := by
  refine met_of RX11 rfl (by decide) (Nat.le_of_ble_eq_true rfl) ?_
  intro p e s m args below meth c hC hr hlocks hK hsz hA hV ls hl
  exact b_X11_unfelt_0 hC hr hlocks hK hA h0 o0_0 o0_2a o0_2b o0_2c o0_3 o0_5 o0_6 o0_9 o0_10 o0_11 o0_12 o0_13 o0_14 ra0 h1 ra1 h2 ra2 h3 ra3 h4 ra4 h5 ra5 x0_15 x1_6 y2_9 x2_10 x2_11 x2_12 x2_13 x2_14 u v2 v3 v4 y1_0 y1_1 y1_2 y1_3 y1_4 x1_5 y2_1 y2_2 x2_3 x2_4 x2_5 x2_6 x2_7 x2_8 y3_1 y3_2 x3_3 x3_4 x3_5 x3_6 x3_7 x3_8 y3_9 x3_10 x3_11 x3_12 x3_13 x3_14 y4_0 y4_1 x4_2 y4_3 x4_4 x4_5 x4_6 y5_0 y5_1 y5_2 x5_3 s.heap [] ls hf (lv_sub hl [0, 1, 2, 3, 4] rfl) hV
def rm_X11_slips : Room := { frames := 5, cells := 0, slots := 0, locals := 139 }
set_option maxHeartbeats 4000000 in
set_option maxRecDepth 100000 in
theorem b_X11_slips_40 {p : Program} {l : Launch} {e : Env} {s : State} {m : MethodId} {args : Array Value} {below : List Frame} {meth : Method} {c : Code} {D : va_G} {cs : Nat → ClassId} {A : Nat → Prop} (hC : CallFix p m c cX11_slips 5 s args gtbl RX11) (hr : meth.sig.returnType = (some .int)) (hlocks : meth.locks = false) (hK : KN D cs s) (hA : ∀ q : Nat, s.heap.size ≤ q → A q) (h0 : Nat) (o0_0 : Nat) (o0_3 : Nat) (o0_5 : Nat) (o0_6 : Nat) (o0_9 : Nat) (o0_10 : Nat) (o0_11 : Nat) (o0_12 : Nat) (o0_13 : Nat) (o0_14 : Nat) (ra0 : Nat → Nat) (h1 : Nat) (ra1 : Nat → Nat) (h2 : Nat) (ra2 : Nat → Nat) (h3 : Nat) (ra3 : Nat → Nat) (h4 : Nat) (ra4 : Nat → Nat) (h5 : Nat) (ra5 : Nat → Nat) (h6 : Nat) (ra6 : Nat → Nat) (h7 : Nat) (ra7 : Nat → Nat) (x0_15 : Int32) (y1_9 : Nat → Int32) (x1_10 x1_11 x1_12 x1_13 x1_14 x5_6 x6_6 x7_6 : Int32) (u : Int32 × (Nat → Int32) × (Nat → Int32) × Int32 × Int32 × Int32 × Int32 × Int32 × Int32 × (Nat → Int32) × (Nat → Int32) × Int32 × Int32 × Int32 × Int32 × Int32 × Int32 × (Nat → Int32) × Int32 × Int32 × Int32 × Int32 × Int32 × (Nat → Int32) × Int32 × Int32 × Int32) : ∀ (v1 v2 v3 s0 : Int32) (y1_1 y1_2 : Nat → Int32) (x1_3 x1_4 x1_5 x1_6 x1_7 x1_8 : Int32) (y2_1 y2_2 : Nat → Int32) (x2_3 x2_4 x2_5 x2_6 x2_7 x2_8 : Int32) (y2_9 : Nat → Int32) (x2_10 x2_11 x2_12 x2_13 x2_14 : Int32) (y3_0 y3_1 : Nat → Int32) (x3_2 : Int32) (y3_3 : Nat → Int32) (x3_4 x3_5 x3_6 : Int32) (y4_0 y4_1 y4_2 : Nat → Int32) (x4_3 : Int32) (y5_0 y5_1 y5_2 y5_3 y5_4 : Nat → Int32) (x5_5 : Int32) (y6_0 y6_1 y6_2 y6_3 y6_4 : Nat → Int32) (x6_5 : Int32) (y7_0 y7_1 y7_2 y7_3 y7_4 : Nat → Int32) (x7_5 : Int32) (H : Heap) (locs : List Loc) (ls : Array Slot), g_X11_slips_40 v1 v2 v3 s0 y1_1 y1_2 x1_3 x1_4 x1_5 x1_6 x1_7 x1_8 y2_1 y2_2 x2_3 x2_4 x2_5 x2_6 x2_7 x2_8 y2_9 x2_10 x2_11 x2_12 x2_13 x2_14 y3_0 y3_1 x3_2 y3_3 x3_4 x3_5 x3_6 y4_0 y4_1 y4_2 x4_3 y5_0 y5_1 y5_2 y5_3 y5_4 x5_5 y6_0 y6_1 y6_2 y6_3 y6_4 x6_5 y7_0 y7_1 y7_2 y7_3 y7_4 x7_5 = some u → lv_has ls 5 [(0, .ref h0), (1, .int v1), (2, .int v2), (3, .int v3)] → VW D A s.heap (wY11 cs h0 o0_0 h4 h5 h6 h7 o0_3 h3 o0_5 o0_6 h1 h2 o0_9 o0_10 o0_11 o0_12 o0_13 o0_14 ra0 x0_15 ++ (wX0 cs h1 h4 ra1 y1_1 y1_2 x1_3 x1_4 x1_5 x1_6 x1_7 x1_8 y1_9 x1_10 x1_11 x1_12 x1_13 x1_14 ++ (wX0 cs h2 h4 ra2 y2_1 y2_2 x2_3 x2_4 x2_5 x2_6 x2_7 x2_8 y2_9 x2_10 x2_11 x2_12 x2_13 x2_14 ++ (wX6 cs h3 ra3 y3_0 y3_1 x3_2 y3_3 x3_4 x3_5 x3_6 ++ (wX10 cs h4 ra4 y4_0 y4_1 y4_2 x4_3 ++ (wX4 cs h5 ra5 y5_0 y5_1 y5_2 y5_3 y5_4 x5_5 x5_6 ++ (wX4 cs h6 ra6 y6_0 y6_1 y6_2 y6_3 y6_4 x6_5 x6_6 ++ (wX4 cs h7 ra7 y7_0 y7_1 y7_2 y7_3 y7_4 x7_5 x7_6)))))))) H locs → W p l e rm_X11_slips s m args below meth c H locs 0 0 (MQ below (QI D (wY11 cs h0 o0_0 h4 h5 h6 h7 o0_3 h3 o0_5 o0_6 h1 h2 o0_9 o0_10 o0_11 o0_12 o0_13 o0_14 ra0 x0_15 ++ (wX0 cs h1 h4 ra1 u.2.1 u.2.2.1 u.2.2.2.1 u.2.2.2.2.1 u.2.2.2.2.2.1 u.2.2.2.2.2.2.1 u.2.2.2.2.2.2.2.1 u.2.2.2.2.2.2.2.2.1 y1_9 x1_10 x1_11 x1_12 x1_13 x1_14 ++ (wX0 cs h2 h4 ra2 u.2.2.2.2.2.2.2.2.2.1 u.2.2.2.2.2.2.2.2.2.2.1 u.2.2.2.2.2.2.2.2.2.2.2.1 u.2.2.2.2.2.2.2.2.2.2.2.2.1 u.2.2.2.2.2.2.2.2.2.2.2.2.2.1 u.2.2.2.2.2.2.2.2.2.2.2.2.2.2.1 u.2.2.2.2.2.2.2.2.2.2.2.2.2.2.2.1 u.2.2.2.2.2.2.2.2.2.2.2.2.2.2.2.2.1 u.2.2.2.2.2.2.2.2.2.2.2.2.2.2.2.2.2.1 u.2.2.2.2.2.2.2.2.2.2.2.2.2.2.2.2.2.2.1 u.2.2.2.2.2.2.2.2.2.2.2.2.2.2.2.2.2.2.2.1 u.2.2.2.2.2.2.2.2.2.2.2.2.2.2.2.2.2.2.2.2.1 u.2.2.2.2.2.2.2.2.2.2.2.2.2.2.2.2.2.2.2.2.2.1 u.2.2.2.2.2.2.2.2.2.2.2.2.2.2.2.2.2.2.2.2.2.2.1 ++ (wX6 cs h3 ra3 y3_0 y3_1 x3_2 u.2.2.2.2.2.2.2.2.2.2.2.2.2.2.2.2.2.2.2.2.2.2.2.1 u.2.2.2.2.2.2.2.2.2.2.2.2.2.2.2.2.2.2.2.2.2.2.2.2.1 u.2.2.2.2.2.2.2.2.2.2.2.2.2.2.2.2.2.2.2.2.2.2.2.2.2.1 u.2.2.2.2.2.2.2.2.2.2.2.2.2.2.2.2.2.2.2.2.2.2.2.2.2.2 ++ (wX10 cs h4 ra4 y4_0 y4_1 y4_2 x4_3 ++ (wX4 cs h5 ra5 y5_0 y5_1 y5_2 y5_3 y5_4 x5_5 x5_6 ++ (wX4 cs h6 ra6 y6_0 y6_1 y6_2 y6_3 y6_4 x6_5 x6_6 ++ (wX4 cs h7 ra7 y7_0 y7_1 y7_2 y7_3 y7_4 x7_5 x7_6)))))))) A u.1) args s 0 0 A) (F0 m 40 ls [.int s0]) := by
  have hx := hC.1
  have hb := hC.2.1
  have hown := hC.2.2.2.1
  have hts := hC.2.2.2.2
  intro v1 v2 v3 s0 y1_1 y1_2 x1_3 x1_4 x1_5 x1_6 x1_7 x1_8 y2_1 y2_2 x2_3 x2_4 x2_5 x2_6 x2_7 x2_8 y2_9 x2_10 x2_11 x2_12 x2_13 x2_14 y3_0 y3_1 x3_2 y3_3 x3_4 x3_5 x3_6 y4_0 y4_1 y4_2 x4_3 y5_0 y5_1 y5_2 y5_3 y5_4 x5_5 y6_0 y6_1 y6_2 y6_3 y6_4 x6_5 y7_0 y7_1 y7_2 y7_3 y7_4 x7_5 H locs ls hf hl hV
  refine lv_istore (lv' := [(4, .int s0), (0, .ref h0), (1, .int v1), (2, .int v2), (3, .int v3)]) hx hb dX11_slips_40 hl (by decide) rfl (fun ls hl => ?_)
  refine lv_aload_n hx hb dX11_slips_42 rfl (lv_at hl 1 rfl) ?_
  refine lv_aload_n hx hb dX11_slips_43 rfl (lv_at hl 1 rfl) ?_
  refine q_get (v := .ref (ra0 2)) hC hK hV fl_X11_25 0 rfl rfl dX11_slips_44 ?_
  refine lv_iload_n hx hb dX11_slips_47 rfl (lv_at hl 2 rfl) ?_
  by_cases ht1 : v1 = 0
  · have hf := hf_t hf ht1
    refine q_aald (j := 0) hC hK hV 1 rfl ht1 (by decide) rfl dX11_slips_48 ?_
    refine lv_iload_n hx hb dX11_slips_49 rfl (lv_at hl 3 rfl) ?_
    refine lv_iload hx hb dX11_slips_50 (lv_at hl 0 rfl) ?_
    refine lv_iload_n hx hb dX11_slips_52 rfl (lv_at hl 4 rfl) ?_
    refine lv_iconst (v := 2) hx hb dX11_slips_53 (by decide) ?_
    refine lv_icmp_lt (tgt := 61) hx hb dX11_slips_54 (by decide) (fun hc => ?_) (fun hc => ?_)
    · have hf := hf_t hf hc
      refine lv_iconst (v := 0) hx hb dX11_slips_61 (by decide) ?_
      obtain ⟨u2, hc2, hf⟩ := hf_b hf
      refine aft_i (run_v hC (k_X11_unfelt l D cs h0 o0_0 h5 h6 h7 o0_3 o0_5 o0_6 o0_9 o0_10 o0_11 o0_12 o0_13 o0_14 ra0 h5 ra5 h1 ra1 h2 ra2 h3 ra3 h4 ra4 x0_15 y5_0 y5_1 y5_2 y5_3 y5_4 x5_5 x5_6 y1_1 y1_2 x1_3 x1_4 x1_5 x1_6 x1_7 x1_8 y1_9 x1_10 x1_11 x1_12 x1_13 x1_14 y2_1 y2_2 x2_3 x2_4 x2_5 x2_6 x2_7 x2_8 y2_9 x2_10 x2_11 x2_12 x2_13 x2_14 y3_0 y3_1 x3_2 y3_3 x3_4 x3_5 x3_6 y4_0 y4_1 y4_2 x4_3 v2 s0 0 u2 H.size hc2) cd_X11_unfelt cv_X11_unfelt ml_X11_244 rfl rfl ⟨by decide, by decide⟩ hK hV (fr_pre hK hV [0, 1, 18, 19, 20, 21, 22, 23, 2, 3, 4, 5, 6, 7, 8, 9, 10, 11, 12, 13, 14, 15, 16, 17] rfl (by decide)) (ci := 11) (q0 := 0) rfl rfl rfl rfl hl.1 rfl (Nat.le_of_ble_eq_true rfl) dX11_slips_62) hV (va_free hV.2.1 hV.2.2 hA [0, 1, 18, 19, 20, 21, 22, 23, 2, 3, 4, 5, 6, 7, 8, 9, 10, 11, 12, 13, 14, 15, 16, 17] rfl) (fr_jn (s := s) (wn := wY11 cs h0 o0_0 h4 h5 h6 h7 o0_3 h3 o0_5 o0_6 h1 h2 o0_9 o0_10 o0_11 o0_12 o0_13 o0_14 ra0 x0_15 ++ (wX0 cs h1 h4 ra1 u2.2.1 u2.2.2.1 u2.2.2.2.1 u2.2.2.2.2.1 u2.2.2.2.2.2.1 u2.2.2.2.2.2.2.1 u2.2.2.2.2.2.2.2.1 u2.2.2.2.2.2.2.2.2.1 y1_9 x1_10 x1_11 x1_12 x1_13 x1_14 ++ (wX0 cs h2 h4 ra2 u2.2.2.2.2.2.2.2.2.2.1 u2.2.2.2.2.2.2.2.2.2.2.1 u2.2.2.2.2.2.2.2.2.2.2.2.1 u2.2.2.2.2.2.2.2.2.2.2.2.2.1 u2.2.2.2.2.2.2.2.2.2.2.2.2.2.1 u2.2.2.2.2.2.2.2.2.2.2.2.2.2.2.1 u2.2.2.2.2.2.2.2.2.2.2.2.2.2.2.2.1 u2.2.2.2.2.2.2.2.2.2.2.2.2.2.2.2.2.1 u2.2.2.2.2.2.2.2.2.2.2.2.2.2.2.2.2.2.1 u2.2.2.2.2.2.2.2.2.2.2.2.2.2.2.2.2.2.2.1 u2.2.2.2.2.2.2.2.2.2.2.2.2.2.2.2.2.2.2.2.1 u2.2.2.2.2.2.2.2.2.2.2.2.2.2.2.2.2.2.2.2.2.1 u2.2.2.2.2.2.2.2.2.2.2.2.2.2.2.2.2.2.2.2.2.2.1 u2.2.2.2.2.2.2.2.2.2.2.2.2.2.2.2.2.2.2.2.2.2.2.1 ++ (wX6 cs h3 ra3 y3_0 y3_1 x3_2 u2.2.2.2.2.2.2.2.2.2.2.2.2.2.2.2.2.2.2.2.2.2.2.2.1 u2.2.2.2.2.2.2.2.2.2.2.2.2.2.2.2.2.2.2.2.2.2.2.2.2.1 u2.2.2.2.2.2.2.2.2.2.2.2.2.2.2.2.2.2.2.2.2.2.2.2.2.2.1 u2.2.2.2.2.2.2.2.2.2.2.2.2.2.2.2.2.2.2.2.2.2.2.2.2.2.2 ++ (wX10 cs h4 ra4 y4_0 y4_1 y4_2 x4_3 ++ (wX4 cs h5 ra5 y5_0 y5_1 y5_2 y5_3 y5_4 x5_5 x5_6 ++ (wX4 cs h6 ra6 y6_0 y6_1 y6_2 y6_3 y6_4 x6_5 x6_6 ++ (wX4 cs h7 ra7 y7_0 y7_1 y7_2 y7_3 y7_4 x7_5 x7_6)))))))) hV hA [0, 1, 18, 19, 20, 21, 22, 23, 2, 3, 4, 5, 6, 7, 8, 9, 10, 11, 12, 13, 14, 15, 16, 17] [24, 25, 26, 27, 28, 29, 30, 31, 32, 33, 34, 35] [12, 13, 20, 21, 22, 23, 24, 25, 26, 27, 28, 29, 30, 31, 32, 33, 34, 35, 14, 15, 16, 17, 18, 19, 0, 1, 2, 3, 4, 5, 6, 7, 8, 9, 10, 11] rfl rfl (by decide) (by decide) rfl (by decide)) (fun H locs hV => ?_)
      obtain rfl := Option.some.inj hf
      exact q_ret hC hr hlocks hV dX11_slips_65
    · have hf := hf_f hf hc
      refine lv_iconst (v := 1) hx hb dX11_slips_57 (by decide) ?_
      refine lv_goto (tgt := 62) hx hb dX11_slips_58 (by decide) ?_
      obtain ⟨u3, hc3, hf⟩ := hf_b hf
      refine aft_i (run_v hC (k_X11_unfelt l D cs h0 o0_0 h5 h6 h7 o0_3 o0_5 o0_6 o0_9 o0_10 o0_11 o0_12 o0_13 o0_14 ra0 h5 ra5 h1 ra1 h2 ra2 h3 ra3 h4 ra4 x0_15 y5_0 y5_1 y5_2 y5_3 y5_4 x5_5 x5_6 y1_1 y1_2 x1_3 x1_4 x1_5 x1_6 x1_7 x1_8 y1_9 x1_10 x1_11 x1_12 x1_13 x1_14 y2_1 y2_2 x2_3 x2_4 x2_5 x2_6 x2_7 x2_8 y2_9 x2_10 x2_11 x2_12 x2_13 x2_14 y3_0 y3_1 x3_2 y3_3 x3_4 x3_5 x3_6 y4_0 y4_1 y4_2 x4_3 v2 s0 1 u3 H.size hc3) cd_X11_unfelt cv_X11_unfelt ml_X11_244 rfl rfl ⟨by decide, by decide⟩ hK hV (fr_pre hK hV [0, 1, 18, 19, 20, 21, 22, 23, 2, 3, 4, 5, 6, 7, 8, 9, 10, 11, 12, 13, 14, 15, 16, 17] rfl (by decide)) (ci := 11) (q0 := 0) rfl rfl rfl rfl hl.1 rfl (Nat.le_of_ble_eq_true rfl) dX11_slips_62) hV (va_free hV.2.1 hV.2.2 hA [0, 1, 18, 19, 20, 21, 22, 23, 2, 3, 4, 5, 6, 7, 8, 9, 10, 11, 12, 13, 14, 15, 16, 17] rfl) (fr_jn (s := s) (wn := wY11 cs h0 o0_0 h4 h5 h6 h7 o0_3 h3 o0_5 o0_6 h1 h2 o0_9 o0_10 o0_11 o0_12 o0_13 o0_14 ra0 x0_15 ++ (wX0 cs h1 h4 ra1 u3.2.1 u3.2.2.1 u3.2.2.2.1 u3.2.2.2.2.1 u3.2.2.2.2.2.1 u3.2.2.2.2.2.2.1 u3.2.2.2.2.2.2.2.1 u3.2.2.2.2.2.2.2.2.1 y1_9 x1_10 x1_11 x1_12 x1_13 x1_14 ++ (wX0 cs h2 h4 ra2 u3.2.2.2.2.2.2.2.2.2.1 u3.2.2.2.2.2.2.2.2.2.2.1 u3.2.2.2.2.2.2.2.2.2.2.2.1 u3.2.2.2.2.2.2.2.2.2.2.2.2.1 u3.2.2.2.2.2.2.2.2.2.2.2.2.2.1 u3.2.2.2.2.2.2.2.2.2.2.2.2.2.2.1 u3.2.2.2.2.2.2.2.2.2.2.2.2.2.2.2.1 u3.2.2.2.2.2.2.2.2.2.2.2.2.2.2.2.2.1 u3.2.2.2.2.2.2.2.2.2.2.2.2.2.2.2.2.2.1 u3.2.2.2.2.2.2.2.2.2.2.2.2.2.2.2.2.2.2.1 u3.2.2.2.2.2.2.2.2.2.2.2.2.2.2.2.2.2.2.2.1 u3.2.2.2.2.2.2.2.2.2.2.2.2.2.2.2.2.2.2.2.2.1 u3.2.2.2.2.2.2.2.2.2.2.2.2.2.2.2.2.2.2.2.2.2.1 u3.2.2.2.2.2.2.2.2.2.2.2.2.2.2.2.2.2.2.2.2.2.2.1 ++ (wX6 cs h3 ra3 y3_0 y3_1 x3_2 u3.2.2.2.2.2.2.2.2.2.2.2.2.2.2.2.2.2.2.2.2.2.2.2.1 u3.2.2.2.2.2.2.2.2.2.2.2.2.2.2.2.2.2.2.2.2.2.2.2.2.1 u3.2.2.2.2.2.2.2.2.2.2.2.2.2.2.2.2.2.2.2.2.2.2.2.2.2.1 u3.2.2.2.2.2.2.2.2.2.2.2.2.2.2.2.2.2.2.2.2.2.2.2.2.2.2 ++ (wX10 cs h4 ra4 y4_0 y4_1 y4_2 x4_3 ++ (wX4 cs h5 ra5 y5_0 y5_1 y5_2 y5_3 y5_4 x5_5 x5_6 ++ (wX4 cs h6 ra6 y6_0 y6_1 y6_2 y6_3 y6_4 x6_5 x6_6 ++ (wX4 cs h7 ra7 y7_0 y7_1 y7_2 y7_3 y7_4 x7_5 x7_6)))))))) hV hA [0, 1, 18, 19, 20, 21, 22, 23, 2, 3, 4, 5, 6, 7, 8, 9, 10, 11, 12, 13, 14, 15, 16, 17] [24, 25, 26, 27, 28, 29, 30, 31, 32, 33, 34, 35] [12, 13, 20, 21, 22, 23, 24, 25, 26, 27, 28, 29, 30, 31, 32, 33, 34, 35, 14, 15, 16, 17, 18, 19, 0, 1, 2, 3, 4, 5, 6, 7, 8, 9, 10, 11] rfl rfl (by decide) (by decide) rfl (by decide)) (fun H locs hV => ?_)
      obtain rfl := Option.some.inj hf
      exact q_ret hC hr hlocks hV dX11_slips_65
  have hf := hf_f hf ht1
  by_cases ht4 : v1 = 1
  · have hf := hf_t hf ht4
    refine q_aald (j := 1) hC hK hV 1 rfl ht4 (by decide) rfl dX11_slips_48 ?_
    refine lv_iload_n hx hb dX11_slips_49 rfl (lv_at hl 3 rfl) ?_
    refine lv_iload hx hb dX11_slips_50 (lv_at hl 0 rfl) ?_
    refine lv_iload_n hx hb dX11_slips_52 rfl (lv_at hl 4 rfl) ?_
    refine lv_iconst (v := 2) hx hb dX11_slips_53 (by decide) ?_
    refine lv_icmp_lt (tgt := 61) hx hb dX11_slips_54 (by decide) (fun hc => ?_) (fun hc => ?_)
    · have hf := hf_t hf hc
      refine lv_iconst (v := 0) hx hb dX11_slips_61 (by decide) ?_
      obtain ⟨u5, hc5, hf⟩ := hf_b hf
      refine aft_i (run_v hC (k_X11_unfelt l D cs h0 o0_0 h5 h6 h7 o0_3 o0_5 o0_6 o0_9 o0_10 o0_11 o0_12 o0_13 o0_14 ra0 h6 ra6 h1 ra1 h2 ra2 h3 ra3 h4 ra4 x0_15 y6_0 y6_1 y6_2 y6_3 y6_4 x6_5 x6_6 y1_1 y1_2 x1_3 x1_4 x1_5 x1_6 x1_7 x1_8 y1_9 x1_10 x1_11 x1_12 x1_13 x1_14 y2_1 y2_2 x2_3 x2_4 x2_5 x2_6 x2_7 x2_8 y2_9 x2_10 x2_11 x2_12 x2_13 x2_14 y3_0 y3_1 x3_2 y3_3 x3_4 x3_5 x3_6 y4_0 y4_1 y4_2 x4_3 v2 s0 0 u5 H.size hc5) cd_X11_unfelt cv_X11_unfelt ml_X11_244 rfl rfl ⟨by decide, by decide⟩ hK hV (fr_pre hK hV [0, 1, 24, 25, 26, 27, 28, 29, 2, 3, 4, 5, 6, 7, 8, 9, 10, 11, 12, 13, 14, 15, 16, 17] rfl (by decide)) (ci := 11) (q0 := 0) rfl rfl rfl rfl hl.1 rfl (Nat.le_of_ble_eq_true rfl) dX11_slips_62) hV (va_free hV.2.1 hV.2.2 hA [0, 1, 24, 25, 26, 27, 28, 29, 2, 3, 4, 5, 6, 7, 8, 9, 10, 11, 12, 13, 14, 15, 16, 17] rfl) (fr_jn (s := s) (wn := wY11 cs h0 o0_0 h4 h5 h6 h7 o0_3 h3 o0_5 o0_6 h1 h2 o0_9 o0_10 o0_11 o0_12 o0_13 o0_14 ra0 x0_15 ++ (wX0 cs h1 h4 ra1 u5.2.1 u5.2.2.1 u5.2.2.2.1 u5.2.2.2.2.1 u5.2.2.2.2.2.1 u5.2.2.2.2.2.2.1 u5.2.2.2.2.2.2.2.1 u5.2.2.2.2.2.2.2.2.1 y1_9 x1_10 x1_11 x1_12 x1_13 x1_14 ++ (wX0 cs h2 h4 ra2 u5.2.2.2.2.2.2.2.2.2.1 u5.2.2.2.2.2.2.2.2.2.2.1 u5.2.2.2.2.2.2.2.2.2.2.2.1 u5.2.2.2.2.2.2.2.2.2.2.2.2.1 u5.2.2.2.2.2.2.2.2.2.2.2.2.2.1 u5.2.2.2.2.2.2.2.2.2.2.2.2.2.2.1 u5.2.2.2.2.2.2.2.2.2.2.2.2.2.2.2.1 u5.2.2.2.2.2.2.2.2.2.2.2.2.2.2.2.2.1 u5.2.2.2.2.2.2.2.2.2.2.2.2.2.2.2.2.2.1 u5.2.2.2.2.2.2.2.2.2.2.2.2.2.2.2.2.2.2.1 u5.2.2.2.2.2.2.2.2.2.2.2.2.2.2.2.2.2.2.2.1 u5.2.2.2.2.2.2.2.2.2.2.2.2.2.2.2.2.2.2.2.2.1 u5.2.2.2.2.2.2.2.2.2.2.2.2.2.2.2.2.2.2.2.2.2.1 u5.2.2.2.2.2.2.2.2.2.2.2.2.2.2.2.2.2.2.2.2.2.2.1 ++ (wX6 cs h3 ra3 y3_0 y3_1 x3_2 u5.2.2.2.2.2.2.2.2.2.2.2.2.2.2.2.2.2.2.2.2.2.2.2.1 u5.2.2.2.2.2.2.2.2.2.2.2.2.2.2.2.2.2.2.2.2.2.2.2.2.1 u5.2.2.2.2.2.2.2.2.2.2.2.2.2.2.2.2.2.2.2.2.2.2.2.2.2.1 u5.2.2.2.2.2.2.2.2.2.2.2.2.2.2.2.2.2.2.2.2.2.2.2.2.2.2 ++ (wX10 cs h4 ra4 y4_0 y4_1 y4_2 x4_3 ++ (wX4 cs h5 ra5 y5_0 y5_1 y5_2 y5_3 y5_4 x5_5 x5_6 ++ (wX4 cs h6 ra6 y6_0 y6_1 y6_2 y6_3 y6_4 x6_5 x6_6 ++ (wX4 cs h7 ra7 y7_0 y7_1 y7_2 y7_3 y7_4 x7_5 x7_6)))))))) hV hA [0, 1, 24, 25, 26, 27, 28, 29, 2, 3, 4, 5, 6, 7, 8, 9, 10, 11, 12, 13, 14, 15, 16, 17] [18, 19, 20, 21, 22, 23, 30, 31, 32, 33, 34, 35] [12, 13, 20, 21, 22, 23, 24, 25, 26, 27, 28, 29, 30, 31, 32, 33, 34, 35, 0, 1, 2, 3, 4, 5, 14, 15, 16, 17, 18, 19, 6, 7, 8, 9, 10, 11] rfl rfl (by decide) (by decide) rfl (by decide)) (fun H locs hV => ?_)
      obtain rfl := Option.some.inj hf
      exact q_ret hC hr hlocks hV dX11_slips_65
    · have hf := hf_f hf hc
      refine lv_iconst (v := 1) hx hb dX11_slips_57 (by decide) ?_
      refine lv_goto (tgt := 62) hx hb dX11_slips_58 (by decide) ?_
      obtain ⟨u6, hc6, hf⟩ := hf_b hf
      refine aft_i (run_v hC (k_X11_unfelt l D cs h0 o0_0 h5 h6 h7 o0_3 o0_5 o0_6 o0_9 o0_10 o0_11 o0_12 o0_13 o0_14 ra0 h6 ra6 h1 ra1 h2 ra2 h3 ra3 h4 ra4 x0_15 y6_0 y6_1 y6_2 y6_3 y6_4 x6_5 x6_6 y1_1 y1_2 x1_3 x1_4 x1_5 x1_6 x1_7 x1_8 y1_9 x1_10 x1_11 x1_12 x1_13 x1_14 y2_1 y2_2 x2_3 x2_4 x2_5 x2_6 x2_7 x2_8 y2_9 x2_10 x2_11 x2_12 x2_13 x2_14 y3_0 y3_1 x3_2 y3_3 x3_4 x3_5 x3_6 y4_0 y4_1 y4_2 x4_3 v2 s0 1 u6 H.size hc6) cd_X11_unfelt cv_X11_unfelt ml_X11_244 rfl rfl ⟨by decide, by decide⟩ hK hV (fr_pre hK hV [0, 1, 24, 25, 26, 27, 28, 29, 2, 3, 4, 5, 6, 7, 8, 9, 10, 11, 12, 13, 14, 15, 16, 17] rfl (by decide)) (ci := 11) (q0 := 0) rfl rfl rfl rfl hl.1 rfl (Nat.le_of_ble_eq_true rfl) dX11_slips_62) hV (va_free hV.2.1 hV.2.2 hA [0, 1, 24, 25, 26, 27, 28, 29, 2, 3, 4, 5, 6, 7, 8, 9, 10, 11, 12, 13, 14, 15, 16, 17] rfl) (fr_jn (s := s) (wn := wY11 cs h0 o0_0 h4 h5 h6 h7 o0_3 h3 o0_5 o0_6 h1 h2 o0_9 o0_10 o0_11 o0_12 o0_13 o0_14 ra0 x0_15 ++ (wX0 cs h1 h4 ra1 u6.2.1 u6.2.2.1 u6.2.2.2.1 u6.2.2.2.2.1 u6.2.2.2.2.2.1 u6.2.2.2.2.2.2.1 u6.2.2.2.2.2.2.2.1 u6.2.2.2.2.2.2.2.2.1 y1_9 x1_10 x1_11 x1_12 x1_13 x1_14 ++ (wX0 cs h2 h4 ra2 u6.2.2.2.2.2.2.2.2.2.1 u6.2.2.2.2.2.2.2.2.2.2.1 u6.2.2.2.2.2.2.2.2.2.2.2.1 u6.2.2.2.2.2.2.2.2.2.2.2.2.1 u6.2.2.2.2.2.2.2.2.2.2.2.2.2.1 u6.2.2.2.2.2.2.2.2.2.2.2.2.2.2.1 u6.2.2.2.2.2.2.2.2.2.2.2.2.2.2.2.1 u6.2.2.2.2.2.2.2.2.2.2.2.2.2.2.2.2.1 u6.2.2.2.2.2.2.2.2.2.2.2.2.2.2.2.2.2.1 u6.2.2.2.2.2.2.2.2.2.2.2.2.2.2.2.2.2.2.1 u6.2.2.2.2.2.2.2.2.2.2.2.2.2.2.2.2.2.2.2.1 u6.2.2.2.2.2.2.2.2.2.2.2.2.2.2.2.2.2.2.2.2.1 u6.2.2.2.2.2.2.2.2.2.2.2.2.2.2.2.2.2.2.2.2.2.1 u6.2.2.2.2.2.2.2.2.2.2.2.2.2.2.2.2.2.2.2.2.2.2.1 ++ (wX6 cs h3 ra3 y3_0 y3_1 x3_2 u6.2.2.2.2.2.2.2.2.2.2.2.2.2.2.2.2.2.2.2.2.2.2.2.1 u6.2.2.2.2.2.2.2.2.2.2.2.2.2.2.2.2.2.2.2.2.2.2.2.2.1 u6.2.2.2.2.2.2.2.2.2.2.2.2.2.2.2.2.2.2.2.2.2.2.2.2.2.1 u6.2.2.2.2.2.2.2.2.2.2.2.2.2.2.2.2.2.2.2.2.2.2.2.2.2.2 ++ (wX10 cs h4 ra4 y4_0 y4_1 y4_2 x4_3 ++ (wX4 cs h5 ra5 y5_0 y5_1 y5_2 y5_3 y5_4 x5_5 x5_6 ++ (wX4 cs h6 ra6 y6_0 y6_1 y6_2 y6_3 y6_4 x6_5 x6_6 ++ (wX4 cs h7 ra7 y7_0 y7_1 y7_2 y7_3 y7_4 x7_5 x7_6)))))))) hV hA [0, 1, 24, 25, 26, 27, 28, 29, 2, 3, 4, 5, 6, 7, 8, 9, 10, 11, 12, 13, 14, 15, 16, 17] [18, 19, 20, 21, 22, 23, 30, 31, 32, 33, 34, 35] [12, 13, 20, 21, 22, 23, 24, 25, 26, 27, 28, 29, 30, 31, 32, 33, 34, 35, 0, 1, 2, 3, 4, 5, 14, 15, 16, 17, 18, 19, 6, 7, 8, 9, 10, 11] rfl rfl (by decide) (by decide) rfl (by decide)) (fun H locs hV => ?_)
      obtain rfl := Option.some.inj hf
      exact q_ret hC hr hlocks hV dX11_slips_65
  have hf := hf_f hf ht4
  by_cases ht7 : v1 = 2
  · have hf := hf_t hf ht7
    refine q_aald (j := 2) hC hK hV 1 rfl ht7 (by decide) rfl dX11_slips_48 ?_
    refine lv_iload_n hx hb dX11_slips_49 rfl (lv_at hl 3 rfl) ?_
    refine lv_iload hx hb dX11_slips_50 (lv_at hl 0 rfl) ?_
    refine lv_iload_n hx hb dX11_slips_52 rfl (lv_at hl 4 rfl) ?_
    refine lv_iconst (v := 2) hx hb dX11_slips_53 (by decide) ?_
    refine lv_icmp_lt (tgt := 61) hx hb dX11_slips_54 (by decide) (fun hc => ?_) (fun hc => ?_)
    · have hf := hf_t hf hc
      refine lv_iconst (v := 0) hx hb dX11_slips_61 (by decide) ?_
      obtain ⟨u8, hc8, hf⟩ := hf_b hf
      refine aft_i (run_v hC (k_X11_unfelt l D cs h0 o0_0 h5 h6 h7 o0_3 o0_5 o0_6 o0_9 o0_10 o0_11 o0_12 o0_13 o0_14 ra0 h7 ra7 h1 ra1 h2 ra2 h3 ra3 h4 ra4 x0_15 y7_0 y7_1 y7_2 y7_3 y7_4 x7_5 x7_6 y1_1 y1_2 x1_3 x1_4 x1_5 x1_6 x1_7 x1_8 y1_9 x1_10 x1_11 x1_12 x1_13 x1_14 y2_1 y2_2 x2_3 x2_4 x2_5 x2_6 x2_7 x2_8 y2_9 x2_10 x2_11 x2_12 x2_13 x2_14 y3_0 y3_1 x3_2 y3_3 x3_4 x3_5 x3_6 y4_0 y4_1 y4_2 x4_3 v2 s0 0 u8 H.size hc8) cd_X11_unfelt cv_X11_unfelt ml_X11_244 rfl rfl ⟨by decide, by decide⟩ hK hV (fr_pre hK hV [0, 1, 30, 31, 32, 33, 34, 35, 2, 3, 4, 5, 6, 7, 8, 9, 10, 11, 12, 13, 14, 15, 16, 17] rfl (by decide)) (ci := 11) (q0 := 0) rfl rfl rfl rfl hl.1 rfl (Nat.le_of_ble_eq_true rfl) dX11_slips_62) hV (va_free hV.2.1 hV.2.2 hA [0, 1, 30, 31, 32, 33, 34, 35, 2, 3, 4, 5, 6, 7, 8, 9, 10, 11, 12, 13, 14, 15, 16, 17] rfl) (fr_jn (s := s) (wn := wY11 cs h0 o0_0 h4 h5 h6 h7 o0_3 h3 o0_5 o0_6 h1 h2 o0_9 o0_10 o0_11 o0_12 o0_13 o0_14 ra0 x0_15 ++ (wX0 cs h1 h4 ra1 u8.2.1 u8.2.2.1 u8.2.2.2.1 u8.2.2.2.2.1 u8.2.2.2.2.2.1 u8.2.2.2.2.2.2.1 u8.2.2.2.2.2.2.2.1 u8.2.2.2.2.2.2.2.2.1 y1_9 x1_10 x1_11 x1_12 x1_13 x1_14 ++ (wX0 cs h2 h4 ra2 u8.2.2.2.2.2.2.2.2.2.1 u8.2.2.2.2.2.2.2.2.2.2.1 u8.2.2.2.2.2.2.2.2.2.2.2.1 u8.2.2.2.2.2.2.2.2.2.2.2.2.1 u8.2.2.2.2.2.2.2.2.2.2.2.2.2.1 u8.2.2.2.2.2.2.2.2.2.2.2.2.2.2.1 u8.2.2.2.2.2.2.2.2.2.2.2.2.2.2.2.1 u8.2.2.2.2.2.2.2.2.2.2.2.2.2.2.2.2.1 u8.2.2.2.2.2.2.2.2.2.2.2.2.2.2.2.2.2.1 u8.2.2.2.2.2.2.2.2.2.2.2.2.2.2.2.2.2.2.1 u8.2.2.2.2.2.2.2.2.2.2.2.2.2.2.2.2.2.2.2.1 u8.2.2.2.2.2.2.2.2.2.2.2.2.2.2.2.2.2.2.2.2.1 u8.2.2.2.2.2.2.2.2.2.2.2.2.2.2.2.2.2.2.2.2.2.1 u8.2.2.2.2.2.2.2.2.2.2.2.2.2.2.2.2.2.2.2.2.2.2.1 ++ (wX6 cs h3 ra3 y3_0 y3_1 x3_2 u8.2.2.2.2.2.2.2.2.2.2.2.2.2.2.2.2.2.2.2.2.2.2.2.1 u8.2.2.2.2.2.2.2.2.2.2.2.2.2.2.2.2.2.2.2.2.2.2.2.2.1 u8.2.2.2.2.2.2.2.2.2.2.2.2.2.2.2.2.2.2.2.2.2.2.2.2.2.1 u8.2.2.2.2.2.2.2.2.2.2.2.2.2.2.2.2.2.2.2.2.2.2.2.2.2.2 ++ (wX10 cs h4 ra4 y4_0 y4_1 y4_2 x4_3 ++ (wX4 cs h5 ra5 y5_0 y5_1 y5_2 y5_3 y5_4 x5_5 x5_6 ++ (wX4 cs h6 ra6 y6_0 y6_1 y6_2 y6_3 y6_4 x6_5 x6_6 ++ (wX4 cs h7 ra7 y7_0 y7_1 y7_2 y7_3 y7_4 x7_5 x7_6)))))))) hV hA [0, 1, 30, 31, 32, 33, 34, 35, 2, 3, 4, 5, 6, 7, 8, 9, 10, 11, 12, 13, 14, 15, 16, 17] [18, 19, 20, 21, 22, 23, 24, 25, 26, 27, 28, 29] [12, 13, 20, 21, 22, 23, 24, 25, 26, 27, 28, 29, 30, 31, 32, 33, 34, 35, 0, 1, 2, 3, 4, 5, 6, 7, 8, 9, 10, 11, 14, 15, 16, 17, 18, 19] rfl rfl (by decide) (by decide) rfl (by decide)) (fun H locs hV => ?_)
      obtain rfl := Option.some.inj hf
      exact q_ret hC hr hlocks hV dX11_slips_65
    · have hf := hf_f hf hc
      refine lv_iconst (v := 1) hx hb dX11_slips_57 (by decide) ?_
      refine lv_goto (tgt := 62) hx hb dX11_slips_58 (by decide) ?_
      obtain ⟨u9, hc9, hf⟩ := hf_b hf
      refine aft_i (run_v hC (k_X11_unfelt l D cs h0 o0_0 h5 h6 h7 o0_3 o0_5 o0_6 o0_9 o0_10 o0_11 o0_12 o0_13 o0_14 ra0 h7 ra7 h1 ra1 h2 ra2 h3 ra3 h4 ra4 x0_15 y7_0 y7_1 y7_2 y7_3 y7_4 x7_5 x7_6 y1_1 y1_2 x1_3 x1_4 x1_5 x1_6 x1_7 x1_8 y1_9 x1_10 x1_11 x1_12 x1_13 x1_14 y2_1 y2_2 x2_3 x2_4 x2_5 x2_6 x2_7 x2_8 y2_9 x2_10 x2_11 x2_12 x2_13 x2_14 y3_0 y3_1 x3_2 y3_3 x3_4 x3_5 x3_6 y4_0 y4_1 y4_2 x4_3 v2 s0 1 u9 H.size hc9) cd_X11_unfelt cv_X11_unfelt ml_X11_244 rfl rfl ⟨by decide, by decide⟩ hK hV (fr_pre hK hV [0, 1, 30, 31, 32, 33, 34, 35, 2, 3, 4, 5, 6, 7, 8, 9, 10, 11, 12, 13, 14, 15, 16, 17] rfl (by decide)) (ci := 11) (q0 := 0) rfl rfl rfl rfl hl.1 rfl (Nat.le_of_ble_eq_true rfl) dX11_slips_62) hV (va_free hV.2.1 hV.2.2 hA [0, 1, 30, 31, 32, 33, 34, 35, 2, 3, 4, 5, 6, 7, 8, 9, 10, 11, 12, 13, 14, 15, 16, 17] rfl) (fr_jn (s := s) (wn := wY11 cs h0 o0_0 h4 h5 h6 h7 o0_3 h3 o0_5 o0_6 h1 h2 o0_9 o0_10 o0_11 o0_12 o0_13 o0_14 ra0 x0_15 ++ (wX0 cs h1 h4 ra1 u9.2.1 u9.2.2.1 u9.2.2.2.1 u9.2.2.2.2.1 u9.2.2.2.2.2.1 u9.2.2.2.2.2.2.1 u9.2.2.2.2.2.2.2.1 u9.2.2.2.2.2.2.2.2.1 y1_9 x1_10 x1_11 x1_12 x1_13 x1_14 ++ (wX0 cs h2 h4 ra2 u9.2.2.2.2.2.2.2.2.2.1 u9.2.2.2.2.2.2.2.2.2.2.1 u9.2.2.2.2.2.2.2.2.2.2.2.1 u9.2.2.2.2.2.2.2.2.2.2.2.2.1 u9.2.2.2.2.2.2.2.2.2.2.2.2.2.1 u9.2.2.2.2.2.2.2.2.2.2.2.2.2.2.1 u9.2.2.2.2.2.2.2.2.2.2.2.2.2.2.2.1 u9.2.2.2.2.2.2.2.2.2.2.2.2.2.2.2.2.1 u9.2.2.2.2.2.2.2.2.2.2.2.2.2.2.2.2.2.1 u9.2.2.2.2.2.2.2.2.2.2.2.2.2.2.2.2.2.2.1 u9.2.2.2.2.2.2.2.2.2.2.2.2.2.2.2.2.2.2.2.1 u9.2.2.2.2.2.2.2.2.2.2.2.2.2.2.2.2.2.2.2.2.1 u9.2.2.2.2.2.2.2.2.2.2.2.2.2.2.2.2.2.2.2.2.2.1 u9.2.2.2.2.2.2.2.2.2.2.2.2.2.2.2.2.2.2.2.2.2.2.1 ++ (wX6 cs h3 ra3 y3_0 y3_1 x3_2 u9.2.2.2.2.2.2.2.2.2.2.2.2.2.2.2.2.2.2.2.2.2.2.2.1 u9.2.2.2.2.2.2.2.2.2.2.2.2.2.2.2.2.2.2.2.2.2.2.2.2.1 u9.2.2.2.2.2.2.2.2.2.2.2.2.2.2.2.2.2.2.2.2.2.2.2.2.2.1 u9.2.2.2.2.2.2.2.2.2.2.2.2.2.2.2.2.2.2.2.2.2.2.2.2.2.2 ++ (wX10 cs h4 ra4 y4_0 y4_1 y4_2 x4_3 ++ (wX4 cs h5 ra5 y5_0 y5_1 y5_2 y5_3 y5_4 x5_5 x5_6 ++ (wX4 cs h6 ra6 y6_0 y6_1 y6_2 y6_3 y6_4 x6_5 x6_6 ++ (wX4 cs h7 ra7 y7_0 y7_1 y7_2 y7_3 y7_4 x7_5 x7_6)))))))) hV hA [0, 1, 30, 31, 32, 33, 34, 35, 2, 3, 4, 5, 6, 7, 8, 9, 10, 11, 12, 13, 14, 15, 16, 17] [18, 19, 20, 21, 22, 23, 24, 25, 26, 27, 28, 29] [12, 13, 20, 21, 22, 23, 24, 25, 26, 27, 28, 29, 30, 31, 32, 33, 34, 35, 0, 1, 2, 3, 4, 5, 6, 7, 8, 9, 10, 11, 14, 15, 16, 17, 18, 19] rfl rfl (by decide) (by decide) rfl (by decide)) (fun H locs hV => ?_)
      obtain rfl := Option.some.inj hf
      exact q_ret hC hr hlocks hV dX11_slips_65
  have hf := hf_f hf ht7
  exact hf_no (show (none : Option (Int32 × (Nat → Int32) × (Nat → Int32) × Int32 × Int32 × Int32 × Int32 × Int32 × Int32 × (Nat → Int32) × (Nat → Int32) × Int32 × Int32 × Int32 × Int32 × Int32 × Int32 × (Nat → Int32) × Int32 × Int32 × Int32 × Int32 × Int32 × (Nat → Int32) × Int32 × Int32 × Int32)) = some u from hf)
set_option maxHeartbeats 4000000 in
set_option maxRecDepth 100000 in
theorem b_X11_slips_0 {p : Program} {l : Launch} {e : Env} {s : State} {m : MethodId} {args : Array Value} {below : List Frame} {meth : Method} {c : Code} {D : va_G} {cs : Nat → ClassId} {A : Nat → Prop} (hC : CallFix p m c cX11_slips 5 s args gtbl RX11) (hr : meth.sig.returnType = (some .int)) (hlocks : meth.locks = false) (hK : KN D cs s) (hA : ∀ q : Nat, s.heap.size ≤ q → A q) (h0 : Nat) (o0_0 : Nat) (o0_3 : Nat) (o0_5 : Nat) (o0_6 : Nat) (o0_9 : Nat) (o0_10 : Nat) (o0_11 : Nat) (o0_12 : Nat) (o0_13 : Nat) (o0_14 : Nat) (ra0 : Nat → Nat) (h1 : Nat) (ra1 : Nat → Nat) (h2 : Nat) (ra2 : Nat → Nat) (h3 : Nat) (ra3 : Nat → Nat) (h4 : Nat) (ra4 : Nat → Nat) (h5 : Nat) (ra5 : Nat → Nat) (h6 : Nat) (ra6 : Nat → Nat) (h7 : Nat) (ra7 : Nat → Nat) (x0_15 : Int32) (y1_9 : Nat → Int32) (x1_10 x1_11 x1_12 x1_13 x1_14 x5_6 x6_6 x7_6 : Int32) (u : Int32 × (Nat → Int32) × (Nat → Int32) × Int32 × Int32 × Int32 × Int32 × Int32 × Int32 × (Nat → Int32) × (Nat → Int32) × Int32 × Int32 × Int32 × Int32 × Int32 × Int32 × (Nat → Int32) × Int32 × Int32 × Int32 × Int32 × Int32 × (Nat → Int32) × Int32 × Int32 × Int32) : ∀ (v1 v2 v3 : Int32) (y1_1 y1_2 : Nat → Int32) (x1_3 x1_4 x1_5 x1_6 x1_7 x1_8 : Int32) (y2_1 y2_2 : Nat → Int32) (x2_3 x2_4 x2_5 x2_6 x2_7 x2_8 : Int32) (y2_9 : Nat → Int32) (x2_10 x2_11 x2_12 x2_13 x2_14 : Int32) (y3_0 y3_1 : Nat → Int32) (x3_2 : Int32) (y3_3 : Nat → Int32) (x3_4 x3_5 x3_6 : Int32) (y4_0 y4_1 y4_2 : Nat → Int32) (x4_3 : Int32) (y5_0 y5_1 y5_2 y5_3 y5_4 : Nat → Int32) (x5_5 : Int32) (y6_0 y6_1 y6_2 y6_3 y6_4 : Nat → Int32) (x6_5 : Int32) (y7_0 y7_1 y7_2 y7_3 y7_4 : Nat → Int32) (x7_5 : Int32) (H : Heap) (locs : List Loc) (ls : Array Slot), g_X11_slips_0 v1 v2 v3 y1_1 y1_2 x1_3 x1_4 x1_5 x1_6 x1_7 x1_8 y2_1 y2_2 x2_3 x2_4 x2_5 x2_6 x2_7 x2_8 y2_9 x2_10 x2_11 x2_12 x2_13 x2_14 y3_0 y3_1 x3_2 y3_3 x3_4 x3_5 x3_6 y4_0 y4_1 y4_2 x4_3 y5_0 y5_1 y5_2 y5_3 y5_4 x5_5 y6_0 y6_1 y6_2 y6_3 y6_4 x6_5 y7_0 y7_1 y7_2 y7_3 y7_4 x7_5 = some u → lv_has ls 5 [(0, .ref h0), (1, .int v1), (2, .int v2), (3, .int v3)] → VW D A s.heap (wY11 cs h0 o0_0 h4 h5 h6 h7 o0_3 h3 o0_5 o0_6 h1 h2 o0_9 o0_10 o0_11 o0_12 o0_13 o0_14 ra0 x0_15 ++ (wX0 cs h1 h4 ra1 y1_1 y1_2 x1_3 x1_4 x1_5 x1_6 x1_7 x1_8 y1_9 x1_10 x1_11 x1_12 x1_13 x1_14 ++ (wX0 cs h2 h4 ra2 y2_1 y2_2 x2_3 x2_4 x2_5 x2_6 x2_7 x2_8 y2_9 x2_10 x2_11 x2_12 x2_13 x2_14 ++ (wX6 cs h3 ra3 y3_0 y3_1 x3_2 y3_3 x3_4 x3_5 x3_6 ++ (wX10 cs h4 ra4 y4_0 y4_1 y4_2 x4_3 ++ (wX4 cs h5 ra5 y5_0 y5_1 y5_2 y5_3 y5_4 x5_5 x5_6 ++ (wX4 cs h6 ra6 y6_0 y6_1 y6_2 y6_3 y6_4 x6_5 x6_6 ++ (wX4 cs h7 ra7 y7_0 y7_1 y7_2 y7_3 y7_4 x7_5 x7_6)))))))) H locs → W p l e rm_X11_slips s m args below meth c H locs 0 0 (MQ below (QI D (wY11 cs h0 o0_0 h4 h5 h6 h7 o0_3 h3 o0_5 o0_6 h1 h2 o0_9 o0_10 o0_11 o0_12 o0_13 o0_14 ra0 x0_15 ++ (wX0 cs h1 h4 ra1 u.2.1 u.2.2.1 u.2.2.2.1 u.2.2.2.2.1 u.2.2.2.2.2.1 u.2.2.2.2.2.2.1 u.2.2.2.2.2.2.2.1 u.2.2.2.2.2.2.2.2.1 y1_9 x1_10 x1_11 x1_12 x1_13 x1_14 ++ (wX0 cs h2 h4 ra2 u.2.2.2.2.2.2.2.2.2.1 u.2.2.2.2.2.2.2.2.2.2.1 u.2.2.2.2.2.2.2.2.2.2.2.1 u.2.2.2.2.2.2.2.2.2.2.2.2.1 u.2.2.2.2.2.2.2.2.2.2.2.2.2.1 u.2.2.2.2.2.2.2.2.2.2.2.2.2.2.1 u.2.2.2.2.2.2.2.2.2.2.2.2.2.2.2.1 u.2.2.2.2.2.2.2.2.2.2.2.2.2.2.2.2.1 u.2.2.2.2.2.2.2.2.2.2.2.2.2.2.2.2.2.1 u.2.2.2.2.2.2.2.2.2.2.2.2.2.2.2.2.2.2.1 u.2.2.2.2.2.2.2.2.2.2.2.2.2.2.2.2.2.2.2.1 u.2.2.2.2.2.2.2.2.2.2.2.2.2.2.2.2.2.2.2.2.1 u.2.2.2.2.2.2.2.2.2.2.2.2.2.2.2.2.2.2.2.2.2.1 u.2.2.2.2.2.2.2.2.2.2.2.2.2.2.2.2.2.2.2.2.2.2.1 ++ (wX6 cs h3 ra3 y3_0 y3_1 x3_2 u.2.2.2.2.2.2.2.2.2.2.2.2.2.2.2.2.2.2.2.2.2.2.2.1 u.2.2.2.2.2.2.2.2.2.2.2.2.2.2.2.2.2.2.2.2.2.2.2.2.1 u.2.2.2.2.2.2.2.2.2.2.2.2.2.2.2.2.2.2.2.2.2.2.2.2.2.1 u.2.2.2.2.2.2.2.2.2.2.2.2.2.2.2.2.2.2.2.2.2.2.2.2.2.2 ++ (wX10 cs h4 ra4 y4_0 y4_1 y4_2 x4_3 ++ (wX4 cs h5 ra5 y5_0 y5_1 y5_2 y5_3 y5_4 x5_5 x5_6 ++ (wX4 cs h6 ra6 y6_0 y6_1 y6_2 y6_3 y6_4 x6_5 x6_6 ++ (wX4 cs h7 ra7 y7_0 y7_1 y7_2 y7_3 y7_4 x7_5 x7_6)))))))) A u.1) args s 0 0 A) (F0 m 0 ls []) := by
  have hx := hC.1
  have hb := hC.2.1
  have hown := hC.2.2.2.1
  have hts := hC.2.2.2.2
  intro v1 v2 v3 y1_1 y1_2 x1_3 x1_4 x1_5 x1_6 x1_7 x1_8 y2_1 y2_2 x2_3 x2_4 x2_5 x2_6 x2_7 x2_8 y2_9 x2_10 x2_11 x2_12 x2_13 x2_14 y3_0 y3_1 x3_2 y3_3 x3_4 x3_5 x3_6 y4_0 y4_1 y4_2 x4_3 y5_0 y5_1 y5_2 y5_3 y5_4 x5_5 y6_0 y6_1 y6_2 y6_3 y6_4 x6_5 y7_0 y7_1 y7_2 y7_3 y7_4 x7_5 H locs ls hf hl hV
  refine lv_iload_n hx hb dX11_slips_0 rfl (lv_at hl 1 rfl) ?_
  obtain ⟨u1, hc1, hf⟩ := hf_b hf
  refine aft_i (run_s hC (k_X11_isRecipe l D cs v1 u1 H.size hc1) cd_X11_isRecipe st_X11_isRecipe ml_X11_134 rfl rfl ⟨by decide, by decide⟩ (fr_pre hK hV [] rfl (by decide)) rfl hl.1 rfl (Nat.le_of_ble_eq_true rfl) dX11_slips_1) hV (va_free hV.2.1 hV.2.2 hA [] rfl) (fr_jn (s := s) (wn := wY11 cs h0 o0_0 h4 h5 h6 h7 o0_3 h3 o0_5 o0_6 h1 h2 o0_9 o0_10 o0_11 o0_12 o0_13 o0_14 ra0 x0_15 ++ (wX0 cs h1 h4 ra1 y1_1 y1_2 x1_3 x1_4 x1_5 x1_6 x1_7 x1_8 y1_9 x1_10 x1_11 x1_12 x1_13 x1_14 ++ (wX0 cs h2 h4 ra2 y2_1 y2_2 x2_3 x2_4 x2_5 x2_6 x2_7 x2_8 y2_9 x2_10 x2_11 x2_12 x2_13 x2_14 ++ (wX6 cs h3 ra3 y3_0 y3_1 x3_2 y3_3 x3_4 x3_5 x3_6 ++ (wX10 cs h4 ra4 y4_0 y4_1 y4_2 x4_3 ++ (wX4 cs h5 ra5 y5_0 y5_1 y5_2 y5_3 y5_4 x5_5 x5_6 ++ (wX4 cs h6 ra6 y6_0 y6_1 y6_2 y6_3 y6_4 x6_5 x6_6 ++ (wX4 cs h7 ra7 y7_0 y7_1 y7_2 y7_3 y7_4 x7_5 x7_6)))))))) hV hA [] [0, 1, 2, 3, 4, 5, 6, 7, 8, 9, 10, 11, 12, 13, 14, 15, 16, 17, 18, 19, 20, 21, 22, 23, 24, 25, 26, 27, 28, 29, 30, 31, 32, 33, 34, 35] [0, 1, 2, 3, 4, 5, 6, 7, 8, 9, 10, 11, 12, 13, 14, 15, 16, 17, 18, 19, 20, 21, 22, 23, 24, 25, 26, 27, 28, 29, 30, 31, 32, 33, 34, 35] rfl rfl (by decide) (by decide) rfl (by decide)) (fun H locs hV => ?_)
  refine lv_if_eq (tgt := 27) hx hb dX11_slips_4 (by decide) (fun hc => ?_) (fun hc => ?_)
  · have hf := hf_t hf hc
    refine lv_iconst (v := (-1)) hx hb dX11_slips_27 (by decide) ?_
    obtain rfl := Option.some.inj hf
    exact q_ret hC hr hlocks hV dX11_slips_28
  · have hf := hf_f hf hc
    refine lv_iload_n hx hb dX11_slips_7 rfl (lv_at hl 2 rfl) ?_
    refine lv_iconst (v := 1) hx hb dX11_slips_8 (by decide) ?_
    refine lv_sipush (v := 2000) hx hb dX11_slips_9 (by decide) ?_
    obtain ⟨u2, hc2, hf⟩ := hf_b hf
    refine aft_i (run_s hC (k_X11_within l D cs v2 1 2000 u2 H.size hc2) cd_X11_within st_X11_within ml_X11_115 rfl rfl ⟨by decide, by decide⟩ (fr_pre hK hV [] rfl (by decide)) rfl hl.1 rfl (Nat.le_of_ble_eq_true rfl) dX11_slips_12) hV (va_free hV.2.1 hV.2.2 hA [] rfl) (fr_jn (s := s) (wn := wY11 cs h0 o0_0 h4 h5 h6 h7 o0_3 h3 o0_5 o0_6 h1 h2 o0_9 o0_10 o0_11 o0_12 o0_13 o0_14 ra0 x0_15 ++ (wX0 cs h1 h4 ra1 y1_1 y1_2 x1_3 x1_4 x1_5 x1_6 x1_7 x1_8 y1_9 x1_10 x1_11 x1_12 x1_13 x1_14 ++ (wX0 cs h2 h4 ra2 y2_1 y2_2 x2_3 x2_4 x2_5 x2_6 x2_7 x2_8 y2_9 x2_10 x2_11 x2_12 x2_13 x2_14 ++ (wX6 cs h3 ra3 y3_0 y3_1 x3_2 y3_3 x3_4 x3_5 x3_6 ++ (wX10 cs h4 ra4 y4_0 y4_1 y4_2 x4_3 ++ (wX4 cs h5 ra5 y5_0 y5_1 y5_2 y5_3 y5_4 x5_5 x5_6 ++ (wX4 cs h6 ra6 y6_0 y6_1 y6_2 y6_3 y6_4 x6_5 x6_6 ++ (wX4 cs h7 ra7 y7_0 y7_1 y7_2 y7_3 y7_4 x7_5 x7_6)))))))) hV hA [] [0, 1, 2, 3, 4, 5, 6, 7, 8, 9, 10, 11, 12, 13, 14, 15, 16, 17, 18, 19, 20, 21, 22, 23, 24, 25, 26, 27, 28, 29, 30, 31, 32, 33, 34, 35] [0, 1, 2, 3, 4, 5, 6, 7, 8, 9, 10, 11, 12, 13, 14, 15, 16, 17, 18, 19, 20, 21, 22, 23, 24, 25, 26, 27, 28, 29, 30, 31, 32, 33, 34, 35] rfl rfl (by decide) (by decide) rfl (by decide)) (fun H locs hV => ?_)
    refine lv_if_eq (tgt := 27) hx hb dX11_slips_15 (by decide) (fun hc => ?_) (fun hc => ?_)
    · have hf := hf_t hf hc
      refine lv_iconst (v := (-1)) hx hb dX11_slips_27 (by decide) ?_
      obtain rfl := Option.some.inj hf
      exact q_ret hC hr hlocks hV dX11_slips_28
    · have hf := hf_f hf hc
      refine lv_iload_n hx hb dX11_slips_18 rfl (lv_at hl 3 rfl) ?_
      refine lv_iconst (v := 0) hx hb dX11_slips_19 (by decide) ?_
      refine lv_iconst (v := 3) hx hb dX11_slips_20 (by decide) ?_
      obtain ⟨u3, hc3, hf⟩ := hf_b hf
      refine aft_i (run_s hC (k_X11_within l D cs v3 0 3 u3 H.size hc3) cd_X11_within st_X11_within ml_X11_115 rfl rfl ⟨by decide, by decide⟩ (fr_pre hK hV [] rfl (by decide)) rfl hl.1 rfl (Nat.le_of_ble_eq_true rfl) dX11_slips_21) hV (va_free hV.2.1 hV.2.2 hA [] rfl) (fr_jn (s := s) (wn := wY11 cs h0 o0_0 h4 h5 h6 h7 o0_3 h3 o0_5 o0_6 h1 h2 o0_9 o0_10 o0_11 o0_12 o0_13 o0_14 ra0 x0_15 ++ (wX0 cs h1 h4 ra1 y1_1 y1_2 x1_3 x1_4 x1_5 x1_6 x1_7 x1_8 y1_9 x1_10 x1_11 x1_12 x1_13 x1_14 ++ (wX0 cs h2 h4 ra2 y2_1 y2_2 x2_3 x2_4 x2_5 x2_6 x2_7 x2_8 y2_9 x2_10 x2_11 x2_12 x2_13 x2_14 ++ (wX6 cs h3 ra3 y3_0 y3_1 x3_2 y3_3 x3_4 x3_5 x3_6 ++ (wX10 cs h4 ra4 y4_0 y4_1 y4_2 x4_3 ++ (wX4 cs h5 ra5 y5_0 y5_1 y5_2 y5_3 y5_4 x5_5 x5_6 ++ (wX4 cs h6 ra6 y6_0 y6_1 y6_2 y6_3 y6_4 x6_5 x6_6 ++ (wX4 cs h7 ra7 y7_0 y7_1 y7_2 y7_3 y7_4 x7_5 x7_6)))))))) hV hA [] [0, 1, 2, 3, 4, 5, 6, 7, 8, 9, 10, 11, 12, 13, 14, 15, 16, 17, 18, 19, 20, 21, 22, 23, 24, 25, 26, 27, 28, 29, 30, 31, 32, 33, 34, 35] [0, 1, 2, 3, 4, 5, 6, 7, 8, 9, 10, 11, 12, 13, 14, 15, 16, 17, 18, 19, 20, 21, 22, 23, 24, 25, 26, 27, 28, 29, 30, 31, 32, 33, 34, 35] rfl rfl (by decide) (by decide) rfl (by decide)) (fun H locs hV => ?_)
      refine lv_if_ne (tgt := 29) hx hb dX11_slips_24 (by decide) (fun hc => ?_) (fun hc => ?_)
      · have hf := hf_f hf hc
        refine lv_iload_n hx hb dX11_slips_29 rfl (lv_at hl 3 rfl) ?_
        refine lv_iconst (v := 1) hx hb dX11_slips_30 (by decide) ?_
        refine lv_iand hx hb dX11_slips_31 ?_
        refine lv_if_ne (tgt := 39) hx hb dX11_slips_32 (by decide) (fun hc => ?_) (fun hc => ?_)
        · have hf := hf_f hf hc
          refine lv_iconst (v := 2) hx hb dX11_slips_39 (by decide) ?_
          exact b_X11_slips_40 hC hr hlocks hK hA h0 o0_0 o0_3 o0_5 o0_6 o0_9 o0_10 o0_11 o0_12 o0_13 o0_14 ra0 h1 ra1 h2 ra2 h3 ra3 h4 ra4 h5 ra5 h6 ra6 h7 ra7 x0_15 y1_9 x1_10 x1_11 x1_12 x1_13 x1_14 x5_6 x6_6 x7_6 u v1 v2 v3 2 y1_1 y1_2 x1_3 x1_4 x1_5 x1_6 x1_7 x1_8 y2_1 y2_2 x2_3 x2_4 x2_5 x2_6 x2_7 x2_8 y2_9 x2_10 x2_11 x2_12 x2_13 x2_14 y3_0 y3_1 x3_2 y3_3 x3_4 x3_5 x3_6 y4_0 y4_1 y4_2 x4_3 y5_0 y5_1 y5_2 y5_3 y5_4 x5_5 y6_0 y6_1 y6_2 y6_3 y6_4 x6_5 y7_0 y7_1 y7_2 y7_3 y7_4 x7_5 H locs ls hf (lv_sub hl [0, 1, 2, 3] rfl) hV
        · have hf := hf_t hf hc
          refine lv_iconst (v := 0) hx hb dX11_slips_35 (by decide) ?_
          refine lv_goto (tgt := 40) hx hb dX11_slips_36 (by decide) ?_
          exact b_X11_slips_40 hC hr hlocks hK hA h0 o0_0 o0_3 o0_5 o0_6 o0_9 o0_10 o0_11 o0_12 o0_13 o0_14 ra0 h1 ra1 h2 ra2 h3 ra3 h4 ra4 h5 ra5 h6 ra6 h7 ra7 x0_15 y1_9 x1_10 x1_11 x1_12 x1_13 x1_14 x5_6 x6_6 x7_6 u v1 v2 v3 0 y1_1 y1_2 x1_3 x1_4 x1_5 x1_6 x1_7 x1_8 y2_1 y2_2 x2_3 x2_4 x2_5 x2_6 x2_7 x2_8 y2_9 x2_10 x2_11 x2_12 x2_13 x2_14 y3_0 y3_1 x3_2 y3_3 x3_4 x3_5 x3_6 y4_0 y4_1 y4_2 x4_3 y5_0 y5_1 y5_2 y5_3 y5_4 x5_5 y6_0 y6_1 y6_2 y6_3 y6_4 x6_5 y7_0 y7_1 y7_2 y7_3 y7_4 x7_5 H locs ls hf (lv_sub hl [0, 1, 2, 3] rfl) hV
      · have hf := hf_t hf hc
        refine lv_iconst (v := (-1)) hx hb dX11_slips_27 (by decide) ?_
        obtain rfl := Option.some.inj hf
        exact q_ret hC hr hlocks hV dX11_slips_28
set_option maxRecDepth 100000 in
theorem k_X11_slips (l : Launch) (D : va_G) (cs : Nat → ClassId) (h0 : Nat) (o0_0 : Nat) (o0_3 : Nat) (o0_5 : Nat) (o0_6 : Nat) (o0_9 : Nat) (o0_10 : Nat) (o0_11 : Nat) (o0_12 : Nat) (o0_13 : Nat) (o0_14 : Nat) (ra0 : Nat → Nat) (h1 : Nat) (ra1 : Nat → Nat) (h2 : Nat) (ra2 : Nat → Nat) (h3 : Nat) (ra3 : Nat → Nat) (h4 : Nat) (ra4 : Nat → Nat) (h5 : Nat) (ra5 : Nat → Nat) (h6 : Nat) (ra6 : Nat → Nat) (h7 : Nat) (ra7 : Nat → Nat) (x0_15 : Int32) (y1_1 y1_2 : Nat → Int32) (x1_3 x1_4 x1_5 x1_6 x1_7 x1_8 : Int32) (y1_9 : Nat → Int32) (x1_10 x1_11 x1_12 x1_13 x1_14 : Int32) (y2_1 y2_2 : Nat → Int32) (x2_3 x2_4 x2_5 x2_6 x2_7 x2_8 : Int32) (y2_9 : Nat → Int32) (x2_10 x2_11 x2_12 x2_13 x2_14 : Int32) (y3_0 y3_1 : Nat → Int32) (x3_2 : Int32) (y3_3 : Nat → Int32) (x3_4 x3_5 x3_6 : Int32) (y4_0 y4_1 y4_2 : Nat → Int32) (x4_3 : Int32) (y5_0 y5_1 y5_2 y5_3 y5_4 : Nat → Int32) (x5_5 x5_6 : Int32) (y6_0 y6_1 y6_2 y6_3 y6_4 : Nat → Int32) (x6_5 x6_6 : Int32) (y7_0 y7_1 y7_2 y7_3 y7_4 : Nat → Int32) (x7_5 x7_6 : Int32) (v1 v2 v3 : Int32) (u : Int32 × (Nat → Int32) × (Nat → Int32) × Int32 × Int32 × Int32 × Int32 × Int32 × Int32 × (Nat → Int32) × (Nat → Int32) × Int32 × Int32 × Int32 × Int32 × Int32 × Int32 × (Nat → Int32) × Int32 × Int32 × Int32 × Int32 × Int32 × (Nat → Int32) × Int32 × Int32 × Int32) (sz : Nat) (hf : f_X11_slips v1 v2 v3 y1_1 y1_2 x1_3 x1_4 x1_5 x1_6 x1_7 x1_8 y2_1 y2_2 x2_3 x2_4 x2_5 x2_6 x2_7 x2_8 y2_9 x2_10 x2_11 x2_12 x2_13 x2_14 y3_0 y3_1 x3_2 y3_3 x3_4 x3_5 x3_6 y4_0 y4_1 y4_2 x4_3 y5_0 y5_1 y5_2 y5_3 y5_4 x5_5 y6_0 y6_1 y6_2 y6_3 y6_4 x6_5 y7_0 y7_1 y7_2 y7_3 y7_4 x7_5 = some u) : Met l yX11_slips (WS yX11_slips cX11_slips 5 (some .int)) rm_X11_slips (va_Pc [.ref h0, .int v1, .int v2, .int v3] (PR D cs (wY11 cs h0 o0_0 h4 h5 h6 h7 o0_3 h3 o0_5 o0_6 h1 h2 o0_9 o0_10 o0_11 o0_12 o0_13 o0_14 ra0 x0_15 ++ (wX0 cs h1 h4 ra1 y1_1 y1_2 x1_3 x1_4 x1_5 x1_6 x1_7 x1_8 y1_9 x1_10 x1_11 x1_12 x1_13 x1_14 ++ (wX0 cs h2 h4 ra2 y2_1 y2_2 x2_3 x2_4 x2_5 x2_6 x2_7 x2_8 y2_9 x2_10 x2_11 x2_12 x2_13 x2_14 ++ (wX6 cs h3 ra3 y3_0 y3_1 x3_2 y3_3 x3_4 x3_5 x3_6 ++ (wX10 cs h4 ra4 y4_0 y4_1 y4_2 x4_3 ++ (wX4 cs h5 ra5 y5_0 y5_1 y5_2 y5_3 y5_4 x5_5 x5_6 ++ (wX4 cs h6 ra6 y6_0 y6_1 y6_2 y6_3 y6_4 x6_5 x6_6 ++ (wX4 cs h7 ra7 y7_0 y7_1 y7_2 y7_3 y7_4 x7_5 x7_6)))))))) sz)) (QI D (wY11 cs h0 o0_0 h4 h5 h6 h7 o0_3 h3 o0_5 o0_6 h1 h2 o0_9 o0_10 o0_11 o0_12 o0_13 o0_14 ra0 x0_15 ++ (wX0 cs h1 h4 ra1 u.2.1 u.2.2.1 u.2.2.2.1 u.2.2.2.2.1 u.2.2.2.2.2.1 u.2.2.2.2.2.2.1 u.2.2.2.2.2.2.2.1 u.2.2.2.2.2.2.2.2.1 y1_9 x1_10 x1_11 x1_12 x1_13 x1_14 ++ (wX0 cs h2 h4 ra2 u.2.2.2.2.2.2.2.2.2.1 u.2.2.2.2.2.2.2.2.2.2.1 u.2.2.2.2.2.2.2.2.2.2.2.1 u.2.2.2.2.2.2.2.2.2.2.2.2.1 u.2.2.2.2.2.2.2.2.2.2.2.2.2.1 u.2.2.2.2.2.2.2.2.2.2.2.2.2.2.1 u.2.2.2.2.2.2.2.2.2.2.2.2.2.2.2.1 u.2.2.2.2.2.2.2.2.2.2.2.2.2.2.2.2.1 u.2.2.2.2.2.2.2.2.2.2.2.2.2.2.2.2.2.1 u.2.2.2.2.2.2.2.2.2.2.2.2.2.2.2.2.2.2.1 u.2.2.2.2.2.2.2.2.2.2.2.2.2.2.2.2.2.2.2.1 u.2.2.2.2.2.2.2.2.2.2.2.2.2.2.2.2.2.2.2.2.1 u.2.2.2.2.2.2.2.2.2.2.2.2.2.2.2.2.2.2.2.2.2.1 u.2.2.2.2.2.2.2.2.2.2.2.2.2.2.2.2.2.2.2.2.2.2.1 ++ (wX6 cs h3 ra3 y3_0 y3_1 x3_2 u.2.2.2.2.2.2.2.2.2.2.2.2.2.2.2.2.2.2.2.2.2.2.2.1 u.2.2.2.2.2.2.2.2.2.2.2.2.2.2.2.2.2.2.2.2.2.2.2.2.1 u.2.2.2.2.2.2.2.2.2.2.2.2.2.2.2.2.2.2.2.2.2.2.2.2.2.1 u.2.2.2.2.2.2.2.2.2.2.2.2.2.2.2.2.2.2.2.2.2.2.2.2.2.2 ++ (wX10 cs h4 ra4 y4_0 y4_1 y4_2 x4_3 ++ (wX4 cs h5 ra5 y5_0 y5_1 y5_2 y5_3 y5_4 x5_5 x5_6 ++ (wX4 cs h6 ra6 y6_0 y6_1 y6_2 y6_3 y6_4 x6_5 x6_6 ++ (wX4 cs h7 ra7 y7_0 y7_1 y7_2 y7_3 y7_4 x7_5 x7_6)))))))) (va_A (wY11 cs h0 o0_0 h4 h5 h6 h7 o0_3 h3 o0_5 o0_6 h1 h2 o0_9 o0_10 o0_11 o0_12 o0_13 o0_14 ra0 x0_15 ++ (wX0 cs h1 h4 ra1 y1_1 y1_2 x1_3 x1_4 x1_5 x1_6 x1_7 x1_8 y1_9 x1_10 x1_11 x1_12 x1_13 x1_14 ++ (wX0 cs h2 h4 ra2 y2_1 y2_2 x2_3 x2_4 x2_5 x2_6 x2_7 x2_8 y2_9 x2_10 x2_11 x2_12 x2_13 x2_14 ++ (wX6 cs h3 ra3 y3_0 y3_1 x3_2 y3_3 x3_4 x3_5 x3_6 ++ (wX10 cs h4 ra4 y4_0 y4_1 y4_2 x4_3 ++ (wX4 cs h5 ra5 y5_0 y5_1 y5_2 y5_3 y5_4 x5_5 x5_6 ++ (wX4 cs h6 ra6 y6_0 y6_1 y6_2 y6_3 y6_4 x6_5 x6_6 ++ (wX4 cs h7 ra7 y7_0 y7_1 y7_2 y7_3 y7_4 x7_5 x7_6)))))))) sz) u.1) 0 0 (va_A (wY11 cs h0 o0_0 h4 h5 h6 h7 o0_3 h3 o0_5 o0_6 h1 h2 o0_9 o0_10 o0_11 o0_12 o0_13 o0_14 ra0 x0_15 ++ (wX0 cs h1 h4 ra1 y1_1 y1_2 x1_3 x1_4 x1_5 x1_6 x1_7 x1_8 y1_9 x1_10 x1_11 x1_12 x1_13 x1_14 ++ (wX0 cs h2 h4 ra2 y2_1 y2_2 x2_3 x2_4 x2_5 x2_6 x2_7 x2_8 y2_9 x2_10 x2_11 x2_12 x2_13 x2_14 ++ (wX6 cs h3 ra3 y3_0 y3_1 x3_2 y3_3 x3_4 x3_5 x3_6 ++ (wX10 cs h4 ra4 y4_0 y4_1 y4_2 x4_3 ++ (wX4 cs h5 ra5 y5_0 y5_1 y5_2 y5_3 y5_4 x5_5 x5_6 ++ (wX4 cs h6 ra6 y6_0 y6_1 y6_2 y6_3 y6_4 x6_5 x6_6 ++ (wX4 cs h7 ra7 y7_0 y7_1 y7_2 y7_3 y7_4 x7_5 x7_6)))))))) sz) := by
  refine met_of RX11 rfl (by decide) (Nat.le_of_ble_eq_true rfl) ?_
  intro p e s m args below meth c hC hr hlocks hK hsz hA hV ls hl
  exact b_X11_slips_0 hC hr hlocks hK hA h0 o0_0 o0_3 o0_5 o0_6 o0_9 o0_10 o0_11 o0_12 o0_13 o0_14 ra0 h1 ra1 h2 ra2 h3 ra3 h4 ra4 h5 ra5 h6 ra6 h7 ra7 x0_15 y1_9 x1_10 x1_11 x1_12 x1_13 x1_14 x5_6 x6_6 x7_6 u v1 v2 v3 y1_1 y1_2 x1_3 x1_4 x1_5 x1_6 x1_7 x1_8 y2_1 y2_2 x2_3 x2_4 x2_5 x2_6 x2_7 x2_8 y2_9 x2_10 x2_11 x2_12 x2_13 x2_14 y3_0 y3_1 x3_2 y3_3 x3_4 x3_5 x3_6 y4_0 y4_1 y4_2 x4_3 y5_0 y5_1 y5_2 y5_3 y5_4 x5_5 y6_0 y6_1 y6_2 y6_3 y6_4 x6_5 y7_0 y7_1 y7_2 y7_3 y7_4 x7_5 s.heap [] ls hf (lv_sub hl [0, 1, 2, 3] rfl) hV
def rm_X11_sum : Room := { frames := 5, cells := 0, slots := 0, locals := 136 }
set_option maxHeartbeats 4000000 in
set_option maxRecDepth 100000 in
theorem b_X11_sum_0 {p : Program} {l : Launch} {e : Env} {s : State} {m : MethodId} {args : Array Value} {below : List Frame} {meth : Method} {c : Code} {D : va_G} {cs : Nat → ClassId} {A : Nat → Prop} (hC : CallFix p m c cX11_sum 5 s args gtbl RX11) (hr : meth.sig.returnType = (some .int)) (hlocks : meth.locks = false) (hK : KN D cs s) (hA : ∀ q : Nat, s.heap.size ≤ q → A q) (h0 : Nat) (o0_3 : Nat) (o0_4 : Nat) (o0_5 : Nat) (o0_6 : Nat) (o0_8 : Nat) (o0_9 : Nat) (o0_10 : Nat) (o0_11 : Nat) (o0_13 : Nat) (o0_14 : Nat) (ra0 : Nat → Nat) (h1 : Nat) (ra1 : Nat → Nat) (h2 : Nat) (ra2 : Nat → Nat) (h3 : Nat) (ra3 : Nat → Nat) (h4 : Nat) (ra4 : Nat → Nat) (h5 : Nat) (ra5 : Nat → Nat) (h6 : Nat) (ra6 : Nat → Nat) (h7 : Nat) (ra7 : Nat → Nat) (x0_15 : Int32) (y2_9 : Nat → Int32) (x3_2 x3_3 x3_4 : Int32) (y4_2 : Nat → Int32) (x5_6 x6_6 x7_6 : Int32) (u : Int32 × (Nat → Int32) × (Nat → Int32) × Int32 × Int32 × Int32 × Int32 × Int32 × Int32 × (Nat → Int32) × Int32 × Int32 × Int32 × Int32 × Int32 × (Nat → Int32) × (Nat → Int32) × (Nat → Int32) × (Nat → Int32) × (Nat → Int32) × (Nat → Int32) × (Nat → Int32) × Int32 × Int32) : ∀ (v1 v2 v3 v4 : Int32) (y1_1 y1_2 : Nat → Int32) (x1_3 x1_4 x1_5 x1_6 x1_7 x1_8 : Int32) (y1_9 : Nat → Int32) (x1_10 x1_11 x1_12 x1_13 x1_14 : Int32) (y2_2 y2_3 y2_4 y2_5 y2_6 y2_7 y2_8 : Nat → Int32) (x2_10 : Int32) (y3_0 : Nat → Int32) (x3_1 : Int32) (y4_0 y4_1 : Nat → Int32) (x4_3 : Int32) (y5_0 y5_1 y5_2 y5_3 y5_4 : Nat → Int32) (x5_5 : Int32) (y6_0 y6_1 y6_2 y6_3 y6_4 : Nat → Int32) (x6_5 : Int32) (y7_0 y7_1 y7_2 y7_3 y7_4 : Nat → Int32) (x7_5 : Int32) (H : Heap) (locs : List Loc) (ls : Array Slot), g_X11_sum_0 v1 v2 v3 v4 y1_1 y1_2 x1_3 x1_4 x1_5 x1_6 x1_7 x1_8 y1_9 x1_10 x1_11 x1_12 x1_13 x1_14 y2_2 y2_3 y2_4 y2_5 y2_6 y2_7 y2_8 x2_10 y3_0 x3_1 y4_0 y4_1 x4_3 y5_0 y5_1 y5_2 y5_3 y5_4 x5_5 y6_0 y6_1 y6_2 y6_3 y6_4 x6_5 y7_0 y7_1 y7_2 y7_3 y7_4 x7_5 = some u → lv_has ls 5 [(0, .ref h0), (1, .int v1), (2, .int v2), (3, .int v3), (4, .int v4)] → VW D A s.heap (wY11 cs h0 h3 h4 h5 h6 h7 o0_3 o0_4 o0_5 o0_6 h1 o0_8 o0_9 o0_10 o0_11 h2 o0_13 o0_14 ra0 x0_15 ++ (wX0 cs h1 h4 ra1 y1_1 y1_2 x1_3 x1_4 x1_5 x1_6 x1_7 x1_8 y1_9 x1_10 x1_11 x1_12 x1_13 x1_14 ++ (wX2 cs h2 h4 h1 ra2 y2_2 y2_3 y2_4 y2_5 y2_6 y2_7 y2_8 y2_9 x2_10 ++ (wX9 cs h3 ra3 y3_0 x3_1 x3_2 x3_3 x3_4 ++ (wX10 cs h4 ra4 y4_0 y4_1 y4_2 x4_3 ++ (wX4 cs h5 ra5 y5_0 y5_1 y5_2 y5_3 y5_4 x5_5 x5_6 ++ (wX4 cs h6 ra6 y6_0 y6_1 y6_2 y6_3 y6_4 x6_5 x6_6 ++ (wX4 cs h7 ra7 y7_0 y7_1 y7_2 y7_3 y7_4 x7_5 x7_6)))))))) H locs → W p l e rm_X11_sum s m args below meth c H locs 0 0 (MQ below (QI D (wY11 cs h0 h3 h4 h5 h6 h7 o0_3 o0_4 o0_5 o0_6 h1 o0_8 o0_9 o0_10 o0_11 h2 o0_13 o0_14 ra0 x0_15 ++ (wX0 cs h1 h4 ra1 u.2.1 u.2.2.1 u.2.2.2.1 u.2.2.2.2.1 u.2.2.2.2.2.1 u.2.2.2.2.2.2.1 u.2.2.2.2.2.2.2.1 u.2.2.2.2.2.2.2.2.1 u.2.2.2.2.2.2.2.2.2.1 u.2.2.2.2.2.2.2.2.2.2.1 u.2.2.2.2.2.2.2.2.2.2.2.1 u.2.2.2.2.2.2.2.2.2.2.2.2.1 u.2.2.2.2.2.2.2.2.2.2.2.2.2.1 u.2.2.2.2.2.2.2.2.2.2.2.2.2.2.1 ++ (wX2 cs h2 h4 h1 ra2 u.2.2.2.2.2.2.2.2.2.2.2.2.2.2.2.1 u.2.2.2.2.2.2.2.2.2.2.2.2.2.2.2.2.1 u.2.2.2.2.2.2.2.2.2.2.2.2.2.2.2.2.2.1 u.2.2.2.2.2.2.2.2.2.2.2.2.2.2.2.2.2.2.1 u.2.2.2.2.2.2.2.2.2.2.2.2.2.2.2.2.2.2.2.1 u.2.2.2.2.2.2.2.2.2.2.2.2.2.2.2.2.2.2.2.2.1 u.2.2.2.2.2.2.2.2.2.2.2.2.2.2.2.2.2.2.2.2.2.1 y2_9 u.2.2.2.2.2.2.2.2.2.2.2.2.2.2.2.2.2.2.2.2.2.2.1 ++ (wX9 cs h3 ra3 y3_0 u.2.2.2.2.2.2.2.2.2.2.2.2.2.2.2.2.2.2.2.2.2.2.2 x3_2 x3_3 x3_4 ++ (wX10 cs h4 ra4 y4_0 y4_1 y4_2 x4_3 ++ (wX4 cs h5 ra5 y5_0 y5_1 y5_2 y5_3 y5_4 x5_5 x5_6 ++ (wX4 cs h6 ra6 y6_0 y6_1 y6_2 y6_3 y6_4 x6_5 x6_6 ++ (wX4 cs h7 ra7 y7_0 y7_1 y7_2 y7_3 y7_4 x7_5 x7_6)))))))) A u.1) args s 0 0 A) (F0 m 0 ls []) := by
  have hx := hC.1
  have hb := hC.2.1
  have hown := hC.2.2.2.1
  have hts := hC.2.2.2.2
  intro v1 v2 v3 v4 y1_1 y1_2 x1_3 x1_4 x1_5 x1_6 x1_7 x1_8 y1_9 x1_10 x1_11 x1_12 x1_13 x1_14 y2_2 y2_3 y2_4 y2_5 y2_6 y2_7 y2_8 x2_10 y3_0 x3_1 y4_0 y4_1 x4_3 y5_0 y5_1 y5_2 y5_3 y5_4 x5_5 y6_0 y6_1 y6_2 y6_3 y6_4 x6_5 y7_0 y7_1 y7_2 y7_3 y7_4 x7_5 H locs ls hf hl hV
  refine lv_iload_n hx hb dX11_sum_0 rfl (lv_at hl 1 rfl) ?_
  refine lv_iconst (v := 0) hx hb dX11_sum_1 (by decide) ?_
  refine lv_bipush (v := 7) hx hb dX11_sum_2 (by decide) ?_
  obtain ⟨u1, hc1, hf⟩ := hf_b hf
  refine aft_i (run_s hC (k_X11_within l D cs v1 0 7 u1 H.size hc1) cd_X11_within st_X11_within ml_X11_115 rfl rfl ⟨by decide, by decide⟩ (fr_pre hK hV [] rfl (by decide)) rfl hl.1 rfl (Nat.le_of_ble_eq_true rfl) dX11_sum_4) hV (va_free hV.2.1 hV.2.2 hA [] rfl) (fr_jn (s := s) (wn := wY11 cs h0 h3 h4 h5 h6 h7 o0_3 o0_4 o0_5 o0_6 h1 o0_8 o0_9 o0_10 o0_11 h2 o0_13 o0_14 ra0 x0_15 ++ (wX0 cs h1 h4 ra1 y1_1 y1_2 x1_3 x1_4 x1_5 x1_6 x1_7 x1_8 y1_9 x1_10 x1_11 x1_12 x1_13 x1_14 ++ (wX2 cs h2 h4 h1 ra2 y2_2 y2_3 y2_4 y2_5 y2_6 y2_7 y2_8 y2_9 x2_10 ++ (wX9 cs h3 ra3 y3_0 x3_1 x3_2 x3_3 x3_4 ++ (wX10 cs h4 ra4 y4_0 y4_1 y4_2 x4_3 ++ (wX4 cs h5 ra5 y5_0 y5_1 y5_2 y5_3 y5_4 x5_5 x5_6 ++ (wX4 cs h6 ra6 y6_0 y6_1 y6_2 y6_3 y6_4 x6_5 x6_6 ++ (wX4 cs h7 ra7 y7_0 y7_1 y7_2 y7_3 y7_4 x7_5 x7_6)))))))) hV hA [] [0, 1, 2, 3, 4, 5, 6, 7, 8, 9, 10, 11, 12, 13, 14, 15, 16, 17, 18, 19, 20, 21, 22, 23, 24, 25, 26, 27, 28, 29, 30, 31, 32, 33, 34, 35, 36, 37, 38] [0, 1, 2, 3, 4, 5, 6, 7, 8, 9, 10, 11, 12, 13, 14, 15, 16, 17, 18, 19, 20, 21, 22, 23, 24, 25, 26, 27, 28, 29, 30, 31, 32, 33, 34, 35, 36, 37, 38] rfl rfl (by decide) (by decide) rfl (by decide)) (fun H locs hV => ?_)
  refine lv_if_eq (tgt := 29) hx hb dX11_sum_7 (by decide) (fun hc => ?_) (fun hc => ?_)
  · have hf := hf_t hf hc
    refine lv_iconst (v := (-1)) hx hb dX11_sum_29 (by decide) ?_
    obtain rfl := Option.some.inj hf
    exact q_ret hC hr hlocks hV dX11_sum_30
  · have hf := hf_f hf hc
    refine lv_iload_n hx hb dX11_sum_10 rfl (lv_at hl 2 rfl) ?_
    obtain ⟨u2, hc2, hf⟩ := hf_b hf
    refine aft_i (run_s hC (k_X11_isRecipe l D cs v2 u2 H.size hc2) cd_X11_isRecipe st_X11_isRecipe ml_X11_134 rfl rfl ⟨by decide, by decide⟩ (fr_pre hK hV [] rfl (by decide)) rfl hl.1 rfl (Nat.le_of_ble_eq_true rfl) dX11_sum_11) hV (va_free hV.2.1 hV.2.2 hA [] rfl) (fr_jn (s := s) (wn := wY11 cs h0 h3 h4 h5 h6 h7 o0_3 o0_4 o0_5 o0_6 h1 o0_8 o0_9 o0_10 o0_11 h2 o0_13 o0_14 ra0 x0_15 ++ (wX0 cs h1 h4 ra1 y1_1 y1_2 x1_3 x1_4 x1_5 x1_6 x1_7 x1_8 y1_9 x1_10 x1_11 x1_12 x1_13 x1_14 ++ (wX2 cs h2 h4 h1 ra2 y2_2 y2_3 y2_4 y2_5 y2_6 y2_7 y2_8 y2_9 x2_10 ++ (wX9 cs h3 ra3 y3_0 x3_1 x3_2 x3_3 x3_4 ++ (wX10 cs h4 ra4 y4_0 y4_1 y4_2 x4_3 ++ (wX4 cs h5 ra5 y5_0 y5_1 y5_2 y5_3 y5_4 x5_5 x5_6 ++ (wX4 cs h6 ra6 y6_0 y6_1 y6_2 y6_3 y6_4 x6_5 x6_6 ++ (wX4 cs h7 ra7 y7_0 y7_1 y7_2 y7_3 y7_4 x7_5 x7_6)))))))) hV hA [] [0, 1, 2, 3, 4, 5, 6, 7, 8, 9, 10, 11, 12, 13, 14, 15, 16, 17, 18, 19, 20, 21, 22, 23, 24, 25, 26, 27, 28, 29, 30, 31, 32, 33, 34, 35, 36, 37, 38] [0, 1, 2, 3, 4, 5, 6, 7, 8, 9, 10, 11, 12, 13, 14, 15, 16, 17, 18, 19, 20, 21, 22, 23, 24, 25, 26, 27, 28, 29, 30, 31, 32, 33, 34, 35, 36, 37, 38] rfl rfl (by decide) (by decide) rfl (by decide)) (fun H locs hV => ?_)
    refine lv_if_eq (tgt := 29) hx hb dX11_sum_14 (by decide) (fun hc => ?_) (fun hc => ?_)
    · have hf := hf_t hf hc
      refine lv_iconst (v := (-1)) hx hb dX11_sum_29 (by decide) ?_
      obtain rfl := Option.some.inj hf
      exact q_ret hC hr hlocks hV dX11_sum_30
    · have hf := hf_f hf hc
      refine lv_aload_n hx hb dX11_sum_17 rfl (lv_at hl 0 rfl) ?_
      refine q_get (v := .ref h3) hC hK hV fl_X11_10 0 rfl rfl dX11_sum_18 ?_
      refine q_get (v := .int x3_1) hC hK hV fl_X11_131 15 rfl rfl dX11_sum_21 ?_
      refine lv_bipush (v := 6) hx hb dX11_sum_24 (by decide) ?_
      refine lv_icmp_ge (tgt := 31) hx hb dX11_sum_26 (by decide) (fun hc => ?_) (fun hc => ?_)
      · have hf := hf_t hf hc
        refine lv_iload_n hx hb dX11_sum_31 rfl (lv_at hl 3 rfl) ?_
        refine lv_iconst (v := 0) hx hb dX11_sum_32 (by decide) ?_
        refine lv_sipush (v := 9999) hx hb dX11_sum_33 (by decide) ?_
        obtain ⟨u3, hc3, hf⟩ := hf_b hf
        refine aft_i (run_s hC (k_X11_within l D cs v3 0 9999 u3 H.size hc3) cd_X11_within st_X11_within ml_X11_115 rfl rfl ⟨by decide, by decide⟩ (fr_pre hK hV [] rfl (by decide)) rfl hl.1 rfl (Nat.le_of_ble_eq_true rfl) dX11_sum_36) hV (va_free hV.2.1 hV.2.2 hA [] rfl) (fr_jn (s := s) (wn := wY11 cs h0 h3 h4 h5 h6 h7 o0_3 o0_4 o0_5 o0_6 h1 o0_8 o0_9 o0_10 o0_11 h2 o0_13 o0_14 ra0 x0_15 ++ (wX0 cs h1 h4 ra1 y1_1 y1_2 x1_3 x1_4 x1_5 x1_6 x1_7 x1_8 y1_9 x1_10 x1_11 x1_12 x1_13 x1_14 ++ (wX2 cs h2 h4 h1 ra2 y2_2 y2_3 y2_4 y2_5 y2_6 y2_7 y2_8 y2_9 x2_10 ++ (wX9 cs h3 ra3 y3_0 x3_1 x3_2 x3_3 x3_4 ++ (wX10 cs h4 ra4 y4_0 y4_1 y4_2 x4_3 ++ (wX4 cs h5 ra5 y5_0 y5_1 y5_2 y5_3 y5_4 x5_5 x5_6 ++ (wX4 cs h6 ra6 y6_0 y6_1 y6_2 y6_3 y6_4 x6_5 x6_6 ++ (wX4 cs h7 ra7 y7_0 y7_1 y7_2 y7_3 y7_4 x7_5 x7_6)))))))) hV hA [] [0, 1, 2, 3, 4, 5, 6, 7, 8, 9, 10, 11, 12, 13, 14, 15, 16, 17, 18, 19, 20, 21, 22, 23, 24, 25, 26, 27, 28, 29, 30, 31, 32, 33, 34, 35, 36, 37, 38] [0, 1, 2, 3, 4, 5, 6, 7, 8, 9, 10, 11, 12, 13, 14, 15, 16, 17, 18, 19, 20, 21, 22, 23, 24, 25, 26, 27, 28, 29, 30, 31, 32, 33, 34, 35, 36, 37, 38] rfl rfl (by decide) (by decide) rfl (by decide)) (fun H locs hV => ?_)
        refine lv_if_eq (tgt := 53) hx hb dX11_sum_39 (by decide) (fun hc => ?_) (fun hc => ?_)
        · have hf := hf_t hf hc
          refine lv_iconst (v := (-1)) hx hb dX11_sum_53 (by decide) ?_
          obtain rfl := Option.some.inj hf
          exact q_ret hC hr hlocks hV dX11_sum_54
        · have hf := hf_f hf hc
          refine lv_iload hx hb dX11_sum_42 (lv_at hl 4 rfl) ?_
          refine lv_iconst (v := 0) hx hb dX11_sum_44 (by decide) ?_
          refine lv_bipush (v := 99) hx hb dX11_sum_45 (by decide) ?_
          obtain ⟨u4, hc4, hf⟩ := hf_b hf
          refine aft_i (run_s hC (k_X11_within l D cs v4 0 99 u4 H.size hc4) cd_X11_within st_X11_within ml_X11_115 rfl rfl ⟨by decide, by decide⟩ (fr_pre hK hV [] rfl (by decide)) rfl hl.1 rfl (Nat.le_of_ble_eq_true rfl) dX11_sum_47) hV (va_free hV.2.1 hV.2.2 hA [] rfl) (fr_jn (s := s) (wn := wY11 cs h0 h3 h4 h5 h6 h7 o0_3 o0_4 o0_5 o0_6 h1 o0_8 o0_9 o0_10 o0_11 h2 o0_13 o0_14 ra0 x0_15 ++ (wX0 cs h1 h4 ra1 y1_1 y1_2 x1_3 x1_4 x1_5 x1_6 x1_7 x1_8 y1_9 x1_10 x1_11 x1_12 x1_13 x1_14 ++ (wX2 cs h2 h4 h1 ra2 y2_2 y2_3 y2_4 y2_5 y2_6 y2_7 y2_8 y2_9 x2_10 ++ (wX9 cs h3 ra3 y3_0 x3_1 x3_2 x3_3 x3_4 ++ (wX10 cs h4 ra4 y4_0 y4_1 y4_2 x4_3 ++ (wX4 cs h5 ra5 y5_0 y5_1 y5_2 y5_3 y5_4 x5_5 x5_6 ++ (wX4 cs h6 ra6 y6_0 y6_1 y6_2 y6_3 y6_4 x6_5 x6_6 ++ (wX4 cs h7 ra7 y7_0 y7_1 y7_2 y7_3 y7_4 x7_5 x7_6)))))))) hV hA [] [0, 1, 2, 3, 4, 5, 6, 7, 8, 9, 10, 11, 12, 13, 14, 15, 16, 17, 18, 19, 20, 21, 22, 23, 24, 25, 26, 27, 28, 29, 30, 31, 32, 33, 34, 35, 36, 37, 38] [0, 1, 2, 3, 4, 5, 6, 7, 8, 9, 10, 11, 12, 13, 14, 15, 16, 17, 18, 19, 20, 21, 22, 23, 24, 25, 26, 27, 28, 29, 30, 31, 32, 33, 34, 35, 36, 37, 38] rfl rfl (by decide) (by decide) rfl (by decide)) (fun H locs hV => ?_)
          refine lv_if_ne (tgt := 55) hx hb dX11_sum_50 (by decide) (fun hc => ?_) (fun hc => ?_)
          · have hf := hf_f hf hc
            refine lv_aload_n hx hb dX11_sum_55 rfl (lv_at hl 0 rfl) ?_
            refine q_get (v := .ref h3) hC hK hV fl_X11_10 0 rfl rfl dX11_sum_56 ?_
            refine lv_aload_n hx hb dX11_sum_59 rfl (lv_at hl 0 rfl) ?_
            refine q_get (v := .ref h2) hC hK hV fl_X11_93 0 rfl rfl dX11_sum_60 ?_
            refine q_get (v := .ref (ra2 2)) hC hK hV fl_X11_248 6 rfl rfl dX11_sum_63 ?_
            obtain ⟨u5, hc5, hf⟩ := hf_b hf
            refine aft_v (run_v hC (k_X9_takeMeasures l D cs h3 ra3 (ra2 2) y3_0 x3_1 x3_2 x3_3 x3_4 y2_2 u5 H.size hc5) cd_X9_takeMeasures cv_X9_takeMeasures ml_X11_231 rfl rfl ⟨by decide, by decide⟩ hK hV (fr_pre hK hV [15, 16, 7] rfl (by decide)) (ci := 9) (q0 := 15) rfl rfl rfl rfl hl.1 rfl (Nat.le_of_ble_eq_true rfl) dX11_sum_66) hV (va_free hV.2.1 hV.2.2 hA [15, 16, 7] rfl) (fr_jn (s := s) (wn := wY11 cs h0 h3 h4 h5 h6 h7 o0_3 o0_4 o0_5 o0_6 h1 o0_8 o0_9 o0_10 o0_11 h2 o0_13 o0_14 ra0 x0_15 ++ (wX0 cs h1 h4 ra1 y1_1 y1_2 x1_3 x1_4 x1_5 x1_6 x1_7 x1_8 y1_9 x1_10 x1_11 x1_12 x1_13 x1_14 ++ (wX2 cs h2 h4 h1 ra2 u5 y2_3 y2_4 y2_5 y2_6 y2_7 y2_8 y2_9 x2_10 ++ (wX9 cs h3 ra3 y3_0 x3_1 x3_2 x3_3 x3_4 ++ (wX10 cs h4 ra4 y4_0 y4_1 y4_2 x4_3 ++ (wX4 cs h5 ra5 y5_0 y5_1 y5_2 y5_3 y5_4 x5_5 x5_6 ++ (wX4 cs h6 ra6 y6_0 y6_1 y6_2 y6_3 y6_4 x6_5 x6_6 ++ (wX4 cs h7 ra7 y7_0 y7_1 y7_2 y7_3 y7_4 x7_5 x7_6)))))))) hV hA [15, 16, 7] [0, 1, 2, 3, 4, 5, 6, 8, 9, 10, 11, 12, 13, 14, 17, 18, 19, 20, 21, 22, 23, 24, 25, 26, 27, 28, 29, 30, 31, 32, 33, 34, 35, 36, 37, 38] [0, 1, 2, 3, 4, 5, 6, 38, 7, 8, 9, 10, 11, 12, 13, 36, 37, 14, 15, 16, 17, 18, 19, 20, 21, 22, 23, 24, 25, 26, 27, 28, 29, 30, 31, 32, 33, 34, 35] rfl rfl (by decide) (by decide) rfl (by decide)) (fun H locs hV => ?_)
            refine lv_aload_n hx hb dX11_sum_69 rfl (lv_at hl 0 rfl) ?_
            refine q_get (v := .ref h3) hC hK hV fl_X11_10 0 rfl rfl dX11_sum_70 ?_
            obtain ⟨u6, hc6, hf⟩ := hf_b hf
            refine aft_v (run_v hC (k_X9_clear l D cs h3 ra3 y3_0 x3_1 x3_2 x3_3 x3_4 u6 H.size hc6) cd_X9_clear cv_X9_clear ml_X11_145 rfl rfl ⟨by decide, by decide⟩ hK hV (fr_pre hK hV [15, 16] rfl (by decide)) (ci := 9) (q0 := 15) rfl rfl rfl rfl hl.1 rfl (Nat.le_of_ble_eq_true rfl) dX11_sum_73) hV (va_free hV.2.1 hV.2.2 hA [15, 16] rfl) (fr_jn (s := s) (wn := wY11 cs h0 h3 h4 h5 h6 h7 o0_3 o0_4 o0_5 o0_6 h1 o0_8 o0_9 o0_10 o0_11 h2 o0_13 o0_14 ra0 x0_15 ++ (wX0 cs h1 h4 ra1 y1_1 y1_2 x1_3 x1_4 x1_5 x1_6 x1_7 x1_8 y1_9 x1_10 x1_11 x1_12 x1_13 x1_14 ++ (wX2 cs h2 h4 h1 ra2 u5 y2_3 y2_4 y2_5 y2_6 y2_7 y2_8 y2_9 x2_10 ++ (wX9 cs h3 ra3 y3_0 u6 x3_2 x3_3 x3_4 ++ (wX10 cs h4 ra4 y4_0 y4_1 y4_2 x4_3 ++ (wX4 cs h5 ra5 y5_0 y5_1 y5_2 y5_3 y5_4 x5_5 x5_6 ++ (wX4 cs h6 ra6 y6_0 y6_1 y6_2 y6_3 y6_4 x6_5 x6_6 ++ (wX4 cs h7 ra7 y7_0 y7_1 y7_2 y7_3 y7_4 x7_5 x7_6)))))))) hV hA [15, 16] [0, 1, 2, 3, 4, 5, 6, 7, 8, 9, 10, 11, 12, 13, 14, 17, 18, 19, 20, 21, 22, 23, 24, 25, 26, 27, 28, 29, 30, 31, 32, 33, 34, 35, 36, 37, 38] [0, 1, 2, 3, 4, 5, 6, 7, 8, 9, 10, 11, 12, 13, 14, 37, 38, 15, 16, 17, 18, 19, 20, 21, 22, 23, 24, 25, 26, 27, 28, 29, 30, 31, 32, 33, 34, 35, 36] rfl rfl (by decide) (by decide) rfl (by decide)) (fun H locs hV => ?_)
            refine lv_aload_n hx hb dX11_sum_76 rfl (lv_at hl 0 rfl) ?_
            refine q_get (v := .ref h2) hC hK hV fl_X11_93 0 rfl rfl dX11_sum_77 ?_
            obtain ⟨u7, hc7, hf⟩ := hf_b hf
            refine aft_i (run_v hC (k_X2_isOfferGood l D cs h2 h4 h1 ra2 u5 y2_3 y2_4 y2_5 y2_6 y2_7 y2_8 y2_9 x2_10 u7 H.size hc7) cd_X2_isOfferGood cv_X2_isOfferGood ml_X11_251 rfl rfl ⟨by decide, by decide⟩ hK hV (fr_pre hK hV [6, 7, 8, 9, 10, 11, 12, 13, 14] rfl (by decide)) (ci := 2) (q0 := 6) rfl rfl rfl rfl hl.1 rfl (Nat.le_of_ble_eq_true rfl) dX11_sum_80) hV (va_free hV.2.1 hV.2.2 hA [6, 7, 8, 9, 10, 11, 12, 13, 14] rfl) (fr_jn (s := s) (wn := wY11 cs h0 h3 h4 h5 h6 h7 o0_3 o0_4 o0_5 o0_6 h1 o0_8 o0_9 o0_10 o0_11 h2 o0_13 o0_14 ra0 x0_15 ++ (wX0 cs h1 h4 ra1 y1_1 y1_2 x1_3 x1_4 x1_5 x1_6 x1_7 x1_8 y1_9 x1_10 x1_11 x1_12 x1_13 x1_14 ++ (wX2 cs h2 h4 h1 ra2 u5 y2_3 y2_4 y2_5 y2_6 y2_7 y2_8 y2_9 x2_10 ++ (wX9 cs h3 ra3 y3_0 u6 x3_2 x3_3 x3_4 ++ (wX10 cs h4 ra4 y4_0 y4_1 y4_2 x4_3 ++ (wX4 cs h5 ra5 y5_0 y5_1 y5_2 y5_3 y5_4 x5_5 x5_6 ++ (wX4 cs h6 ra6 y6_0 y6_1 y6_2 y6_3 y6_4 x6_5 x6_6 ++ (wX4 cs h7 ra7 y7_0 y7_1 y7_2 y7_3 y7_4 x7_5 x7_6)))))))) hV hA [6, 7, 8, 9, 10, 11, 12, 13, 14] [0, 1, 2, 3, 4, 5, 15, 16, 17, 18, 19, 20, 21, 22, 23, 24, 25, 26, 27, 28, 29, 30, 31, 32, 33, 34, 35, 36, 37, 38] [0, 1, 2, 3, 4, 5, 30, 31, 32, 33, 34, 35, 36, 37, 38, 6, 7, 8, 9, 10, 11, 12, 13, 14, 15, 16, 17, 18, 19, 20, 21, 22, 23, 24, 25, 26, 27, 28, 29] rfl rfl (by decide) (by decide) rfl (by decide)) (fun H locs hV => ?_)
            refine lv_if_ne (tgt := 89) hx hb dX11_sum_83 (by decide) (fun hc => ?_) (fun hc => ?_)
            · have hf := hf_f hf hc
              refine lv_aload_n hx hb dX11_sum_89 rfl (lv_at hl 0 rfl) ?_
              refine q_get (v := .ref h2) hC hK hV fl_X11_93 0 rfl rfl dX11_sum_90 ?_
              refine lv_iload_n hx hb dX11_sum_93 rfl (lv_at hl 1 rfl) ?_
              refine lv_iload_n hx hb dX11_sum_94 rfl (lv_at hl 2 rfl) ?_
              refine lv_iload_n hx hb dX11_sum_95 rfl (lv_at hl 3 rfl) ?_
              refine lv_iload hx hb dX11_sum_96 (lv_at hl 4 rfl) ?_
              obtain ⟨u8, hc8, hf⟩ := hf_b hf
              refine aft_v (run_v hC (k_X2_take l D cs h2 h4 h1 ra2 u5 y2_3 y2_4 y2_5 y2_6 y2_7 y2_8 y2_9 x2_10 v1 v2 v3 v4 u8 H.size hc8) cd_X2_take cv_X2_take ml_X11_254 rfl rfl ⟨by decide, by decide⟩ hK hV (fr_pre hK hV [6, 7, 8, 9, 10, 11, 12, 13, 14] rfl (by decide)) (ci := 2) (q0 := 6) rfl rfl rfl rfl hl.1 rfl (Nat.le_of_ble_eq_true rfl) dX11_sum_98) hV (va_free hV.2.1 hV.2.2 hA [6, 7, 8, 9, 10, 11, 12, 13, 14] rfl) (fr_jn (s := s) (wn := wY11 cs h0 h3 h4 h5 h6 h7 o0_3 o0_4 o0_5 o0_6 h1 o0_8 o0_9 o0_10 o0_11 h2 o0_13 o0_14 ra0 x0_15 ++ (wX0 cs h1 h4 ra1 y1_1 y1_2 x1_3 x1_4 x1_5 x1_6 x1_7 x1_8 y1_9 x1_10 x1_11 x1_12 x1_13 x1_14 ++ (wX2 cs h2 h4 h1 ra2 u5 u8.1 u8.2.1 u8.2.2.1 u8.2.2.2.1 y2_7 y2_8 y2_9 u8.2.2.2.2 ++ (wX9 cs h3 ra3 y3_0 u6 x3_2 x3_3 x3_4 ++ (wX10 cs h4 ra4 y4_0 y4_1 y4_2 x4_3 ++ (wX4 cs h5 ra5 y5_0 y5_1 y5_2 y5_3 y5_4 x5_5 x5_6 ++ (wX4 cs h6 ra6 y6_0 y6_1 y6_2 y6_3 y6_4 x6_5 x6_6 ++ (wX4 cs h7 ra7 y7_0 y7_1 y7_2 y7_3 y7_4 x7_5 x7_6)))))))) hV hA [6, 7, 8, 9, 10, 11, 12, 13, 14] [0, 1, 2, 3, 4, 5, 15, 16, 17, 18, 19, 20, 21, 22, 23, 24, 25, 26, 27, 28, 29, 30, 31, 32, 33, 34, 35, 36, 37, 38] [0, 1, 2, 3, 4, 5, 30, 31, 32, 33, 34, 35, 36, 37, 38, 6, 7, 8, 9, 10, 11, 12, 13, 14, 15, 16, 17, 18, 19, 20, 21, 22, 23, 24, 25, 26, 27, 28, 29] rfl rfl (by decide) (by decide) rfl (by decide)) (fun H locs hV => ?_)
              refine lv_aload_n hx hb dX11_sum_101 rfl (lv_at hl 0 rfl) ?_
              refine q_get (v := .ref h2) hC hK hV fl_X11_93 0 rfl rfl dX11_sum_102 ?_
              refine lv_iload_n hx hb dX11_sum_105 rfl (lv_at hl 1 rfl) ?_
              refine lv_aload_n hx hb dX11_sum_106 rfl (lv_at hl 0 rfl) ?_
              refine q_get (v := .ref (ra0 2)) hC hK hV fl_X11_25 0 rfl rfl dX11_sum_107 ?_
              refine lv_iload_n hx hb dX11_sum_110 rfl (lv_at hl 2 rfl) ?_
              by_cases ht9 : v2 = 0
              · have hf := hf_t hf ht9
                refine q_aald (j := 0) hC hK hV 1 rfl ht9 (by decide) rfl dX11_sum_111 ?_
                obtain ⟨u10, hc10, hf⟩ := hf_b hf
                refine aft_i (run_v hC (k_X2_stepsOf l D cs h2 ra2 h5 ra5 h1 ra1 h4 ra4 u5 u8.1 u8.2.1 u8.2.2.1 u8.2.2.2.1 y2_7 y2_8 y2_9 u8.2.2.2.2 y5_0 y5_1 y5_2 y5_3 y5_4 x5_5 x5_6 y1_1 y1_2 x1_3 x1_4 x1_5 x1_6 x1_7 x1_8 y1_9 x1_10 x1_11 x1_12 x1_13 x1_14 y4_0 y4_1 y4_2 x4_3 v1 u10 H.size hc10) cd_X2_stepsOf cv_X2_stepsOf ml_X11_257 rfl rfl ⟨by decide, by decide⟩ hK hV (fr_pre hK hV [6, 7, 8, 9, 10, 11, 12, 13, 14, 21, 22, 23, 24, 25, 26, 2, 3, 4, 5, 17, 18, 19, 20] rfl (by decide)) (ci := 2) (q0 := 6) rfl rfl rfl rfl hl.1 rfl (Nat.le_of_ble_eq_true rfl) dX11_sum_112) hV (va_free hV.2.1 hV.2.2 hA [6, 7, 8, 9, 10, 11, 12, 13, 14, 21, 22, 23, 24, 25, 26, 2, 3, 4, 5, 17, 18, 19, 20] rfl) (fr_jn (s := s) (wn := wY11 cs h0 h3 h4 h5 h6 h7 o0_3 o0_4 o0_5 o0_6 h1 o0_8 o0_9 o0_10 o0_11 h2 o0_13 o0_14 ra0 x0_15 ++ (wX0 cs h1 h4 ra1 u10.2.2.2.1 u10.2.2.2.2.1 u10.2.2.2.2.2.1 u10.2.2.2.2.2.2.1 u10.2.2.2.2.2.2.2.1 u10.2.2.2.2.2.2.2.2.1 u10.2.2.2.2.2.2.2.2.2.1 u10.2.2.2.2.2.2.2.2.2.2.1 u10.2.2.2.2.2.2.2.2.2.2.2.1 u10.2.2.2.2.2.2.2.2.2.2.2.2.1 u10.2.2.2.2.2.2.2.2.2.2.2.2.2.1 u10.2.2.2.2.2.2.2.2.2.2.2.2.2.2.1 u10.2.2.2.2.2.2.2.2.2.2.2.2.2.2.2.1 u10.2.2.2.2.2.2.2.2.2.2.2.2.2.2.2.2 ++ (wX2 cs h2 h4 h1 ra2 u5 u8.1 u8.2.1 u8.2.2.1 u8.2.2.2.1 u10.2.1 u10.2.2.1 y2_9 u8.2.2.2.2 ++ (wX9 cs h3 ra3 y3_0 u6 x3_2 x3_3 x3_4 ++ (wX10 cs h4 ra4 y4_0 y4_1 y4_2 x4_3 ++ (wX4 cs h5 ra5 y5_0 y5_1 y5_2 y5_3 y5_4 x5_5 x5_6 ++ (wX4 cs h6 ra6 y6_0 y6_1 y6_2 y6_3 y6_4 x6_5 x6_6 ++ (wX4 cs h7 ra7 y7_0 y7_1 y7_2 y7_3 y7_4 x7_5 x7_6)))))))) hV hA [6, 7, 8, 9, 10, 11, 12, 13, 14, 21, 22, 23, 24, 25, 26, 2, 3, 4, 5, 17, 18, 19, 20] [0, 1, 15, 16, 27, 28, 29, 30, 31, 32, 33, 34, 35, 36, 37, 38] [0, 1, 31, 32, 33, 34, 16, 17, 18, 19, 20, 21, 22, 23, 24, 2, 3, 35, 36, 37, 38, 25, 26, 27, 28, 29, 30, 4, 5, 6, 7, 8, 9, 10, 11, 12, 13, 14, 15] rfl rfl (by decide) (by decide) rfl (by decide)) (fun H locs hV => ?_)
                obtain rfl := Option.some.inj hf
                exact q_ret hC hr hlocks hV dX11_sum_115
              have hf := hf_f hf ht9
              by_cases ht11 : v2 = 1
              · have hf := hf_t hf ht11
                refine q_aald (j := 1) hC hK hV 1 rfl ht11 (by decide) rfl dX11_sum_111 ?_
                obtain ⟨u12, hc12, hf⟩ := hf_b hf
                refine aft_i (run_v hC (k_X2_stepsOf l D cs h2 ra2 h6 ra6 h1 ra1 h4 ra4 u5 u8.1 u8.2.1 u8.2.2.1 u8.2.2.2.1 y2_7 y2_8 y2_9 u8.2.2.2.2 y6_0 y6_1 y6_2 y6_3 y6_4 x6_5 x6_6 y1_1 y1_2 x1_3 x1_4 x1_5 x1_6 x1_7 x1_8 y1_9 x1_10 x1_11 x1_12 x1_13 x1_14 y4_0 y4_1 y4_2 x4_3 v1 u12 H.size hc12) cd_X2_stepsOf cv_X2_stepsOf ml_X11_257 rfl rfl ⟨by decide, by decide⟩ hK hV (fr_pre hK hV [6, 7, 8, 9, 10, 11, 12, 13, 14, 27, 28, 29, 30, 31, 32, 2, 3, 4, 5, 17, 18, 19, 20] rfl (by decide)) (ci := 2) (q0 := 6) rfl rfl rfl rfl hl.1 rfl (Nat.le_of_ble_eq_true rfl) dX11_sum_112) hV (va_free hV.2.1 hV.2.2 hA [6, 7, 8, 9, 10, 11, 12, 13, 14, 27, 28, 29, 30, 31, 32, 2, 3, 4, 5, 17, 18, 19, 20] rfl) (fr_jn (s := s) (wn := wY11 cs h0 h3 h4 h5 h6 h7 o0_3 o0_4 o0_5 o0_6 h1 o0_8 o0_9 o0_10 o0_11 h2 o0_13 o0_14 ra0 x0_15 ++ (wX0 cs h1 h4 ra1 u12.2.2.2.1 u12.2.2.2.2.1 u12.2.2.2.2.2.1 u12.2.2.2.2.2.2.1 u12.2.2.2.2.2.2.2.1 u12.2.2.2.2.2.2.2.2.1 u12.2.2.2.2.2.2.2.2.2.1 u12.2.2.2.2.2.2.2.2.2.2.1 u12.2.2.2.2.2.2.2.2.2.2.2.1 u12.2.2.2.2.2.2.2.2.2.2.2.2.1 u12.2.2.2.2.2.2.2.2.2.2.2.2.2.1 u12.2.2.2.2.2.2.2.2.2.2.2.2.2.2.1 u12.2.2.2.2.2.2.2.2.2.2.2.2.2.2.2.1 u12.2.2.2.2.2.2.2.2.2.2.2.2.2.2.2.2 ++ (wX2 cs h2 h4 h1 ra2 u5 u8.1 u8.2.1 u8.2.2.1 u8.2.2.2.1 u12.2.1 u12.2.2.1 y2_9 u8.2.2.2.2 ++ (wX9 cs h3 ra3 y3_0 u6 x3_2 x3_3 x3_4 ++ (wX10 cs h4 ra4 y4_0 y4_1 y4_2 x4_3 ++ (wX4 cs h5 ra5 y5_0 y5_1 y5_2 y5_3 y5_4 x5_5 x5_6 ++ (wX4 cs h6 ra6 y6_0 y6_1 y6_2 y6_3 y6_4 x6_5 x6_6 ++ (wX4 cs h7 ra7 y7_0 y7_1 y7_2 y7_3 y7_4 x7_5 x7_6)))))))) hV hA [6, 7, 8, 9, 10, 11, 12, 13, 14, 27, 28, 29, 30, 31, 32, 2, 3, 4, 5, 17, 18, 19, 20] [0, 1, 15, 16, 21, 22, 23, 24, 25, 26, 33, 34, 35, 36, 37, 38] [0, 1, 31, 32, 33, 34, 16, 17, 18, 19, 20, 21, 22, 23, 24, 2, 3, 35, 36, 37, 38, 4, 5, 6, 7, 8, 9, 25, 26, 27, 28, 29, 30, 10, 11, 12, 13, 14, 15] rfl rfl (by decide) (by decide) rfl (by decide)) (fun H locs hV => ?_)
                obtain rfl := Option.some.inj hf
                exact q_ret hC hr hlocks hV dX11_sum_115
              have hf := hf_f hf ht11
              by_cases ht13 : v2 = 2
              · have hf := hf_t hf ht13
                refine q_aald (j := 2) hC hK hV 1 rfl ht13 (by decide) rfl dX11_sum_111 ?_
                obtain ⟨u14, hc14, hf⟩ := hf_b hf
                refine aft_i (run_v hC (k_X2_stepsOf l D cs h2 ra2 h7 ra7 h1 ra1 h4 ra4 u5 u8.1 u8.2.1 u8.2.2.1 u8.2.2.2.1 y2_7 y2_8 y2_9 u8.2.2.2.2 y7_0 y7_1 y7_2 y7_3 y7_4 x7_5 x7_6 y1_1 y1_2 x1_3 x1_4 x1_5 x1_6 x1_7 x1_8 y1_9 x1_10 x1_11 x1_12 x1_13 x1_14 y4_0 y4_1 y4_2 x4_3 v1 u14 H.size hc14) cd_X2_stepsOf cv_X2_stepsOf ml_X11_257 rfl rfl ⟨by decide, by decide⟩ hK hV (fr_pre hK hV [6, 7, 8, 9, 10, 11, 12, 13, 14, 33, 34, 35, 36, 37, 38, 2, 3, 4, 5, 17, 18, 19, 20] rfl (by decide)) (ci := 2) (q0 := 6) rfl rfl rfl rfl hl.1 rfl (Nat.le_of_ble_eq_true rfl) dX11_sum_112) hV (va_free hV.2.1 hV.2.2 hA [6, 7, 8, 9, 10, 11, 12, 13, 14, 33, 34, 35, 36, 37, 38, 2, 3, 4, 5, 17, 18, 19, 20] rfl) (fr_jn (s := s) (wn := wY11 cs h0 h3 h4 h5 h6 h7 o0_3 o0_4 o0_5 o0_6 h1 o0_8 o0_9 o0_10 o0_11 h2 o0_13 o0_14 ra0 x0_15 ++ (wX0 cs h1 h4 ra1 u14.2.2.2.1 u14.2.2.2.2.1 u14.2.2.2.2.2.1 u14.2.2.2.2.2.2.1 u14.2.2.2.2.2.2.2.1 u14.2.2.2.2.2.2.2.2.1 u14.2.2.2.2.2.2.2.2.2.1 u14.2.2.2.2.2.2.2.2.2.2.1 u14.2.2.2.2.2.2.2.2.2.2.2.1 u14.2.2.2.2.2.2.2.2.2.2.2.2.1 u14.2.2.2.2.2.2.2.2.2.2.2.2.2.1 u14.2.2.2.2.2.2.2.2.2.2.2.2.2.2.1 u14.2.2.2.2.2.2.2.2.2.2.2.2.2.2.2.1 u14.2.2.2.2.2.2.2.2.2.2.2.2.2.2.2.2 ++ (wX2 cs h2 h4 h1 ra2 u5 u8.1 u8.2.1 u8.2.2.1 u8.2.2.2.1 u14.2.1 u14.2.2.1 y2_9 u8.2.2.2.2 ++ (wX9 cs h3 ra3 y3_0 u6 x3_2 x3_3 x3_4 ++ (wX10 cs h4 ra4 y4_0 y4_1 y4_2 x4_3 ++ (wX4 cs h5 ra5 y5_0 y5_1 y5_2 y5_3 y5_4 x5_5 x5_6 ++ (wX4 cs h6 ra6 y6_0 y6_1 y6_2 y6_3 y6_4 x6_5 x6_6 ++ (wX4 cs h7 ra7 y7_0 y7_1 y7_2 y7_3 y7_4 x7_5 x7_6)))))))) hV hA [6, 7, 8, 9, 10, 11, 12, 13, 14, 33, 34, 35, 36, 37, 38, 2, 3, 4, 5, 17, 18, 19, 20] [0, 1, 15, 16, 21, 22, 23, 24, 25, 26, 27, 28, 29, 30, 31, 32] [0, 1, 31, 32, 33, 34, 16, 17, 18, 19, 20, 21, 22, 23, 24, 2, 3, 35, 36, 37, 38, 4, 5, 6, 7, 8, 9, 10, 11, 12, 13, 14, 15, 25, 26, 27, 28, 29, 30] rfl rfl (by decide) (by decide) rfl (by decide)) (fun H locs hV => ?_)
                obtain rfl := Option.some.inj hf
                exact q_ret hC hr hlocks hV dX11_sum_115
              have hf := hf_f hf ht13
              exact hf_no (show (none : Option (Int32 × (Nat → Int32) × (Nat → Int32) × Int32 × Int32 × Int32 × Int32 × Int32 × Int32 × (Nat → Int32) × Int32 × Int32 × Int32 × Int32 × Int32 × (Nat → Int32) × (Nat → Int32) × (Nat → Int32) × (Nat → Int32) × (Nat → Int32) × (Nat → Int32) × (Nat → Int32) × Int32 × Int32)) = some u from hf)
            · have hf := hf_t hf hc
              refine lv_bipush (v := (-2)) hx hb dX11_sum_86 (by decide) ?_
              obtain rfl := Option.some.inj hf
              exact q_ret hC hr hlocks hV dX11_sum_88
          · have hf := hf_t hf hc
            refine lv_iconst (v := (-1)) hx hb dX11_sum_53 (by decide) ?_
            obtain rfl := Option.some.inj hf
            exact q_ret hC hr hlocks hV dX11_sum_54
      · have hf := hf_f hf hc
        refine lv_iconst (v := (-1)) hx hb dX11_sum_29 (by decide) ?_
        obtain rfl := Option.some.inj hf
        exact q_ret hC hr hlocks hV dX11_sum_30
set_option maxRecDepth 100000 in
theorem k_X11_sum (l : Launch) (D : va_G) (cs : Nat → ClassId) (h0 : Nat) (o0_3 : Nat) (o0_4 : Nat) (o0_5 : Nat) (o0_6 : Nat) (o0_8 : Nat) (o0_9 : Nat) (o0_10 : Nat) (o0_11 : Nat) (o0_13 : Nat) (o0_14 : Nat) (ra0 : Nat → Nat) (h1 : Nat) (ra1 : Nat → Nat) (h2 : Nat) (ra2 : Nat → Nat) (h3 : Nat) (ra3 : Nat → Nat) (h4 : Nat) (ra4 : Nat → Nat) (h5 : Nat) (ra5 : Nat → Nat) (h6 : Nat) (ra6 : Nat → Nat) (h7 : Nat) (ra7 : Nat → Nat) (x0_15 : Int32) (y1_1 y1_2 : Nat → Int32) (x1_3 x1_4 x1_5 x1_6 x1_7 x1_8 : Int32) (y1_9 : Nat → Int32) (x1_10 x1_11 x1_12 x1_13 x1_14 : Int32) (y2_2 y2_3 y2_4 y2_5 y2_6 y2_7 y2_8 y2_9 : Nat → Int32) (x2_10 : Int32) (y3_0 : Nat → Int32) (x3_1 x3_2 x3_3 x3_4 : Int32) (y4_0 y4_1 y4_2 : Nat → Int32) (x4_3 : Int32) (y5_0 y5_1 y5_2 y5_3 y5_4 : Nat → Int32) (x5_5 x5_6 : Int32) (y6_0 y6_1 y6_2 y6_3 y6_4 : Nat → Int32) (x6_5 x6_6 : Int32) (y7_0 y7_1 y7_2 y7_3 y7_4 : Nat → Int32) (x7_5 x7_6 : Int32) (v1 v2 v3 v4 : Int32) (u : Int32 × (Nat → Int32) × (Nat → Int32) × Int32 × Int32 × Int32 × Int32 × Int32 × Int32 × (Nat → Int32) × Int32 × Int32 × Int32 × Int32 × Int32 × (Nat → Int32) × (Nat → Int32) × (Nat → Int32) × (Nat → Int32) × (Nat → Int32) × (Nat → Int32) × (Nat → Int32) × Int32 × Int32) (sz : Nat) (hf : f_X11_sum v1 v2 v3 v4 y1_1 y1_2 x1_3 x1_4 x1_5 x1_6 x1_7 x1_8 y1_9 x1_10 x1_11 x1_12 x1_13 x1_14 y2_2 y2_3 y2_4 y2_5 y2_6 y2_7 y2_8 x2_10 y3_0 x3_1 y4_0 y4_1 x4_3 y5_0 y5_1 y5_2 y5_3 y5_4 x5_5 y6_0 y6_1 y6_2 y6_3 y6_4 x6_5 y7_0 y7_1 y7_2 y7_3 y7_4 x7_5 = some u) : Met l yX11_sum (WS yX11_sum cX11_sum 5 (some .int)) rm_X11_sum (va_Pc [.ref h0, .int v1, .int v2, .int v3, .int v4] (PR D cs (wY11 cs h0 h3 h4 h5 h6 h7 o0_3 o0_4 o0_5 o0_6 h1 o0_8 o0_9 o0_10 o0_11 h2 o0_13 o0_14 ra0 x0_15 ++ (wX0 cs h1 h4 ra1 y1_1 y1_2 x1_3 x1_4 x1_5 x1_6 x1_7 x1_8 y1_9 x1_10 x1_11 x1_12 x1_13 x1_14 ++ (wX2 cs h2 h4 h1 ra2 y2_2 y2_3 y2_4 y2_5 y2_6 y2_7 y2_8 y2_9 x2_10 ++ (wX9 cs h3 ra3 y3_0 x3_1 x3_2 x3_3 x3_4 ++ (wX10 cs h4 ra4 y4_0 y4_1 y4_2 x4_3 ++ (wX4 cs h5 ra5 y5_0 y5_1 y5_2 y5_3 y5_4 x5_5 x5_6 ++ (wX4 cs h6 ra6 y6_0 y6_1 y6_2 y6_3 y6_4 x6_5 x6_6 ++ (wX4 cs h7 ra7 y7_0 y7_1 y7_2 y7_3 y7_4 x7_5 x7_6)))))))) sz)) (QI D (wY11 cs h0 h3 h4 h5 h6 h7 o0_3 o0_4 o0_5 o0_6 h1 o0_8 o0_9 o0_10 o0_11 h2 o0_13 o0_14 ra0 x0_15 ++ (wX0 cs h1 h4 ra1 u.2.1 u.2.2.1 u.2.2.2.1 u.2.2.2.2.1 u.2.2.2.2.2.1 u.2.2.2.2.2.2.1 u.2.2.2.2.2.2.2.1 u.2.2.2.2.2.2.2.2.1 u.2.2.2.2.2.2.2.2.2.1 u.2.2.2.2.2.2.2.2.2.2.1 u.2.2.2.2.2.2.2.2.2.2.2.1 u.2.2.2.2.2.2.2.2.2.2.2.2.1 u.2.2.2.2.2.2.2.2.2.2.2.2.2.1 u.2.2.2.2.2.2.2.2.2.2.2.2.2.2.1 ++ (wX2 cs h2 h4 h1 ra2 u.2.2.2.2.2.2.2.2.2.2.2.2.2.2.2.1 u.2.2.2.2.2.2.2.2.2.2.2.2.2.2.2.2.1 u.2.2.2.2.2.2.2.2.2.2.2.2.2.2.2.2.2.1 u.2.2.2.2.2.2.2.2.2.2.2.2.2.2.2.2.2.2.1 u.2.2.2.2.2.2.2.2.2.2.2.2.2.2.2.2.2.2.2.1 u.2.2.2.2.2.2.2.2.2.2.2.2.2.2.2.2.2.2.2.2.1 u.2.2.2.2.2.2.2.2.2.2.2.2.2.2.2.2.2.2.2.2.2.1 y2_9 u.2.2.2.2.2.2.2.2.2.2.2.2.2.2.2.2.2.2.2.2.2.2.1 ++ (wX9 cs h3 ra3 y3_0 u.2.2.2.2.2.2.2.2.2.2.2.2.2.2.2.2.2.2.2.2.2.2.2 x3_2 x3_3 x3_4 ++ (wX10 cs h4 ra4 y4_0 y4_1 y4_2 x4_3 ++ (wX4 cs h5 ra5 y5_0 y5_1 y5_2 y5_3 y5_4 x5_5 x5_6 ++ (wX4 cs h6 ra6 y6_0 y6_1 y6_2 y6_3 y6_4 x6_5 x6_6 ++ (wX4 cs h7 ra7 y7_0 y7_1 y7_2 y7_3 y7_4 x7_5 x7_6)))))))) (va_A (wY11 cs h0 h3 h4 h5 h6 h7 o0_3 o0_4 o0_5 o0_6 h1 o0_8 o0_9 o0_10 o0_11 h2 o0_13 o0_14 ra0 x0_15 ++ (wX0 cs h1 h4 ra1 y1_1 y1_2 x1_3 x1_4 x1_5 x1_6 x1_7 x1_8 y1_9 x1_10 x1_11 x1_12 x1_13 x1_14 ++ (wX2 cs h2 h4 h1 ra2 y2_2 y2_3 y2_4 y2_5 y2_6 y2_7 y2_8 y2_9 x2_10 ++ (wX9 cs h3 ra3 y3_0 x3_1 x3_2 x3_3 x3_4 ++ (wX10 cs h4 ra4 y4_0 y4_1 y4_2 x4_3 ++ (wX4 cs h5 ra5 y5_0 y5_1 y5_2 y5_3 y5_4 x5_5 x5_6 ++ (wX4 cs h6 ra6 y6_0 y6_1 y6_2 y6_3 y6_4 x6_5 x6_6 ++ (wX4 cs h7 ra7 y7_0 y7_1 y7_2 y7_3 y7_4 x7_5 x7_6)))))))) sz) u.1) 0 0 (va_A (wY11 cs h0 h3 h4 h5 h6 h7 o0_3 o0_4 o0_5 o0_6 h1 o0_8 o0_9 o0_10 o0_11 h2 o0_13 o0_14 ra0 x0_15 ++ (wX0 cs h1 h4 ra1 y1_1 y1_2 x1_3 x1_4 x1_5 x1_6 x1_7 x1_8 y1_9 x1_10 x1_11 x1_12 x1_13 x1_14 ++ (wX2 cs h2 h4 h1 ra2 y2_2 y2_3 y2_4 y2_5 y2_6 y2_7 y2_8 y2_9 x2_10 ++ (wX9 cs h3 ra3 y3_0 x3_1 x3_2 x3_3 x3_4 ++ (wX10 cs h4 ra4 y4_0 y4_1 y4_2 x4_3 ++ (wX4 cs h5 ra5 y5_0 y5_1 y5_2 y5_3 y5_4 x5_5 x5_6 ++ (wX4 cs h6 ra6 y6_0 y6_1 y6_2 y6_3 y6_4 x6_5 x6_6 ++ (wX4 cs h7 ra7 y7_0 y7_1 y7_2 y7_3 y7_4 x7_5 x7_6)))))))) sz) := by
  refine met_of RX11 rfl (by decide) (Nat.le_of_ble_eq_true rfl) ?_
  intro p e s m args below meth c hC hr hlocks hK hsz hA hV ls hl
  exact b_X11_sum_0 hC hr hlocks hK hA h0 o0_3 o0_4 o0_5 o0_6 o0_8 o0_9 o0_10 o0_11 o0_13 o0_14 ra0 h1 ra1 h2 ra2 h3 ra3 h4 ra4 h5 ra5 h6 ra6 h7 ra7 x0_15 y2_9 x3_2 x3_3 x3_4 y4_2 x5_6 x6_6 x7_6 u v1 v2 v3 v4 y1_1 y1_2 x1_3 x1_4 x1_5 x1_6 x1_7 x1_8 y1_9 x1_10 x1_11 x1_12 x1_13 x1_14 y2_2 y2_3 y2_4 y2_5 y2_6 y2_7 y2_8 x2_10 y3_0 x3_1 y4_0 y4_1 x4_3 y5_0 y5_1 y5_2 y5_3 y5_4 x5_5 y6_0 y6_1 y6_2 y6_3 y6_4 x6_5 y7_0 y7_1 y7_2 y7_3 y7_4 x7_5 s.heap [] ls hf (lv_sub hl [0, 1, 2, 3, 4] rfl) hV
def rm_X11_order : Room := { frames := 5, cells := 0, slots := 0, locals := 136 }
set_option maxHeartbeats 4000000 in
set_option maxRecDepth 100000 in
theorem b_X11_order_46 {p : Program} {l : Launch} {e : Env} {s : State} {m : MethodId} {args : Array Value} {below : List Frame} {meth : Method} {c : Code} {D : va_G} {cs : Nat → ClassId} {A : Nat → Prop} (hC : CallFix p m c cX11_order 4 s args gtbl RX11) (hr : meth.sig.returnType = (some .int)) (hlocks : meth.locks = false) (hK : KN D cs s) (hA : ∀ q : Nat, s.heap.size ≤ q → A q) (h0 : Nat) (o0_0 : Nat) (o0_3 : Nat) (o0_4 : Nat) (o0_5 : Nat) (o0_6 : Nat) (o0_8 : Nat) (o0_9 : Nat) (o0_10 : Nat) (o0_11 : Nat) (o0_13 : Nat) (o0_14 : Nat) (ra0 : Nat → Nat) (h1 : Nat) (ra1 : Nat → Nat) (h2 : Nat) (ra2 : Nat → Nat) (h3 : Nat) (ra3 : Nat → Nat) (h4 : Nat) (ra4 : Nat → Nat) (h5 : Nat) (ra5 : Nat → Nat) (h6 : Nat) (ra6 : Nat → Nat) (x0_15 : Int32) (y2_2 y3_2 : Nat → Int32) (x4_6 x5_6 x6_6 : Int32) (u : Int32 × (Nat → Int32) × (Nat → Int32) × Int32 × Int32 × Int32 × Int32 × Int32 × Int32 × (Nat → Int32) × Int32 × Int32 × Int32 × Int32 × Int32 × (Nat → Int32) × (Nat → Int32) × (Nat → Int32)) : ∀ (n : Nat), ∀ (v1 v2 v3 : Int32) (y1_1 y1_2 : Nat → Int32) (x1_3 x1_4 x1_5 x1_6 x1_7 x1_8 : Int32) (y1_9 : Nat → Int32) (x1_10 x1_11 x1_12 x1_13 x1_14 : Int32) (y2_3 y2_4 y2_5 y2_6 y2_7 y2_8 y2_9 : Nat → Int32) (x2_10 : Int32) (y3_0 y3_1 : Nat → Int32) (x3_3 : Int32) (y4_0 y4_1 y4_2 y4_3 y4_4 : Nat → Int32) (x4_5 : Int32) (y5_0 y5_1 y5_2 y5_3 y5_4 : Nat → Int32) (x5_5 : Int32) (y6_0 y6_1 y6_2 y6_3 y6_4 : Nat → Int32) (x6_5 : Int32) (H : Heap) (locs : List Loc) (ls : Array Slot), g_X11_order_46 n v1 v2 v3 y1_1 y1_2 x1_3 x1_4 x1_5 x1_6 x1_7 x1_8 y1_9 x1_10 x1_11 x1_12 x1_13 x1_14 y2_3 y2_4 y2_5 y2_6 y2_7 y2_8 y2_9 x2_10 y3_0 y3_1 x3_3 y4_0 y4_1 y4_2 y4_3 y4_4 x4_5 y5_0 y5_1 y5_2 y5_3 y5_4 x5_5 y6_0 y6_1 y6_2 y6_3 y6_4 x6_5 = some u → lv_has ls 4 [(0, .ref h0), (1, .int v1), (2, .int v2), (3, .int v3)] → VW D A s.heap (wY11 cs h0 o0_0 h3 h4 h5 h6 o0_3 o0_4 o0_5 o0_6 h1 o0_8 o0_9 o0_10 o0_11 h2 o0_13 o0_14 ra0 x0_15 ++ (wX0 cs h1 h3 ra1 y1_1 y1_2 x1_3 x1_4 x1_5 x1_6 x1_7 x1_8 y1_9 x1_10 x1_11 x1_12 x1_13 x1_14 ++ (wX2 cs h2 h3 h1 ra2 y2_2 y2_3 y2_4 y2_5 y2_6 y2_7 y2_8 y2_9 x2_10 ++ (wX10 cs h3 ra3 y3_0 y3_1 y3_2 x3_3 ++ (wX4 cs h4 ra4 y4_0 y4_1 y4_2 y4_3 y4_4 x4_5 x4_6 ++ (wX4 cs h5 ra5 y5_0 y5_1 y5_2 y5_3 y5_4 x5_5 x5_6 ++ (wX4 cs h6 ra6 y6_0 y6_1 y6_2 y6_3 y6_4 x6_5 x6_6))))))) H locs → W p l e rm_X11_order s m args below meth c H locs 0 0 (MQ below (QI D (wY11 cs h0 o0_0 h3 h4 h5 h6 o0_3 o0_4 o0_5 o0_6 h1 o0_8 o0_9 o0_10 o0_11 h2 o0_13 o0_14 ra0 x0_15 ++ (wX0 cs h1 h3 ra1 u.2.1 u.2.2.1 u.2.2.2.1 u.2.2.2.2.1 u.2.2.2.2.2.1 u.2.2.2.2.2.2.1 u.2.2.2.2.2.2.2.1 u.2.2.2.2.2.2.2.2.1 u.2.2.2.2.2.2.2.2.2.1 u.2.2.2.2.2.2.2.2.2.2.1 u.2.2.2.2.2.2.2.2.2.2.2.1 u.2.2.2.2.2.2.2.2.2.2.2.2.1 u.2.2.2.2.2.2.2.2.2.2.2.2.2.1 u.2.2.2.2.2.2.2.2.2.2.2.2.2.2.1 ++ (wX2 cs h2 h3 h1 ra2 y2_2 y2_3 y2_4 y2_5 y2_6 u.2.2.2.2.2.2.2.2.2.2.2.2.2.2.2.1 u.2.2.2.2.2.2.2.2.2.2.2.2.2.2.2.2.1 u.2.2.2.2.2.2.2.2.2.2.2.2.2.2.2.2.2 x2_10 ++ (wX10 cs h3 ra3 y3_0 y3_1 y3_2 x3_3 ++ (wX4 cs h4 ra4 y4_0 y4_1 y4_2 y4_3 y4_4 x4_5 x4_6 ++ (wX4 cs h5 ra5 y5_0 y5_1 y5_2 y5_3 y5_4 x5_5 x5_6 ++ (wX4 cs h6 ra6 y6_0 y6_1 y6_2 y6_3 y6_4 x6_5 x6_6))))))) A u.1) args s 0 0 A) (F0 m 46 ls []) := by
  have hx := hC.1
  have hb := hC.2.1
  have hown := hC.2.2.2.1
  have hts := hC.2.2.2.2
  intro n
  induction n with
  | zero =>
    intro v1 v2 v3 y1_1 y1_2 x1_3 x1_4 x1_5 x1_6 x1_7 x1_8 y1_9 x1_10 x1_11 x1_12 x1_13 x1_14 y2_3 y2_4 y2_5 y2_6 y2_7 y2_8 y2_9 x2_10 y3_0 y3_1 x3_3 y4_0 y4_1 y4_2 y4_3 y4_4 x4_5 y5_0 y5_1 y5_2 y5_3 y5_4 x5_5 y6_0 y6_1 y6_2 y6_3 y6_4 x6_5 H locs ls hf hl hV
    exact hf_no (show (none : Option (Int32 × (Nat → Int32) × (Nat → Int32) × Int32 × Int32 × Int32 × Int32 × Int32 × Int32 × (Nat → Int32) × Int32 × Int32 × Int32 × Int32 × Int32 × (Nat → Int32) × (Nat → Int32) × (Nat → Int32))) = some u from hf)
  | succ n ih =>
    intro v1 v2 v3 y1_1 y1_2 x1_3 x1_4 x1_5 x1_6 x1_7 x1_8 y1_9 x1_10 x1_11 x1_12 x1_13 x1_14 y2_3 y2_4 y2_5 y2_6 y2_7 y2_8 y2_9 x2_10 y3_0 y3_1 x3_3 y4_0 y4_1 y4_2 y4_3 y4_4 x4_5 y5_0 y5_1 y5_2 y5_3 y5_4 x5_5 y6_0 y6_1 y6_2 y6_3 y6_4 x6_5 H locs ls hf hl hV
    refine lv_iload_n hx hb dX11_order_46 rfl (lv_at hl 3 rfl) ?_
    refine lv_bipush (v := 8) hx hb dX11_order_47 (by decide) ?_
    refine lv_icmp_ge (tgt := 89) hx hb dX11_order_49 (by decide) (fun hc => ?_) (fun hc => ?_)
    · have hf := hf_t hf hc
      refine lv_aload_n hx hb dX11_order_89 rfl (lv_at hl 0 rfl) ?_
      refine q_get (v := .ref h2) hC hK hV fl_X11_93 0 rfl rfl dX11_order_90 ?_
      refine lv_iload_n hx hb dX11_order_93 rfl (lv_at hl 1 rfl) ?_
      obtain ⟨u1, hc1, hf⟩ := hf_b hf
      refine aft_v (run_v hC (k_X2_weigh l D cs h2 h3 h1 ra2 y2_2 y2_3 y2_4 y2_5 y2_6 y2_7 y2_8 y2_9 x2_10 v1 u1 H.size hc1) cd_X2_weigh cv_X2_weigh ml_X11_273 rfl rfl ⟨by decide, by decide⟩ hK hV (fr_pre hK hV [6, 7, 8, 9, 10, 11, 12, 13, 14] rfl (by decide)) (ci := 2) (q0 := 6) rfl rfl rfl rfl hl.1 rfl (Nat.le_of_ble_eq_true rfl) dX11_order_94) hV (va_free hV.2.1 hV.2.2 hA [6, 7, 8, 9, 10, 11, 12, 13, 14] rfl) (fr_jn (s := s) (wn := wY11 cs h0 o0_0 h3 h4 h5 h6 o0_3 o0_4 o0_5 o0_6 h1 o0_8 o0_9 o0_10 o0_11 h2 o0_13 o0_14 ra0 x0_15 ++ (wX0 cs h1 h3 ra1 y1_1 y1_2 x1_3 x1_4 x1_5 x1_6 x1_7 x1_8 y1_9 x1_10 x1_11 x1_12 x1_13 x1_14 ++ (wX2 cs h2 h3 h1 ra2 y2_2 y2_3 y2_4 y2_5 y2_6 y2_7 y2_8 u1 x2_10 ++ (wX10 cs h3 ra3 y3_0 y3_1 y3_2 x3_3 ++ (wX4 cs h4 ra4 y4_0 y4_1 y4_2 y4_3 y4_4 x4_5 x4_6 ++ (wX4 cs h5 ra5 y5_0 y5_1 y5_2 y5_3 y5_4 x5_5 x5_6 ++ (wX4 cs h6 ra6 y6_0 y6_1 y6_2 y6_3 y6_4 x6_5 x6_6))))))) hV hA [6, 7, 8, 9, 10, 11, 12, 13, 14] [0, 1, 2, 3, 4, 5, 15, 16, 17, 18, 19, 20, 21, 22, 23, 24, 25, 26, 27, 28, 29, 30, 31, 32, 33, 34, 35, 36] [0, 1, 2, 3, 4, 5, 28, 29, 30, 31, 32, 33, 34, 35, 36, 6, 7, 8, 9, 10, 11, 12, 13, 14, 15, 16, 17, 18, 19, 20, 21, 22, 23, 24, 25, 26, 27] rfl rfl (by decide) (by decide) rfl (by decide)) (fun H locs hV => ?_)
      refine lv_iload_n hx hb dX11_order_97 rfl (lv_at hl 2 rfl) ?_
      refine lv_iconst (v := (-1)) hx hb dX11_order_98 (by decide) ?_
      refine lv_icmp_ne (tgt := 114) hx hb dX11_order_99 (by decide) (fun hc => ?_) (fun hc => ?_)
      · have hf := hf_f hf hc
        refine lv_aload_n hx hb dX11_order_114 rfl (lv_at hl 0 rfl) ?_
        refine q_get (v := .ref h2) hC hK hV fl_X11_93 0 rfl rfl dX11_order_115 ?_
        refine lv_iload_n hx hb dX11_order_118 rfl (lv_at hl 1 rfl) ?_
        refine lv_iload_n hx hb dX11_order_119 rfl (lv_at hl 2 rfl) ?_
        obtain ⟨u2, hc2, hf⟩ := hf_b hf
        refine aft_i (run_v hC (k_X2_placed l D cs h2 h3 h1 ra2 y2_2 y2_3 y2_4 y2_5 y2_6 y2_7 y2_8 u1 x2_10 v1 v2 u2 H.size hc2) cd_X2_placed cv_X2_placed ml_X11_279 rfl rfl ⟨by decide, by decide⟩ hK hV (fr_pre hK hV [6, 7, 8, 9, 10, 11, 12, 13, 14] rfl (by decide)) (ci := 2) (q0 := 6) rfl rfl rfl rfl hl.1 rfl (Nat.le_of_ble_eq_true rfl) dX11_order_120) hV (va_free hV.2.1 hV.2.2 hA [6, 7, 8, 9, 10, 11, 12, 13, 14] rfl) (fr_jn (s := s) (wn := wY11 cs h0 o0_0 h3 h4 h5 h6 o0_3 o0_4 o0_5 o0_6 h1 o0_8 o0_9 o0_10 o0_11 h2 o0_13 o0_14 ra0 x0_15 ++ (wX0 cs h1 h3 ra1 y1_1 y1_2 x1_3 x1_4 x1_5 x1_6 x1_7 x1_8 y1_9 x1_10 x1_11 x1_12 x1_13 x1_14 ++ (wX2 cs h2 h3 h1 ra2 y2_2 y2_3 y2_4 y2_5 y2_6 y2_7 y2_8 u1 x2_10 ++ (wX10 cs h3 ra3 y3_0 y3_1 y3_2 x3_3 ++ (wX4 cs h4 ra4 y4_0 y4_1 y4_2 y4_3 y4_4 x4_5 x4_6 ++ (wX4 cs h5 ra5 y5_0 y5_1 y5_2 y5_3 y5_4 x5_5 x5_6 ++ (wX4 cs h6 ra6 y6_0 y6_1 y6_2 y6_3 y6_4 x6_5 x6_6))))))) hV hA [6, 7, 8, 9, 10, 11, 12, 13, 14] [0, 1, 2, 3, 4, 5, 15, 16, 17, 18, 19, 20, 21, 22, 23, 24, 25, 26, 27, 28, 29, 30, 31, 32, 33, 34, 35, 36] [0, 1, 2, 3, 4, 5, 28, 29, 30, 31, 32, 33, 34, 35, 36, 6, 7, 8, 9, 10, 11, 12, 13, 14, 15, 16, 17, 18, 19, 20, 21, 22, 23, 24, 25, 26, 27] rfl rfl (by decide) (by decide) rfl (by decide)) (fun H locs hV => ?_)
        obtain rfl := Option.some.inj hf
        exact q_ret hC hr hlocks hV dX11_order_123
      · have hf := hf_t hf hc
        refine lv_aload_n hx hb dX11_order_102 rfl (lv_at hl 0 rfl) ?_
        refine q_get (v := .ref h2) hC hK hV fl_X11_93 0 rfl rfl dX11_order_103 ?_
        refine q_get (v := .ref (ra2 9)) hC hK hV fl_X11_276 6 rfl rfl dX11_order_106 ?_
        refine lv_iconst (v := 0) hx hb dX11_order_109 (by decide) ?_
        refine q_iald hC hK hV 14 rfl (by decide) dX11_order_110 ?_
        refine lv_goto (tgt := 123) hx hb dX11_order_111 (by decide) ?_
        obtain rfl := Option.some.inj hf
        exact q_ret hC hr hlocks hV dX11_order_123
    · have hf := hf_f hf hc
      refine lv_iload_n hx hb dX11_order_52 rfl (lv_at hl 1 rfl) ?_
      refine lv_iload_n hx hb dX11_order_53 rfl (lv_at hl 3 rfl) ?_
      refine lv_ishr hx hb dX11_order_54 ?_
      refine lv_iconst (v := 1) hx hb dX11_order_55 (by decide) ?_
      refine lv_iand hx hb dX11_order_56 ?_
      refine lv_if_eq (tgt := 83) hx hb dX11_order_57 (by decide) (fun hc => ?_) (fun hc => ?_)
      · have hf := hf_t hf hc
        refine lv_iinc (v := (v3 + 1)) (lv' := [(3, .int (v3 + 1)), (0, .ref h0), (1, .int v1), (2, .int v2)]) hx hb dX11_order_83 hl (k := 3) rfl (by rfl) (by decide) rfl (fun ls hl => ?_)
        refine lv_goto (tgt := 46) hx hb dX11_order_86 (by decide) ?_
        exact ih v1 v2 (v3 + 1) y1_1 y1_2 x1_3 x1_4 x1_5 x1_6 x1_7 x1_8 y1_9 x1_10 x1_11 x1_12 x1_13 x1_14 y2_3 y2_4 y2_5 y2_6 y2_7 y2_8 y2_9 x2_10 y3_0 y3_1 x3_3 y4_0 y4_1 y4_2 y4_3 y4_4 x4_5 y5_0 y5_1 y5_2 y5_3 y5_4 x5_5 y6_0 y6_1 y6_2 y6_3 y6_4 x6_5 H locs ls hf (lv_sub hl [1, 2, 3, 0] rfl) hV
      · have hf := hf_f hf hc
        refine lv_aload_n hx hb dX11_order_60 rfl (lv_at hl 0 rfl) ?_
        refine q_get (v := .ref h2) hC hK hV fl_X11_93 0 rfl rfl dX11_order_61 ?_
        refine lv_iload_n hx hb dX11_order_64 rfl (lv_at hl 3 rfl) ?_
        refine lv_aload_n hx hb dX11_order_65 rfl (lv_at hl 0 rfl) ?_
        refine q_get (v := .ref (ra0 2)) hC hK hV fl_X11_25 0 rfl rfl dX11_order_66 ?_
        refine lv_aload_n hx hb dX11_order_69 rfl (lv_at hl 0 rfl) ?_
        refine q_get (v := .ref h2) hC hK hV fl_X11_93 0 rfl rfl dX11_order_70 ?_
        refine q_get (v := .ref (ra2 3)) hC hK hV fl_X11_270 6 rfl rfl dX11_order_73 ?_
        refine lv_iload_n hx hb dX11_order_76 rfl (lv_at hl 3 rfl) ?_
        obtain ⟨hi3, hf⟩ := hf_if hf
        refine q_iald hC hK hV 8 rfl hi3 dX11_order_77 ?_
        by_cases ht4 : (y2_3 v3.toNatClampNeg) = 0
        · have hf := hf_t hf ht4
          refine q_aald (j := 0) hC hK hV 1 rfl ht4 (by decide) rfl dX11_order_78 ?_
          obtain ⟨u5, hc5, hf⟩ := hf_b hf
          refine aft_i (run_v hC (k_X2_stepsOf l D cs h2 ra2 h4 ra4 h1 ra1 h3 ra3 y2_2 y2_3 y2_4 y2_5 y2_6 y2_7 y2_8 y2_9 x2_10 y4_0 y4_1 y4_2 y4_3 y4_4 x4_5 x4_6 y1_1 y1_2 x1_3 x1_4 x1_5 x1_6 x1_7 x1_8 y1_9 x1_10 x1_11 x1_12 x1_13 x1_14 y3_0 y3_1 y3_2 x3_3 v3 u5 H.size hc5) cd_X2_stepsOf cv_X2_stepsOf ml_X11_257 rfl rfl ⟨by decide, by decide⟩ hK hV (fr_pre hK hV [6, 7, 8, 9, 10, 11, 12, 13, 14, 19, 20, 21, 22, 23, 24, 2, 3, 4, 5, 15, 16, 17, 18] rfl (by decide)) (ci := 2) (q0 := 6) rfl rfl rfl rfl hl.1 rfl (Nat.le_of_ble_eq_true rfl) dX11_order_79) hV (va_free hV.2.1 hV.2.2 hA [6, 7, 8, 9, 10, 11, 12, 13, 14, 19, 20, 21, 22, 23, 24, 2, 3, 4, 5, 15, 16, 17, 18] rfl) (fr_jn (s := s) (wn := wY11 cs h0 o0_0 h3 h4 h5 h6 o0_3 o0_4 o0_5 o0_6 h1 o0_8 o0_9 o0_10 o0_11 h2 o0_13 o0_14 ra0 x0_15 ++ (wX0 cs h1 h3 ra1 u5.2.2.2.1 u5.2.2.2.2.1 u5.2.2.2.2.2.1 u5.2.2.2.2.2.2.1 u5.2.2.2.2.2.2.2.1 u5.2.2.2.2.2.2.2.2.1 u5.2.2.2.2.2.2.2.2.2.1 u5.2.2.2.2.2.2.2.2.2.2.1 u5.2.2.2.2.2.2.2.2.2.2.2.1 u5.2.2.2.2.2.2.2.2.2.2.2.2.1 u5.2.2.2.2.2.2.2.2.2.2.2.2.2.1 u5.2.2.2.2.2.2.2.2.2.2.2.2.2.2.1 u5.2.2.2.2.2.2.2.2.2.2.2.2.2.2.2.1 u5.2.2.2.2.2.2.2.2.2.2.2.2.2.2.2.2 ++ (wX2 cs h2 h3 h1 ra2 y2_2 y2_3 y2_4 y2_5 y2_6 u5.2.1 u5.2.2.1 y2_9 x2_10 ++ (wX10 cs h3 ra3 y3_0 y3_1 y3_2 x3_3 ++ (wX4 cs h4 ra4 y4_0 y4_1 y4_2 y4_3 y4_4 x4_5 x4_6 ++ (wX4 cs h5 ra5 y5_0 y5_1 y5_2 y5_3 y5_4 x5_5 x5_6 ++ (wX4 cs h6 ra6 y6_0 y6_1 y6_2 y6_3 y6_4 x6_5 x6_6))))))) hV hA [6, 7, 8, 9, 10, 11, 12, 13, 14, 19, 20, 21, 22, 23, 24, 2, 3, 4, 5, 15, 16, 17, 18] [0, 1, 25, 26, 27, 28, 29, 30, 31, 32, 33, 34, 35, 36] [0, 1, 29, 30, 31, 32, 14, 15, 16, 17, 18, 19, 20, 21, 22, 33, 34, 35, 36, 23, 24, 25, 26, 27, 28, 2, 3, 4, 5, 6, 7, 8, 9, 10, 11, 12, 13] rfl rfl (by decide) (by decide) rfl (by decide)) (fun H locs hV => ?_)
          refine lv_pop hx hb dX11_order_82 rfl ?_
          refine lv_iinc (v := (v3 + 1)) (lv' := [(3, .int (v3 + 1)), (0, .ref h0), (1, .int v1), (2, .int v2)]) hx hb dX11_order_83 hl (k := 3) rfl (by rfl) (by decide) rfl (fun ls hl => ?_)
          refine lv_goto (tgt := 46) hx hb dX11_order_86 (by decide) ?_
          exact ih v1 v2 (v3 + 1) u5.2.2.2.1 u5.2.2.2.2.1 u5.2.2.2.2.2.1 u5.2.2.2.2.2.2.1 u5.2.2.2.2.2.2.2.1 u5.2.2.2.2.2.2.2.2.1 u5.2.2.2.2.2.2.2.2.2.1 u5.2.2.2.2.2.2.2.2.2.2.1 u5.2.2.2.2.2.2.2.2.2.2.2.1 u5.2.2.2.2.2.2.2.2.2.2.2.2.1 u5.2.2.2.2.2.2.2.2.2.2.2.2.2.1 u5.2.2.2.2.2.2.2.2.2.2.2.2.2.2.1 u5.2.2.2.2.2.2.2.2.2.2.2.2.2.2.2.1 u5.2.2.2.2.2.2.2.2.2.2.2.2.2.2.2.2 y2_3 y2_4 y2_5 y2_6 u5.2.1 u5.2.2.1 y2_9 x2_10 y3_0 y3_1 x3_3 y4_0 y4_1 y4_2 y4_3 y4_4 x4_5 y5_0 y5_1 y5_2 y5_3 y5_4 x5_5 y6_0 y6_1 y6_2 y6_3 y6_4 x6_5 H locs ls hf (lv_sub hl [1, 2, 3, 0] rfl) hV
        have hf := hf_f hf ht4
        by_cases ht6 : (y2_3 v3.toNatClampNeg) = 1
        · have hf := hf_t hf ht6
          refine q_aald (j := 1) hC hK hV 1 rfl ht6 (by decide) rfl dX11_order_78 ?_
          obtain ⟨u7, hc7, hf⟩ := hf_b hf
          refine aft_i (run_v hC (k_X2_stepsOf l D cs h2 ra2 h5 ra5 h1 ra1 h3 ra3 y2_2 y2_3 y2_4 y2_5 y2_6 y2_7 y2_8 y2_9 x2_10 y5_0 y5_1 y5_2 y5_3 y5_4 x5_5 x5_6 y1_1 y1_2 x1_3 x1_4 x1_5 x1_6 x1_7 x1_8 y1_9 x1_10 x1_11 x1_12 x1_13 x1_14 y3_0 y3_1 y3_2 x3_3 v3 u7 H.size hc7) cd_X2_stepsOf cv_X2_stepsOf ml_X11_257 rfl rfl ⟨by decide, by decide⟩ hK hV (fr_pre hK hV [6, 7, 8, 9, 10, 11, 12, 13, 14, 25, 26, 27, 28, 29, 30, 2, 3, 4, 5, 15, 16, 17, 18] rfl (by decide)) (ci := 2) (q0 := 6) rfl rfl rfl rfl hl.1 rfl (Nat.le_of_ble_eq_true rfl) dX11_order_79) hV (va_free hV.2.1 hV.2.2 hA [6, 7, 8, 9, 10, 11, 12, 13, 14, 25, 26, 27, 28, 29, 30, 2, 3, 4, 5, 15, 16, 17, 18] rfl) (fr_jn (s := s) (wn := wY11 cs h0 o0_0 h3 h4 h5 h6 o0_3 o0_4 o0_5 o0_6 h1 o0_8 o0_9 o0_10 o0_11 h2 o0_13 o0_14 ra0 x0_15 ++ (wX0 cs h1 h3 ra1 u7.2.2.2.1 u7.2.2.2.2.1 u7.2.2.2.2.2.1 u7.2.2.2.2.2.2.1 u7.2.2.2.2.2.2.2.1 u7.2.2.2.2.2.2.2.2.1 u7.2.2.2.2.2.2.2.2.2.1 u7.2.2.2.2.2.2.2.2.2.2.1 u7.2.2.2.2.2.2.2.2.2.2.2.1 u7.2.2.2.2.2.2.2.2.2.2.2.2.1 u7.2.2.2.2.2.2.2.2.2.2.2.2.2.1 u7.2.2.2.2.2.2.2.2.2.2.2.2.2.2.1 u7.2.2.2.2.2.2.2.2.2.2.2.2.2.2.2.1 u7.2.2.2.2.2.2.2.2.2.2.2.2.2.2.2.2 ++ (wX2 cs h2 h3 h1 ra2 y2_2 y2_3 y2_4 y2_5 y2_6 u7.2.1 u7.2.2.1 y2_9 x2_10 ++ (wX10 cs h3 ra3 y3_0 y3_1 y3_2 x3_3 ++ (wX4 cs h4 ra4 y4_0 y4_1 y4_2 y4_3 y4_4 x4_5 x4_6 ++ (wX4 cs h5 ra5 y5_0 y5_1 y5_2 y5_3 y5_4 x5_5 x5_6 ++ (wX4 cs h6 ra6 y6_0 y6_1 y6_2 y6_3 y6_4 x6_5 x6_6))))))) hV hA [6, 7, 8, 9, 10, 11, 12, 13, 14, 25, 26, 27, 28, 29, 30, 2, 3, 4, 5, 15, 16, 17, 18] [0, 1, 19, 20, 21, 22, 23, 24, 31, 32, 33, 34, 35, 36] [0, 1, 29, 30, 31, 32, 14, 15, 16, 17, 18, 19, 20, 21, 22, 33, 34, 35, 36, 2, 3, 4, 5, 6, 7, 23, 24, 25, 26, 27, 28, 8, 9, 10, 11, 12, 13] rfl rfl (by decide) (by decide) rfl (by decide)) (fun H locs hV => ?_)
          refine lv_pop hx hb dX11_order_82 rfl ?_
          refine lv_iinc (v := (v3 + 1)) (lv' := [(3, .int (v3 + 1)), (0, .ref h0), (1, .int v1), (2, .int v2)]) hx hb dX11_order_83 hl (k := 3) rfl (by rfl) (by decide) rfl (fun ls hl => ?_)
          refine lv_goto (tgt := 46) hx hb dX11_order_86 (by decide) ?_
          exact ih v1 v2 (v3 + 1) u7.2.2.2.1 u7.2.2.2.2.1 u7.2.2.2.2.2.1 u7.2.2.2.2.2.2.1 u7.2.2.2.2.2.2.2.1 u7.2.2.2.2.2.2.2.2.1 u7.2.2.2.2.2.2.2.2.2.1 u7.2.2.2.2.2.2.2.2.2.2.1 u7.2.2.2.2.2.2.2.2.2.2.2.1 u7.2.2.2.2.2.2.2.2.2.2.2.2.1 u7.2.2.2.2.2.2.2.2.2.2.2.2.2.1 u7.2.2.2.2.2.2.2.2.2.2.2.2.2.2.1 u7.2.2.2.2.2.2.2.2.2.2.2.2.2.2.2.1 u7.2.2.2.2.2.2.2.2.2.2.2.2.2.2.2.2 y2_3 y2_4 y2_5 y2_6 u7.2.1 u7.2.2.1 y2_9 x2_10 y3_0 y3_1 x3_3 y4_0 y4_1 y4_2 y4_3 y4_4 x4_5 y5_0 y5_1 y5_2 y5_3 y5_4 x5_5 y6_0 y6_1 y6_2 y6_3 y6_4 x6_5 H locs ls hf (lv_sub hl [1, 2, 3, 0] rfl) hV
        have hf := hf_f hf ht6
        by_cases ht8 : (y2_3 v3.toNatClampNeg) = 2
        · have hf := hf_t hf ht8
          refine q_aald (j := 2) hC hK hV 1 rfl ht8 (by decide) rfl dX11_order_78 ?_
          obtain ⟨u9, hc9, hf⟩ := hf_b hf
          refine aft_i (run_v hC (k_X2_stepsOf l D cs h2 ra2 h6 ra6 h1 ra1 h3 ra3 y2_2 y2_3 y2_4 y2_5 y2_6 y2_7 y2_8 y2_9 x2_10 y6_0 y6_1 y6_2 y6_3 y6_4 x6_5 x6_6 y1_1 y1_2 x1_3 x1_4 x1_5 x1_6 x1_7 x1_8 y1_9 x1_10 x1_11 x1_12 x1_13 x1_14 y3_0 y3_1 y3_2 x3_3 v3 u9 H.size hc9) cd_X2_stepsOf cv_X2_stepsOf ml_X11_257 rfl rfl ⟨by decide, by decide⟩ hK hV (fr_pre hK hV [6, 7, 8, 9, 10, 11, 12, 13, 14, 31, 32, 33, 34, 35, 36, 2, 3, 4, 5, 15, 16, 17, 18] rfl (by decide)) (ci := 2) (q0 := 6) rfl rfl rfl rfl hl.1 rfl (Nat.le_of_ble_eq_true rfl) dX11_order_79) hV (va_free hV.2.1 hV.2.2 hA [6, 7, 8, 9, 10, 11, 12, 13, 14, 31, 32, 33, 34, 35, 36, 2, 3, 4, 5, 15, 16, 17, 18] rfl) (fr_jn (s := s) (wn := wY11 cs h0 o0_0 h3 h4 h5 h6 o0_3 o0_4 o0_5 o0_6 h1 o0_8 o0_9 o0_10 o0_11 h2 o0_13 o0_14 ra0 x0_15 ++ (wX0 cs h1 h3 ra1 u9.2.2.2.1 u9.2.2.2.2.1 u9.2.2.2.2.2.1 u9.2.2.2.2.2.2.1 u9.2.2.2.2.2.2.2.1 u9.2.2.2.2.2.2.2.2.1 u9.2.2.2.2.2.2.2.2.2.1 u9.2.2.2.2.2.2.2.2.2.2.1 u9.2.2.2.2.2.2.2.2.2.2.2.1 u9.2.2.2.2.2.2.2.2.2.2.2.2.1 u9.2.2.2.2.2.2.2.2.2.2.2.2.2.1 u9.2.2.2.2.2.2.2.2.2.2.2.2.2.2.1 u9.2.2.2.2.2.2.2.2.2.2.2.2.2.2.2.1 u9.2.2.2.2.2.2.2.2.2.2.2.2.2.2.2.2 ++ (wX2 cs h2 h3 h1 ra2 y2_2 y2_3 y2_4 y2_5 y2_6 u9.2.1 u9.2.2.1 y2_9 x2_10 ++ (wX10 cs h3 ra3 y3_0 y3_1 y3_2 x3_3 ++ (wX4 cs h4 ra4 y4_0 y4_1 y4_2 y4_3 y4_4 x4_5 x4_6 ++ (wX4 cs h5 ra5 y5_0 y5_1 y5_2 y5_3 y5_4 x5_5 x5_6 ++ (wX4 cs h6 ra6 y6_0 y6_1 y6_2 y6_3 y6_4 x6_5 x6_6))))))) hV hA [6, 7, 8, 9, 10, 11, 12, 13, 14, 31, 32, 33, 34, 35, 36, 2, 3, 4, 5, 15, 16, 17, 18] [0, 1, 19, 20, 21, 22, 23, 24, 25, 26, 27, 28, 29, 30] [0, 1, 29, 30, 31, 32, 14, 15, 16, 17, 18, 19, 20, 21, 22, 33, 34, 35, 36, 2, 3, 4, 5, 6, 7, 8, 9, 10, 11, 12, 13, 23, 24, 25, 26, 27, 28] rfl rfl (by decide) (by decide) rfl (by decide)) (fun H locs hV => ?_)
          refine lv_pop hx hb dX11_order_82 rfl ?_
          refine lv_iinc (v := (v3 + 1)) (lv' := [(3, .int (v3 + 1)), (0, .ref h0), (1, .int v1), (2, .int v2)]) hx hb dX11_order_83 hl (k := 3) rfl (by rfl) (by decide) rfl (fun ls hl => ?_)
          refine lv_goto (tgt := 46) hx hb dX11_order_86 (by decide) ?_
          exact ih v1 v2 (v3 + 1) u9.2.2.2.1 u9.2.2.2.2.1 u9.2.2.2.2.2.1 u9.2.2.2.2.2.2.1 u9.2.2.2.2.2.2.2.1 u9.2.2.2.2.2.2.2.2.1 u9.2.2.2.2.2.2.2.2.2.1 u9.2.2.2.2.2.2.2.2.2.2.1 u9.2.2.2.2.2.2.2.2.2.2.2.1 u9.2.2.2.2.2.2.2.2.2.2.2.2.1 u9.2.2.2.2.2.2.2.2.2.2.2.2.2.1 u9.2.2.2.2.2.2.2.2.2.2.2.2.2.2.1 u9.2.2.2.2.2.2.2.2.2.2.2.2.2.2.2.1 u9.2.2.2.2.2.2.2.2.2.2.2.2.2.2.2.2 y2_3 y2_4 y2_5 y2_6 u9.2.1 u9.2.2.1 y2_9 x2_10 y3_0 y3_1 x3_3 y4_0 y4_1 y4_2 y4_3 y4_4 x4_5 y5_0 y5_1 y5_2 y5_3 y5_4 x5_5 y6_0 y6_1 y6_2 y6_3 y6_4 x6_5 H locs ls hf (lv_sub hl [1, 2, 3, 0] rfl) hV
        have hf := hf_f hf ht8
        exact hf_no (show (none : Option (Int32 × (Nat → Int32) × (Nat → Int32) × Int32 × Int32 × Int32 × Int32 × Int32 × Int32 × (Nat → Int32) × Int32 × Int32 × Int32 × Int32 × Int32 × (Nat → Int32) × (Nat → Int32) × (Nat → Int32))) = some u from hf)
set_option maxHeartbeats 4000000 in
set_option maxRecDepth 100000 in
theorem b_X11_order_0 {p : Program} {l : Launch} {e : Env} {s : State} {m : MethodId} {args : Array Value} {below : List Frame} {meth : Method} {c : Code} {D : va_G} {cs : Nat → ClassId} {A : Nat → Prop} (hC : CallFix p m c cX11_order 4 s args gtbl RX11) (hr : meth.sig.returnType = (some .int)) (hlocks : meth.locks = false) (hK : KN D cs s) (hA : ∀ q : Nat, s.heap.size ≤ q → A q) (h0 : Nat) (o0_0 : Nat) (o0_3 : Nat) (o0_4 : Nat) (o0_5 : Nat) (o0_6 : Nat) (o0_8 : Nat) (o0_9 : Nat) (o0_10 : Nat) (o0_11 : Nat) (o0_13 : Nat) (o0_14 : Nat) (ra0 : Nat → Nat) (h1 : Nat) (ra1 : Nat → Nat) (h2 : Nat) (ra2 : Nat → Nat) (h3 : Nat) (ra3 : Nat → Nat) (h4 : Nat) (ra4 : Nat → Nat) (h5 : Nat) (ra5 : Nat → Nat) (h6 : Nat) (ra6 : Nat → Nat) (x0_15 : Int32) (y2_2 y3_2 : Nat → Int32) (x4_6 x5_6 x6_6 : Int32) (u : Int32 × (Nat → Int32) × (Nat → Int32) × Int32 × Int32 × Int32 × Int32 × Int32 × Int32 × (Nat → Int32) × Int32 × Int32 × Int32 × Int32 × Int32 × (Nat → Int32) × (Nat → Int32) × (Nat → Int32)) : ∀ (v1 v2 : Int32) (y1_1 y1_2 : Nat → Int32) (x1_3 x1_4 x1_5 x1_6 x1_7 x1_8 : Int32) (y1_9 : Nat → Int32) (x1_10 x1_11 x1_12 x1_13 x1_14 : Int32) (y2_3 y2_4 y2_5 y2_6 y2_7 y2_8 y2_9 : Nat → Int32) (x2_10 : Int32) (y3_0 y3_1 : Nat → Int32) (x3_3 : Int32) (y4_0 y4_1 y4_2 y4_3 y4_4 : Nat → Int32) (x4_5 : Int32) (y5_0 y5_1 y5_2 y5_3 y5_4 : Nat → Int32) (x5_5 : Int32) (y6_0 y6_1 y6_2 y6_3 y6_4 : Nat → Int32) (x6_5 : Int32) (H : Heap) (locs : List Loc) (ls : Array Slot), g_X11_order_0 v1 v2 y1_1 y1_2 x1_3 x1_4 x1_5 x1_6 x1_7 x1_8 y1_9 x1_10 x1_11 x1_12 x1_13 x1_14 y2_3 y2_4 y2_5 y2_6 y2_7 y2_8 y2_9 x2_10 y3_0 y3_1 x3_3 y4_0 y4_1 y4_2 y4_3 y4_4 x4_5 y5_0 y5_1 y5_2 y5_3 y5_4 x5_5 y6_0 y6_1 y6_2 y6_3 y6_4 x6_5 = some u → lv_has ls 4 [(0, .ref h0), (1, .int v1), (2, .int v2)] → VW D A s.heap (wY11 cs h0 o0_0 h3 h4 h5 h6 o0_3 o0_4 o0_5 o0_6 h1 o0_8 o0_9 o0_10 o0_11 h2 o0_13 o0_14 ra0 x0_15 ++ (wX0 cs h1 h3 ra1 y1_1 y1_2 x1_3 x1_4 x1_5 x1_6 x1_7 x1_8 y1_9 x1_10 x1_11 x1_12 x1_13 x1_14 ++ (wX2 cs h2 h3 h1 ra2 y2_2 y2_3 y2_4 y2_5 y2_6 y2_7 y2_8 y2_9 x2_10 ++ (wX10 cs h3 ra3 y3_0 y3_1 y3_2 x3_3 ++ (wX4 cs h4 ra4 y4_0 y4_1 y4_2 y4_3 y4_4 x4_5 x4_6 ++ (wX4 cs h5 ra5 y5_0 y5_1 y5_2 y5_3 y5_4 x5_5 x5_6 ++ (wX4 cs h6 ra6 y6_0 y6_1 y6_2 y6_3 y6_4 x6_5 x6_6))))))) H locs → W p l e rm_X11_order s m args below meth c H locs 0 0 (MQ below (QI D (wY11 cs h0 o0_0 h3 h4 h5 h6 o0_3 o0_4 o0_5 o0_6 h1 o0_8 o0_9 o0_10 o0_11 h2 o0_13 o0_14 ra0 x0_15 ++ (wX0 cs h1 h3 ra1 u.2.1 u.2.2.1 u.2.2.2.1 u.2.2.2.2.1 u.2.2.2.2.2.1 u.2.2.2.2.2.2.1 u.2.2.2.2.2.2.2.1 u.2.2.2.2.2.2.2.2.1 u.2.2.2.2.2.2.2.2.2.1 u.2.2.2.2.2.2.2.2.2.2.1 u.2.2.2.2.2.2.2.2.2.2.2.1 u.2.2.2.2.2.2.2.2.2.2.2.2.1 u.2.2.2.2.2.2.2.2.2.2.2.2.2.1 u.2.2.2.2.2.2.2.2.2.2.2.2.2.2.1 ++ (wX2 cs h2 h3 h1 ra2 y2_2 y2_3 y2_4 y2_5 y2_6 u.2.2.2.2.2.2.2.2.2.2.2.2.2.2.2.1 u.2.2.2.2.2.2.2.2.2.2.2.2.2.2.2.2.1 u.2.2.2.2.2.2.2.2.2.2.2.2.2.2.2.2.2 x2_10 ++ (wX10 cs h3 ra3 y3_0 y3_1 y3_2 x3_3 ++ (wX4 cs h4 ra4 y4_0 y4_1 y4_2 y4_3 y4_4 x4_5 x4_6 ++ (wX4 cs h5 ra5 y5_0 y5_1 y5_2 y5_3 y5_4 x5_5 x5_6 ++ (wX4 cs h6 ra6 y6_0 y6_1 y6_2 y6_3 y6_4 x6_5 x6_6))))))) A u.1) args s 0 0 A) (F0 m 0 ls []) := by
  have hx := hC.1
  have hb := hC.2.1
  have hown := hC.2.2.2.1
  have hts := hC.2.2.2.2
  intro v1 v2 y1_1 y1_2 x1_3 x1_4 x1_5 x1_6 x1_7 x1_8 y1_9 x1_10 x1_11 x1_12 x1_13 x1_14 y2_3 y2_4 y2_5 y2_6 y2_7 y2_8 y2_9 x2_10 y3_0 y3_1 x3_3 y4_0 y4_1 y4_2 y4_3 y4_4 x4_5 y5_0 y5_1 y5_2 y5_3 y5_4 x5_5 y6_0 y6_1 y6_2 y6_3 y6_4 x6_5 H locs ls hf hl hV
  refine lv_iload_n hx hb dX11_order_0 rfl (lv_at hl 1 rfl) ?_
  refine lv_iconst (v := 1) hx hb dX11_order_1 (by decide) ?_
  refine lv_sipush (v := 255) hx hb dX11_order_2 (by decide) ?_
  obtain ⟨u1, hc1, hf⟩ := hf_b hf
  refine aft_i (run_s hC (k_X11_within l D cs v1 1 255 u1 H.size hc1) cd_X11_within st_X11_within ml_X11_115 rfl rfl ⟨by decide, by decide⟩ (fr_pre hK hV [] rfl (by decide)) rfl hl.1 rfl (Nat.le_of_ble_eq_true rfl) dX11_order_5) hV (va_free hV.2.1 hV.2.2 hA [] rfl) (fr_jn (s := s) (wn := wY11 cs h0 o0_0 h3 h4 h5 h6 o0_3 o0_4 o0_5 o0_6 h1 o0_8 o0_9 o0_10 o0_11 h2 o0_13 o0_14 ra0 x0_15 ++ (wX0 cs h1 h3 ra1 y1_1 y1_2 x1_3 x1_4 x1_5 x1_6 x1_7 x1_8 y1_9 x1_10 x1_11 x1_12 x1_13 x1_14 ++ (wX2 cs h2 h3 h1 ra2 y2_2 y2_3 y2_4 y2_5 y2_6 y2_7 y2_8 y2_9 x2_10 ++ (wX10 cs h3 ra3 y3_0 y3_1 y3_2 x3_3 ++ (wX4 cs h4 ra4 y4_0 y4_1 y4_2 y4_3 y4_4 x4_5 x4_6 ++ (wX4 cs h5 ra5 y5_0 y5_1 y5_2 y5_3 y5_4 x5_5 x5_6 ++ (wX4 cs h6 ra6 y6_0 y6_1 y6_2 y6_3 y6_4 x6_5 x6_6))))))) hV hA [] [0, 1, 2, 3, 4, 5, 6, 7, 8, 9, 10, 11, 12, 13, 14, 15, 16, 17, 18, 19, 20, 21, 22, 23, 24, 25, 26, 27, 28, 29, 30, 31, 32, 33, 34, 35, 36] [0, 1, 2, 3, 4, 5, 6, 7, 8, 9, 10, 11, 12, 13, 14, 15, 16, 17, 18, 19, 20, 21, 22, 23, 24, 25, 26, 27, 28, 29, 30, 31, 32, 33, 34, 35, 36] rfl rfl (by decide) (by decide) rfl (by decide)) (fun H locs hV => ?_)
  refine lv_if_eq (tgt := 25) hx hb dX11_order_8 (by decide) (fun hc => ?_) (fun hc => ?_)
  · have hf := hf_t hf hc
    refine lv_iconst (v := (-1)) hx hb dX11_order_25 (by decide) ?_
    obtain rfl := Option.some.inj hf
    exact q_ret hC hr hlocks hV dX11_order_26
  · have hf := hf_f hf hc
    refine lv_iload_n hx hb dX11_order_11 rfl (lv_at hl 2 rfl) ?_
    refine lv_iconst (v := (-1)) hx hb dX11_order_12 (by decide) ?_
    refine lv_iload_n hx hb dX11_order_13 rfl (lv_at hl 1 rfl) ?_
    obtain ⟨u2, hc2, hf⟩ := hf_b hf
    refine aft_i (run_s hC (k_J6_bitCount_0f7a4 l D cs v1 u2 H.size hc2) cd_J6_bitCount_0f7a4 st_J6_bitCount_0f7a4 ml_X11_261 rfl rfl ⟨by decide, by decide⟩ (fr_pre hK hV [] rfl (by decide)) rfl hl.1 rfl (Nat.le_of_ble_eq_true rfl) dX11_order_14) hV (va_free hV.2.1 hV.2.2 hA [] rfl) (fr_jn (s := s) (wn := wY11 cs h0 o0_0 h3 h4 h5 h6 o0_3 o0_4 o0_5 o0_6 h1 o0_8 o0_9 o0_10 o0_11 h2 o0_13 o0_14 ra0 x0_15 ++ (wX0 cs h1 h3 ra1 y1_1 y1_2 x1_3 x1_4 x1_5 x1_6 x1_7 x1_8 y1_9 x1_10 x1_11 x1_12 x1_13 x1_14 ++ (wX2 cs h2 h3 h1 ra2 y2_2 y2_3 y2_4 y2_5 y2_6 y2_7 y2_8 y2_9 x2_10 ++ (wX10 cs h3 ra3 y3_0 y3_1 y3_2 x3_3 ++ (wX4 cs h4 ra4 y4_0 y4_1 y4_2 y4_3 y4_4 x4_5 x4_6 ++ (wX4 cs h5 ra5 y5_0 y5_1 y5_2 y5_3 y5_4 x5_5 x5_6 ++ (wX4 cs h6 ra6 y6_0 y6_1 y6_2 y6_3 y6_4 x6_5 x6_6))))))) hV hA [] [0, 1, 2, 3, 4, 5, 6, 7, 8, 9, 10, 11, 12, 13, 14, 15, 16, 17, 18, 19, 20, 21, 22, 23, 24, 25, 26, 27, 28, 29, 30, 31, 32, 33, 34, 35, 36] [0, 1, 2, 3, 4, 5, 6, 7, 8, 9, 10, 11, 12, 13, 14, 15, 16, 17, 18, 19, 20, 21, 22, 23, 24, 25, 26, 27, 28, 29, 30, 31, 32, 33, 34, 35, 36] rfl rfl (by decide) (by decide) rfl (by decide)) (fun H locs hV => ?_)
    refine lv_iconst (v := 1) hx hb dX11_order_17 (by decide) ?_
    refine lv_isub hx hb dX11_order_18 ?_
    obtain ⟨u3, hc3, hf⟩ := hf_b hf
    refine aft_i (run_s hC (k_X11_within l D cs v2 (-1) (u2 - 1) u3 H.size hc3) cd_X11_within st_X11_within ml_X11_115 rfl rfl ⟨by decide, by decide⟩ (fr_pre hK hV [] rfl (by decide)) rfl hl.1 rfl (Nat.le_of_ble_eq_true rfl) dX11_order_19) hV (va_free hV.2.1 hV.2.2 hA [] rfl) (fr_jn (s := s) (wn := wY11 cs h0 o0_0 h3 h4 h5 h6 o0_3 o0_4 o0_5 o0_6 h1 o0_8 o0_9 o0_10 o0_11 h2 o0_13 o0_14 ra0 x0_15 ++ (wX0 cs h1 h3 ra1 y1_1 y1_2 x1_3 x1_4 x1_5 x1_6 x1_7 x1_8 y1_9 x1_10 x1_11 x1_12 x1_13 x1_14 ++ (wX2 cs h2 h3 h1 ra2 y2_2 y2_3 y2_4 y2_5 y2_6 y2_7 y2_8 y2_9 x2_10 ++ (wX10 cs h3 ra3 y3_0 y3_1 y3_2 x3_3 ++ (wX4 cs h4 ra4 y4_0 y4_1 y4_2 y4_3 y4_4 x4_5 x4_6 ++ (wX4 cs h5 ra5 y5_0 y5_1 y5_2 y5_3 y5_4 x5_5 x5_6 ++ (wX4 cs h6 ra6 y6_0 y6_1 y6_2 y6_3 y6_4 x6_5 x6_6))))))) hV hA [] [0, 1, 2, 3, 4, 5, 6, 7, 8, 9, 10, 11, 12, 13, 14, 15, 16, 17, 18, 19, 20, 21, 22, 23, 24, 25, 26, 27, 28, 29, 30, 31, 32, 33, 34, 35, 36] [0, 1, 2, 3, 4, 5, 6, 7, 8, 9, 10, 11, 12, 13, 14, 15, 16, 17, 18, 19, 20, 21, 22, 23, 24, 25, 26, 27, 28, 29, 30, 31, 32, 33, 34, 35, 36] rfl rfl (by decide) (by decide) rfl (by decide)) (fun H locs hV => ?_)
    refine lv_if_ne (tgt := 27) hx hb dX11_order_22 (by decide) (fun hc => ?_) (fun hc => ?_)
    · have hf := hf_f hf hc
      refine lv_iload_n hx hb dX11_order_27 rfl (lv_at hl 1 rfl) ?_
      refine lv_aload_n hx hb dX11_order_28 rfl (lv_at hl 0 rfl) ?_
      refine q_get (v := .ref h2) hC hK hV fl_X11_93 0 rfl rfl dX11_order_29 ?_
      refine q_get (v := .int x2_10) hC hK hV fl_X11_267 6 rfl rfl dX11_order_32 ?_
      refine lv_iconst (v := (-1)) hx hb dX11_order_35 (by decide) ?_
      refine lv_ixor hx hb dX11_order_36 ?_
      refine lv_iand hx hb dX11_order_37 ?_
      refine lv_if_eq (tgt := 44) hx hb dX11_order_38 (by decide) (fun hc => ?_) (fun hc => ?_)
      · have hf := hf_t hf hc
        refine lv_iconst (v := 0) hx hb dX11_order_44 (by decide) ?_
        refine lv_istore_n (lv' := [(3, .int 0), (0, .ref h0), (1, .int v1), (2, .int v2)]) hx hb dX11_order_45 rfl hl (by decide) rfl (fun ls hl => ?_)
        exact b_X11_order_46 hC hr hlocks hK hA h0 o0_0 o0_3 o0_4 o0_5 o0_6 o0_8 o0_9 o0_10 o0_11 o0_13 o0_14 ra0 h1 ra1 h2 ra2 h3 ra3 h4 ra4 h5 ra5 h6 ra6 x0_15 y2_2 y3_2 x4_6 x5_6 x6_6 u FU v1 v2 0 y1_1 y1_2 x1_3 x1_4 x1_5 x1_6 x1_7 x1_8 y1_9 x1_10 x1_11 x1_12 x1_13 x1_14 y2_3 y2_4 y2_5 y2_6 y2_7 y2_8 y2_9 x2_10 y3_0 y3_1 x3_3 y4_0 y4_1 y4_2 y4_3 y4_4 x4_5 y5_0 y5_1 y5_2 y5_3 y5_4 x5_5 y6_0 y6_1 y6_2 y6_3 y6_4 x6_5 H locs ls hf (lv_sub hl [1, 2, 3, 0] rfl) hV
      · have hf := hf_f hf hc
        refine lv_bipush (v := (-2)) hx hb dX11_order_41 (by decide) ?_
        obtain rfl := Option.some.inj hf
        exact q_ret hC hr hlocks hV dX11_order_43
    · have hf := hf_t hf hc
      refine lv_iconst (v := (-1)) hx hb dX11_order_25 (by decide) ?_
      obtain rfl := Option.some.inj hf
      exact q_ret hC hr hlocks hV dX11_order_26
set_option maxRecDepth 100000 in
theorem k_X11_order (l : Launch) (D : va_G) (cs : Nat → ClassId) (h0 : Nat) (o0_0 : Nat) (o0_3 : Nat) (o0_4 : Nat) (o0_5 : Nat) (o0_6 : Nat) (o0_8 : Nat) (o0_9 : Nat) (o0_10 : Nat) (o0_11 : Nat) (o0_13 : Nat) (o0_14 : Nat) (ra0 : Nat → Nat) (h1 : Nat) (ra1 : Nat → Nat) (h2 : Nat) (ra2 : Nat → Nat) (h3 : Nat) (ra3 : Nat → Nat) (h4 : Nat) (ra4 : Nat → Nat) (h5 : Nat) (ra5 : Nat → Nat) (h6 : Nat) (ra6 : Nat → Nat) (x0_15 : Int32) (y1_1 y1_2 : Nat → Int32) (x1_3 x1_4 x1_5 x1_6 x1_7 x1_8 : Int32) (y1_9 : Nat → Int32) (x1_10 x1_11 x1_12 x1_13 x1_14 : Int32) (y2_2 y2_3 y2_4 y2_5 y2_6 y2_7 y2_8 y2_9 : Nat → Int32) (x2_10 : Int32) (y3_0 y3_1 y3_2 : Nat → Int32) (x3_3 : Int32) (y4_0 y4_1 y4_2 y4_3 y4_4 : Nat → Int32) (x4_5 x4_6 : Int32) (y5_0 y5_1 y5_2 y5_3 y5_4 : Nat → Int32) (x5_5 x5_6 : Int32) (y6_0 y6_1 y6_2 y6_3 y6_4 : Nat → Int32) (x6_5 x6_6 : Int32) (v1 v2 : Int32) (u : Int32 × (Nat → Int32) × (Nat → Int32) × Int32 × Int32 × Int32 × Int32 × Int32 × Int32 × (Nat → Int32) × Int32 × Int32 × Int32 × Int32 × Int32 × (Nat → Int32) × (Nat → Int32) × (Nat → Int32)) (sz : Nat) (hf : f_X11_order v1 v2 y1_1 y1_2 x1_3 x1_4 x1_5 x1_6 x1_7 x1_8 y1_9 x1_10 x1_11 x1_12 x1_13 x1_14 y2_3 y2_4 y2_5 y2_6 y2_7 y2_8 y2_9 x2_10 y3_0 y3_1 x3_3 y4_0 y4_1 y4_2 y4_3 y4_4 x4_5 y5_0 y5_1 y5_2 y5_3 y5_4 x5_5 y6_0 y6_1 y6_2 y6_3 y6_4 x6_5 = some u) : Met l yX11_order (WS yX11_order cX11_order 4 (some .int)) rm_X11_order (va_Pc [.ref h0, .int v1, .int v2] (PR D cs (wY11 cs h0 o0_0 h3 h4 h5 h6 o0_3 o0_4 o0_5 o0_6 h1 o0_8 o0_9 o0_10 o0_11 h2 o0_13 o0_14 ra0 x0_15 ++ (wX0 cs h1 h3 ra1 y1_1 y1_2 x1_3 x1_4 x1_5 x1_6 x1_7 x1_8 y1_9 x1_10 x1_11 x1_12 x1_13 x1_14 ++ (wX2 cs h2 h3 h1 ra2 y2_2 y2_3 y2_4 y2_5 y2_6 y2_7 y2_8 y2_9 x2_10 ++ (wX10 cs h3 ra3 y3_0 y3_1 y3_2 x3_3 ++ (wX4 cs h4 ra4 y4_0 y4_1 y4_2 y4_3 y4_4 x4_5 x4_6 ++ (wX4 cs h5 ra5 y5_0 y5_1 y5_2 y5_3 y5_4 x5_5 x5_6 ++ (wX4 cs h6 ra6 y6_0 y6_1 y6_2 y6_3 y6_4 x6_5 x6_6))))))) sz)) (QI D (wY11 cs h0 o0_0 h3 h4 h5 h6 o0_3 o0_4 o0_5 o0_6 h1 o0_8 o0_9 o0_10 o0_11 h2 o0_13 o0_14 ra0 x0_15 ++ (wX0 cs h1 h3 ra1 u.2.1 u.2.2.1 u.2.2.2.1 u.2.2.2.2.1 u.2.2.2.2.2.1 u.2.2.2.2.2.2.1 u.2.2.2.2.2.2.2.1 u.2.2.2.2.2.2.2.2.1 u.2.2.2.2.2.2.2.2.2.1 u.2.2.2.2.2.2.2.2.2.2.1 u.2.2.2.2.2.2.2.2.2.2.2.1 u.2.2.2.2.2.2.2.2.2.2.2.2.1 u.2.2.2.2.2.2.2.2.2.2.2.2.2.1 u.2.2.2.2.2.2.2.2.2.2.2.2.2.2.1 ++ (wX2 cs h2 h3 h1 ra2 y2_2 y2_3 y2_4 y2_5 y2_6 u.2.2.2.2.2.2.2.2.2.2.2.2.2.2.2.1 u.2.2.2.2.2.2.2.2.2.2.2.2.2.2.2.2.1 u.2.2.2.2.2.2.2.2.2.2.2.2.2.2.2.2.2 x2_10 ++ (wX10 cs h3 ra3 y3_0 y3_1 y3_2 x3_3 ++ (wX4 cs h4 ra4 y4_0 y4_1 y4_2 y4_3 y4_4 x4_5 x4_6 ++ (wX4 cs h5 ra5 y5_0 y5_1 y5_2 y5_3 y5_4 x5_5 x5_6 ++ (wX4 cs h6 ra6 y6_0 y6_1 y6_2 y6_3 y6_4 x6_5 x6_6))))))) (va_A (wY11 cs h0 o0_0 h3 h4 h5 h6 o0_3 o0_4 o0_5 o0_6 h1 o0_8 o0_9 o0_10 o0_11 h2 o0_13 o0_14 ra0 x0_15 ++ (wX0 cs h1 h3 ra1 y1_1 y1_2 x1_3 x1_4 x1_5 x1_6 x1_7 x1_8 y1_9 x1_10 x1_11 x1_12 x1_13 x1_14 ++ (wX2 cs h2 h3 h1 ra2 y2_2 y2_3 y2_4 y2_5 y2_6 y2_7 y2_8 y2_9 x2_10 ++ (wX10 cs h3 ra3 y3_0 y3_1 y3_2 x3_3 ++ (wX4 cs h4 ra4 y4_0 y4_1 y4_2 y4_3 y4_4 x4_5 x4_6 ++ (wX4 cs h5 ra5 y5_0 y5_1 y5_2 y5_3 y5_4 x5_5 x5_6 ++ (wX4 cs h6 ra6 y6_0 y6_1 y6_2 y6_3 y6_4 x6_5 x6_6))))))) sz) u.1) 0 0 (va_A (wY11 cs h0 o0_0 h3 h4 h5 h6 o0_3 o0_4 o0_5 o0_6 h1 o0_8 o0_9 o0_10 o0_11 h2 o0_13 o0_14 ra0 x0_15 ++ (wX0 cs h1 h3 ra1 y1_1 y1_2 x1_3 x1_4 x1_5 x1_6 x1_7 x1_8 y1_9 x1_10 x1_11 x1_12 x1_13 x1_14 ++ (wX2 cs h2 h3 h1 ra2 y2_2 y2_3 y2_4 y2_5 y2_6 y2_7 y2_8 y2_9 x2_10 ++ (wX10 cs h3 ra3 y3_0 y3_1 y3_2 x3_3 ++ (wX4 cs h4 ra4 y4_0 y4_1 y4_2 y4_3 y4_4 x4_5 x4_6 ++ (wX4 cs h5 ra5 y5_0 y5_1 y5_2 y5_3 y5_4 x5_5 x5_6 ++ (wX4 cs h6 ra6 y6_0 y6_1 y6_2 y6_3 y6_4 x6_5 x6_6))))))) sz) := by
  refine met_of RX11 rfl (by decide) (Nat.le_of_ble_eq_true rfl) ?_
  intro p e s m args below meth c hC hr hlocks hK hsz hA hV ls hl
  exact b_X11_order_0 hC hr hlocks hK hA h0 o0_0 o0_3 o0_4 o0_5 o0_6 o0_8 o0_9 o0_10 o0_11 o0_13 o0_14 ra0 h1 ra1 h2 ra2 h3 ra3 h4 ra4 h5 ra5 h6 ra6 x0_15 y2_2 y3_2 x4_6 x5_6 x6_6 u v1 v2 y1_1 y1_2 x1_3 x1_4 x1_5 x1_6 x1_7 x1_8 y1_9 x1_10 x1_11 x1_12 x1_13 x1_14 y2_3 y2_4 y2_5 y2_6 y2_7 y2_8 y2_9 x2_10 y3_0 y3_1 x3_3 y4_0 y4_1 y4_2 y4_3 y4_4 x4_5 y5_0 y5_1 y5_2 y5_3 y5_4 x5_5 y6_0 y6_1 y6_2 y6_3 y6_4 x6_5 s.heap [] ls hf (lv_sub hl [0, 1, 2] rfl) hV
def rm_X11_seed : Room := { frames := 1, cells := 0, slots := 0, locals := 22 }
set_option maxHeartbeats 4000000 in
set_option maxRecDepth 100000 in
theorem b_X11_seed_0 {p : Program} {l : Launch} {e : Env} {s : State} {m : MethodId} {args : Array Value} {below : List Frame} {meth : Method} {c : Code} {D : va_G} {cs : Nat → ClassId} {A : Nat → Prop} (hC : CallFix p m c cX11_seed 2 s args gtbl RX11) (hr : meth.sig.returnType = (some .boolean)) (hlocks : meth.locks = false) (hK : KN D cs s) (hA : ∀ q : Nat, s.heap.size ≤ q → A q) (h0 : Nat) (o0_0 : Nat) (o0_1 : Nat) (o0_2a : Nat) (o0_2b : Nat) (o0_2c : Nat) (o0_3 : Nat) (o0_4 : Nat) (o0_5 : Nat) (o0_6 : Nat) (o0_7 : Nat) (o0_8 : Nat) (o0_9 : Nat) (o0_10 : Nat) (o0_11 : Nat) (o0_12 : Nat) (o0_14 : Nat) (ra0 : Nat → Nat) (h1 : Nat) (ra1 : Nat → Nat) (x0_15 : Int32) (y1_0 : Nat → Int32) (x1_1 x1_2 x1_3 : Int32) (u : Int32 × Int32) : ∀ (v1 x1_4 : Int32) (H : Heap) (locs : List Loc) (ls : Array Slot), g_X11_seed_0 v1 x1_4 = some u → lv_has ls 2 [(0, .ref h0), (1, .int v1)] → VW D A s.heap (wY11 cs h0 o0_0 o0_1 o0_2a o0_2b o0_2c o0_3 o0_4 o0_5 o0_6 o0_7 o0_8 o0_9 o0_10 o0_11 o0_12 h1 o0_14 ra0 x0_15 ++ (wX1 cs h1 ra1 y1_0 x1_1 x1_2 x1_3 x1_4)) H locs → W p l e rm_X11_seed s m args below meth c H locs 0 0 (MQ below (QI D (wY11 cs h0 o0_0 o0_1 o0_2a o0_2b o0_2c o0_3 o0_4 o0_5 o0_6 o0_7 o0_8 o0_9 o0_10 o0_11 o0_12 h1 o0_14 ra0 x0_15 ++ (wX1 cs h1 ra1 y1_0 x1_1 x1_2 x1_3 u.2)) A u.1) args s 0 0 A) (F0 m 0 ls []) := by
  have hx := hC.1
  have hb := hC.2.1
  have hown := hC.2.2.2.1
  have hts := hC.2.2.2.2
  intro v1 x1_4 H locs ls hf hl hV
  refine lv_iload_n hx hb dX11_seed_0 rfl (lv_at hl 1 rfl) ?_
  refine lv_iconst (v := 0) hx hb dX11_seed_1 (by decide) ?_
  refine lv_ldcw (v := 65535) hx hb hown (hts _ kc_X11_283) dX11_seed_2 ?_
  obtain ⟨u1, hc1, hf⟩ := hf_b hf
  refine aft_i (run_s hC (k_X11_within l D cs v1 0 65535 u1 H.size hc1) cd_X11_within st_X11_within ml_X11_115 rfl rfl ⟨by decide, by decide⟩ (fr_pre hK hV [] rfl (by decide)) rfl hl.1 rfl (Nat.le_of_ble_eq_true rfl) dX11_seed_5) hV (va_free hV.2.1 hV.2.2 hA [] rfl) (fr_jn (s := s) (wn := wY11 cs h0 o0_0 o0_1 o0_2a o0_2b o0_2c o0_3 o0_4 o0_5 o0_6 o0_7 o0_8 o0_9 o0_10 o0_11 o0_12 h1 o0_14 ra0 x0_15 ++ (wX1 cs h1 ra1 y1_0 x1_1 x1_2 x1_3 x1_4)) hV hA [] [0, 1, 2, 3] [0, 1, 2, 3] rfl rfl (by decide) (by decide) rfl (by decide)) (fun H locs hV => ?_)
  refine lv_if_ne (tgt := 13) hx hb dX11_seed_8 (by decide) (fun hc => ?_) (fun hc => ?_)
  · have hf := hf_f hf hc
    refine lv_aload_n hx hb dX11_seed_13 rfl (lv_at hl 0 rfl) ?_
    refine q_get (v := .ref h1) hC hK hV fl_X11_100 0 rfl rfl dX11_seed_14 ?_
    refine lv_iload_n hx hb dX11_seed_17 rfl (lv_at hl 1 rfl) ?_
    refine q_puti (wn := wY11 cs h0 o0_0 o0_1 o0_2a o0_2b o0_2c o0_3 o0_4 o0_5 o0_6 o0_7 o0_8 o0_9 o0_10 o0_11 o0_12 h1 o0_14 ra0 x0_15 ++ (wX1 cs h1 ra1 y1_0 x1_1 x1_2 x1_3 v1)) hC hK hV fl_X11_104 ptX1 rfl rfl 2 rfl (Nat.le_of_ble_eq_true rfl) rfl dX11_seed_18 (fun H locs hV => ?_)
    refine lv_iconst (v := 1) hx hb dX11_seed_21 (by decide) ?_
    obtain rfl := Option.some.inj hf
    exact q_retz hC hr hlocks hV (Or.inr rfl) dX11_seed_22
  · have hf := hf_t hf hc
    refine lv_iconst (v := 0) hx hb dX11_seed_11 (by decide) ?_
    obtain rfl := Option.some.inj hf
    exact q_retz hC hr hlocks hV (Or.inl rfl) dX11_seed_12
set_option maxRecDepth 100000 in
theorem k_X11_seed (l : Launch) (D : va_G) (cs : Nat → ClassId) (h0 : Nat) (o0_0 : Nat) (o0_1 : Nat) (o0_2a : Nat) (o0_2b : Nat) (o0_2c : Nat) (o0_3 : Nat) (o0_4 : Nat) (o0_5 : Nat) (o0_6 : Nat) (o0_7 : Nat) (o0_8 : Nat) (o0_9 : Nat) (o0_10 : Nat) (o0_11 : Nat) (o0_12 : Nat) (o0_14 : Nat) (ra0 : Nat → Nat) (h1 : Nat) (ra1 : Nat → Nat) (x0_15 : Int32) (y1_0 : Nat → Int32) (x1_1 x1_2 x1_3 x1_4 : Int32) (v1 : Int32) (u : Int32 × Int32) (sz : Nat) (hf : f_X11_seed v1 x1_4 = some u) : Met l yX11_seed (WS yX11_seed cX11_seed 2 (some .boolean)) rm_X11_seed (va_Pc [.ref h0, .int v1] (PR D cs (wY11 cs h0 o0_0 o0_1 o0_2a o0_2b o0_2c o0_3 o0_4 o0_5 o0_6 o0_7 o0_8 o0_9 o0_10 o0_11 o0_12 h1 o0_14 ra0 x0_15 ++ (wX1 cs h1 ra1 y1_0 x1_1 x1_2 x1_3 x1_4)) sz)) (QI D (wY11 cs h0 o0_0 o0_1 o0_2a o0_2b o0_2c o0_3 o0_4 o0_5 o0_6 o0_7 o0_8 o0_9 o0_10 o0_11 o0_12 h1 o0_14 ra0 x0_15 ++ (wX1 cs h1 ra1 y1_0 x1_1 x1_2 x1_3 u.2)) (va_A (wY11 cs h0 o0_0 o0_1 o0_2a o0_2b o0_2c o0_3 o0_4 o0_5 o0_6 o0_7 o0_8 o0_9 o0_10 o0_11 o0_12 h1 o0_14 ra0 x0_15 ++ (wX1 cs h1 ra1 y1_0 x1_1 x1_2 x1_3 x1_4)) sz) u.1) 0 0 (va_A (wY11 cs h0 o0_0 o0_1 o0_2a o0_2b o0_2c o0_3 o0_4 o0_5 o0_6 o0_7 o0_8 o0_9 o0_10 o0_11 o0_12 h1 o0_14 ra0 x0_15 ++ (wX1 cs h1 ra1 y1_0 x1_1 x1_2 x1_3 x1_4)) sz) := by
  refine met_of RX11 rfl (by decide) (Nat.le_of_ble_eq_true rfl) ?_
  intro p e s m args below meth c hC hr hlocks hK hsz hA hV ls hl
  exact b_X11_seed_0 hC hr hlocks hK hA h0 o0_0 o0_1 o0_2a o0_2b o0_2c o0_3 o0_4 o0_5 o0_6 o0_7 o0_8 o0_9 o0_10 o0_11 o0_12 o0_14 ra0 h1 ra1 x0_15 y1_0 x1_1 x1_2 x1_3 u v1 x1_4 s.heap [] ls hf (lv_sub hl [0, 1] rfl) hV
def rm_X11_pourAtNight : Room := { frames := 0, cells := 0, slots := 0, locals := 0 }
set_option maxHeartbeats 4000000 in
set_option maxRecDepth 100000 in
theorem b_X11_pourAtNight_0 {p : Program} {l : Launch} {e : Env} {s : State} {m : MethodId} {args : Array Value} {below : List Frame} {meth : Method} {c : Code} {D : va_G} {cs : Nat → ClassId} {A : Nat → Prop} (hC : CallFix p m c cX11_pourAtNight 3 s args gtbl RX11) (hr : meth.sig.returnType = (some .int)) (hlocks : meth.locks = false) (hK : KN D cs s) (hA : ∀ q : Nat, s.heap.size ≤ q → A q) (h0 : Nat) (o0_0 : Nat) (o0_2a : Nat) (o0_2b : Nat) (o0_2c : Nat) (o0_3 : Nat) (o0_4 : Nat) (o0_5 : Nat) (o0_6 : Nat) (o0_7 : Nat) (o0_8 : Nat) (o0_9 : Nat) (o0_10 : Nat) (o0_11 : Nat) (o0_12 : Nat) (o0_13 : Nat) (o0_14 : Nat) (ra0 : Nat → Nat) (h1 : Nat) (ra1 : Nat → Nat) (x0_15 : Int32) (y1_0 : Nat → Int32) (x1_3 : Int32) (u : Int32 × (Nat → Int32)) : ∀ (v1 v2 : Int32) (y1_1 y1_2 : Nat → Int32) (H : Heap) (locs : List Loc) (ls : Array Slot), g_X11_pourAtNight_0 v1 v2 y1_1 y1_2 = some u → lv_has ls 3 [(0, .ref h0), (1, .int v1), (2, .int v2)] → VW D A s.heap (wY11 cs h0 o0_0 h1 o0_2a o0_2b o0_2c o0_3 o0_4 o0_5 o0_6 o0_7 o0_8 o0_9 o0_10 o0_11 o0_12 o0_13 o0_14 ra0 x0_15 ++ (wX10 cs h1 ra1 y1_0 y1_1 y1_2 x1_3)) H locs → W p l e rm_X11_pourAtNight s m args below meth c H locs 0 0 (MQ below (QI D (wY11 cs h0 o0_0 h1 o0_2a o0_2b o0_2c o0_3 o0_4 o0_5 o0_6 o0_7 o0_8 o0_9 o0_10 o0_11 o0_12 o0_13 o0_14 ra0 x0_15 ++ (wX10 cs h1 ra1 y1_0 y1_1 u.2 x1_3)) A u.1) args s 0 0 A) (F0 m 0 ls []) := by
  have hx := hC.1
  have hb := hC.2.1
  have hown := hC.2.2.2.1
  have hts := hC.2.2.2.2
  intro v1 v2 y1_1 y1_2 H locs ls hf hl hV
  refine lv_iload_n hx hb dX11_pourAtNight_0 rfl (lv_at hl 2 rfl) ?_
  refine lv_if_ne (tgt := 33) hx hb dX11_pourAtNight_1 (by decide) (fun hc => ?_) (fun hc => ?_)
  · have hf := hf_f hf hc
    refine lv_aload_n hx hb dX11_pourAtNight_33 rfl (lv_at hl 0 rfl) ?_
    refine q_get (v := .ref h1) hC hK hV fl_X11_19 0 rfl rfl dX11_pourAtNight_34 ?_
    refine q_get (v := .ref (ra1 2)) hC hK hV fl_X11_157 2 rfl rfl dX11_pourAtNight_37 ?_
    refine lv_iload_n hx hb dX11_pourAtNight_40 rfl (lv_at hl 1 rfl) ?_
    obtain ⟨hi1, hf⟩ := hf_if hf
    refine q_iald hC hK hV 5 rfl hi1 dX11_pourAtNight_41 ?_
    refine lv_aload_n hx hb dX11_pourAtNight_42 rfl (lv_at hl 0 rfl) ?_
    refine q_get (v := .ref h1) hC hK hV fl_X11_19 0 rfl rfl dX11_pourAtNight_43 ?_
    refine q_get (v := .ref (ra1 1)) hC hK hV fl_X11_304 2 rfl rfl dX11_pourAtNight_46 ?_
    refine lv_iload_n hx hb dX11_pourAtNight_49 rfl (lv_at hl 1 rfl) ?_
    refine q_iald hC hK hV 4 rfl hi1 dX11_pourAtNight_50 ?_
    refine lv_icmp_lt (tgt := 56) hx hb dX11_pourAtNight_51 (by decide) (fun hc => ?_) (fun hc => ?_)
    · have hf := hf_t hf hc
      refine lv_aload_n hx hb dX11_pourAtNight_56 rfl (lv_at hl 0 rfl) ?_
      refine q_get (v := .ref h1) hC hK hV fl_X11_19 0 rfl rfl dX11_pourAtNight_57 ?_
      refine q_get (v := .ref (ra1 2)) hC hK hV fl_X11_157 2 rfl rfl dX11_pourAtNight_60 ?_
      refine lv_iload_n hx hb dX11_pourAtNight_63 rfl (lv_at hl 1 rfl) ?_
      refine lv_dup2_11 hx hb dX11_pourAtNight_64 rfl rfl ?_
      refine q_iald hC hK hV 5 rfl hi1 dX11_pourAtNight_65 ?_
      refine lv_iconst (v := 1) hx hb dX11_pourAtNight_66 (by decide) ?_
      refine lv_iadd hx hb dX11_pourAtNight_67 ?_
      refine q_iast (wn := wY11 cs h0 o0_0 h1 o0_2a o0_2b o0_2c o0_3 o0_4 o0_5 o0_6 o0_7 o0_8 o0_9 o0_10 o0_11 o0_12 o0_13 o0_14 ra0 x0_15 ++ (wX10 cs h1 ra1 y1_0 y1_1 (upd y1_2 v1.toNatClampNeg ((y1_2 v1.toNatClampNeg) + 1)) x1_3)) hC hK hV 5 rfl hi1 rfl dX11_pourAtNight_68 (fun H locs hV => ?_)
      refine lv_iconst (v := 0) hx hb dX11_pourAtNight_69 (by decide) ?_
      obtain rfl := Option.some.inj hf
      exact q_ret hC hr hlocks hV dX11_pourAtNight_70
    · have hf := hf_f hf hc
      refine lv_iconst (v := 1) hx hb dX11_pourAtNight_54 (by decide) ?_
      obtain rfl := Option.some.inj hf
      exact q_ret hC hr hlocks hV dX11_pourAtNight_55
  · have hf := hf_t hf hc
    refine lv_aload_n hx hb dX11_pourAtNight_4 rfl (lv_at hl 0 rfl) ?_
    refine q_get (v := .ref h1) hC hK hV fl_X11_19 0 rfl rfl dX11_pourAtNight_5 ?_
    refine q_get (v := .ref (ra1 2)) hC hK hV fl_X11_157 2 rfl rfl dX11_pourAtNight_8 ?_
    refine lv_iload_n hx hb dX11_pourAtNight_11 rfl (lv_at hl 1 rfl) ?_
    obtain ⟨hi2, hf⟩ := hf_if hf
    refine q_iald hC hK hV 5 rfl hi2 dX11_pourAtNight_12 ?_
    refine lv_if_ne (tgt := 18) hx hb dX11_pourAtNight_13 (by decide) (fun hc => ?_) (fun hc => ?_)
    · have hf := hf_f hf hc
      refine lv_aload_n hx hb dX11_pourAtNight_18 rfl (lv_at hl 0 rfl) ?_
      refine q_get (v := .ref h1) hC hK hV fl_X11_19 0 rfl rfl dX11_pourAtNight_19 ?_
      refine q_get (v := .ref (ra1 2)) hC hK hV fl_X11_157 2 rfl rfl dX11_pourAtNight_22 ?_
      refine lv_iload_n hx hb dX11_pourAtNight_25 rfl (lv_at hl 1 rfl) ?_
      refine lv_dup2_11 hx hb dX11_pourAtNight_26 rfl rfl ?_
      refine q_iald hC hK hV 5 rfl hi2 dX11_pourAtNight_27 ?_
      refine lv_iconst (v := 1) hx hb dX11_pourAtNight_28 (by decide) ?_
      refine lv_isub hx hb dX11_pourAtNight_29 ?_
      refine q_iast (wn := wY11 cs h0 o0_0 h1 o0_2a o0_2b o0_2c o0_3 o0_4 o0_5 o0_6 o0_7 o0_8 o0_9 o0_10 o0_11 o0_12 o0_13 o0_14 ra0 x0_15 ++ (wX10 cs h1 ra1 y1_0 y1_1 (upd y1_2 v1.toNatClampNeg ((y1_2 v1.toNatClampNeg) - 1)) x1_3)) hC hK hV 5 rfl hi2 rfl dX11_pourAtNight_30 (fun H locs hV => ?_)
      refine lv_iconst (v := 1) hx hb dX11_pourAtNight_31 (by decide) ?_
      obtain rfl := Option.some.inj hf
      exact q_ret hC hr hlocks hV dX11_pourAtNight_32
    · have hf := hf_t hf hc
      refine lv_iconst (v := 0) hx hb dX11_pourAtNight_16 (by decide) ?_
      obtain rfl := Option.some.inj hf
      exact q_ret hC hr hlocks hV dX11_pourAtNight_17
set_option maxRecDepth 100000 in
theorem k_X11_pourAtNight (l : Launch) (D : va_G) (cs : Nat → ClassId) (h0 : Nat) (o0_0 : Nat) (o0_2a : Nat) (o0_2b : Nat) (o0_2c : Nat) (o0_3 : Nat) (o0_4 : Nat) (o0_5 : Nat) (o0_6 : Nat) (o0_7 : Nat) (o0_8 : Nat) (o0_9 : Nat) (o0_10 : Nat) (o0_11 : Nat) (o0_12 : Nat) (o0_13 : Nat) (o0_14 : Nat) (ra0 : Nat → Nat) (h1 : Nat) (ra1 : Nat → Nat) (x0_15 : Int32) (y1_0 y1_1 y1_2 : Nat → Int32) (x1_3 : Int32) (v1 v2 : Int32) (u : Int32 × (Nat → Int32)) (sz : Nat) (hf : f_X11_pourAtNight v1 v2 y1_1 y1_2 = some u) : Met l yX11_pourAtNight (WS yX11_pourAtNight cX11_pourAtNight 3 (some .int)) rm_X11_pourAtNight (va_Pc [.ref h0, .int v1, .int v2] (PR D cs (wY11 cs h0 o0_0 h1 o0_2a o0_2b o0_2c o0_3 o0_4 o0_5 o0_6 o0_7 o0_8 o0_9 o0_10 o0_11 o0_12 o0_13 o0_14 ra0 x0_15 ++ (wX10 cs h1 ra1 y1_0 y1_1 y1_2 x1_3)) sz)) (QI D (wY11 cs h0 o0_0 h1 o0_2a o0_2b o0_2c o0_3 o0_4 o0_5 o0_6 o0_7 o0_8 o0_9 o0_10 o0_11 o0_12 o0_13 o0_14 ra0 x0_15 ++ (wX10 cs h1 ra1 y1_0 y1_1 u.2 x1_3)) (va_A (wY11 cs h0 o0_0 h1 o0_2a o0_2b o0_2c o0_3 o0_4 o0_5 o0_6 o0_7 o0_8 o0_9 o0_10 o0_11 o0_12 o0_13 o0_14 ra0 x0_15 ++ (wX10 cs h1 ra1 y1_0 y1_1 y1_2 x1_3)) sz) u.1) 0 0 (va_A (wY11 cs h0 o0_0 h1 o0_2a o0_2b o0_2c o0_3 o0_4 o0_5 o0_6 o0_7 o0_8 o0_9 o0_10 o0_11 o0_12 o0_13 o0_14 ra0 x0_15 ++ (wX10 cs h1 ra1 y1_0 y1_1 y1_2 x1_3)) sz) := by
  refine met_of RX11 rfl (by decide) (Nat.le_of_ble_eq_true rfl) ?_
  intro p e s m args below meth c hC hr hlocks hK hsz hA hV ls hl
  exact b_X11_pourAtNight_0 hC hr hlocks hK hA h0 o0_0 o0_2a o0_2b o0_2c o0_3 o0_4 o0_5 o0_6 o0_7 o0_8 o0_9 o0_10 o0_11 o0_12 o0_13 o0_14 ra0 h1 ra1 x0_15 y1_0 x1_3 u v1 v2 y1_1 y1_2 s.heap [] ls hf (lv_sub hl [0, 1, 2] rfl) hV
def rm_X11_night : Room := { frames := 1, cells := 0, slots := 0, locals := 22 }
set_option maxHeartbeats 4000000 in
set_option maxRecDepth 100000 in
theorem b_X11_night_79 {p : Program} {l : Launch} {e : Env} {s : State} {m : MethodId} {args : Array Value} {below : List Frame} {meth : Method} {c : Code} {D : va_G} {cs : Nat → ClassId} {A : Nat → Prop} (hC : CallFix p m c cX11_night 4 s args gtbl RX11) (hr : meth.sig.returnType = (some .int)) (hlocks : meth.locks = false) (hK : KN D cs s) (hA : ∀ q : Nat, s.heap.size ≤ q → A q) (h0 : Nat) (o0_0 : Nat) (o0_2a : Nat) (o0_2b : Nat) (o0_2c : Nat) (o0_3 : Nat) (o0_4 : Nat) (o0_5 : Nat) (o0_6 : Nat) (o0_7 : Nat) (o0_8 : Nat) (o0_9 : Nat) (o0_10 : Nat) (o0_11 : Nat) (o0_12 : Nat) (o0_14 : Nat) (ra0 : Nat → Nat) (h1 : Nat) (ra1 : Nat → Nat) (h2 : Nat) (ra2 : Nat → Nat) (x0_15 : Int32) (y1_0 : Nat → Int32) (x1_2 x1_3 : Int32) (y2_0 : Nat → Int32) (x2_3 : Int32) (u : Int32 × Int32 × Int32 × (Nat → Int32)) (k16 : Int32 → Int32 → Int32 → Int32 → Int32 → (Nat → Int32) → (Nat → Int32) → Option (Int32 × Int32 × Int32 × (Nat → Int32))) (hk16 : ∀ (v1 v2 v3 x1_1 x1_4 : Int32) (y2_1 y2_2 : Nat → Int32) (H : Heap) (locs : List Loc) (ls : Array Slot), k16 v1 v2 v3 x1_1 x1_4 y2_1 y2_2 = some u → lv_has ls 4 [(0, .ref h0), (1, .int v1), (2, .int v2), (3, .int v3)] → VW D A s.heap (wY11 cs h0 o0_0 h2 o0_2a o0_2b o0_2c o0_3 o0_4 o0_5 o0_6 o0_7 o0_8 o0_9 o0_10 o0_11 o0_12 h1 o0_14 ra0 x0_15 ++ (wX1 cs h1 ra1 y1_0 x1_1 x1_2 x1_3 x1_4 ++ (wX10 cs h2 ra2 y2_0 y2_1 y2_2 x2_3))) H locs → W p l e rm_X11_night s m args below meth c H locs 0 0 (MQ below (QI D (wY11 cs h0 o0_0 h2 o0_2a o0_2b o0_2c o0_3 o0_4 o0_5 o0_6 o0_7 o0_8 o0_9 o0_10 o0_11 o0_12 h1 o0_14 ra0 x0_15 ++ (wX1 cs h1 ra1 y1_0 u.2.1 x1_2 x1_3 u.2.2.1 ++ (wX10 cs h2 ra2 y2_0 y2_1 u.2.2.2 x2_3))) A u.1) args s 0 0 A) (F0 m 16 ls [])) : ∀ (v1 v3 s0 s2 s3 x1_1 x1_4 : Int32) (y2_1 y2_2 : Nat → Int32) (H : Heap) (locs : List Loc) (ls : Array Slot), g_X11_night_79 k16 v1 v3 s0 s2 s3 x1_1 x1_4 y2_1 y2_2 = some u → lv_has ls 4 [(0, .ref h0), (1, .int v1), (3, .int v3)] → VW D A s.heap (wY11 cs h0 o0_0 h2 o0_2a o0_2b o0_2c o0_3 o0_4 o0_5 o0_6 o0_7 o0_8 o0_9 o0_10 o0_11 o0_12 h1 o0_14 ra0 x0_15 ++ (wX1 cs h1 ra1 y1_0 x1_1 x1_2 x1_3 x1_4 ++ (wX10 cs h2 ra2 y2_0 y2_1 y2_2 x2_3))) H locs → W p l e rm_X11_night s m args below meth c H locs 0 0 (MQ below (QI D (wY11 cs h0 o0_0 h2 o0_2a o0_2b o0_2c o0_3 o0_4 o0_5 o0_6 o0_7 o0_8 o0_9 o0_10 o0_11 o0_12 h1 o0_14 ra0 x0_15 ++ (wX1 cs h1 ra1 y1_0 u.2.1 x1_2 x1_3 u.2.2.1 ++ (wX10 cs h2 ra2 y2_0 y2_1 u.2.2.2 x2_3))) A u.1) args s 0 0 A) (F0 m 79 ls [.int s3, .int s2, .ref h0, .int s0]) := by
  have hx := hC.1
  have hb := hC.2.1
  have hown := hC.2.2.2.1
  have hts := hC.2.2.2.2
  intro v1 v3 s0 s2 s3 x1_1 x1_4 y2_1 y2_2 H locs ls hf hl hV
  obtain ⟨u1, hc1, hf⟩ := hf_b hf
  refine aft_i (run_v hC (k_X11_pourAtNight l D cs h0 o0_0 o0_2a o0_2b o0_2c o0_3 o0_4 o0_5 o0_6 o0_7 o0_8 o0_9 o0_10 o0_11 o0_12 h1 o0_14 ra0 h2 ra2 x0_15 y2_0 y2_1 y2_2 x2_3 s2 s3 u1 H.size hc1) cd_X11_pourAtNight cv_X11_pourAtNight ml_X11_285 rfl rfl ⟨by decide, by decide⟩ hK hV (fr_pre hK hV [0, 1, 4, 5, 6, 7] rfl (by decide)) (ci := 11) (q0 := 0) rfl rfl rfl rfl hl.1 rfl (Nat.le_of_ble_eq_true rfl) dX11_night_79) hV (va_free hV.2.1 hV.2.2 hA [0, 1, 4, 5, 6, 7] rfl) (fr_jn (s := s) (wn := wY11 cs h0 o0_0 h2 o0_2a o0_2b o0_2c o0_3 o0_4 o0_5 o0_6 o0_7 o0_8 o0_9 o0_10 o0_11 o0_12 h1 o0_14 ra0 x0_15 ++ (wX1 cs h1 ra1 y1_0 x1_1 x1_2 x1_3 x1_4 ++ (wX10 cs h2 ra2 y2_0 y2_1 u1.2 x2_3))) hV hA [0, 1, 4, 5, 6, 7] [2, 3] [2, 3, 0, 1, 4, 5, 6, 7] rfl rfl (by decide) (by decide) rfl (by decide)) (fun H locs hV => ?_)
  refine lv_iadd hx hb dX11_night_82 ?_
  refine lv_istore_n (lv' := [(2, .int (s0 + u1.1)), (0, .ref h0), (1, .int v1), (3, .int v3)]) hx hb dX11_night_83 rfl hl (by decide) rfl (fun ls hl => ?_)
  refine lv_iinc (v := (v3 + 1)) (lv' := [(3, .int (v3 + 1)), (2, .int (s0 + u1.1)), (0, .ref h0), (1, .int v1)]) hx hb dX11_night_84 hl (k := 3) rfl (by rfl) (by decide) rfl (fun ls hl => ?_)
  refine lv_goto (tgt := 16) hx hb dX11_night_87 (by decide) ?_
  exact hk16 v1 (s0 + u1.1) (v3 + 1) x1_1 x1_4 y2_1 u1.2 H locs ls hf (lv_sub hl [2, 3, 1, 0] rfl) hV
set_option maxHeartbeats 4000000 in
set_option maxRecDepth 100000 in
theorem b_X11_night_16 {p : Program} {l : Launch} {e : Env} {s : State} {m : MethodId} {args : Array Value} {below : List Frame} {meth : Method} {c : Code} {D : va_G} {cs : Nat → ClassId} {A : Nat → Prop} (hC : CallFix p m c cX11_night 4 s args gtbl RX11) (hr : meth.sig.returnType = (some .int)) (hlocks : meth.locks = false) (hK : KN D cs s) (hA : ∀ q : Nat, s.heap.size ≤ q → A q) (h0 : Nat) (o0_0 : Nat) (o0_2a : Nat) (o0_2b : Nat) (o0_2c : Nat) (o0_3 : Nat) (o0_4 : Nat) (o0_5 : Nat) (o0_6 : Nat) (o0_7 : Nat) (o0_8 : Nat) (o0_9 : Nat) (o0_10 : Nat) (o0_11 : Nat) (o0_12 : Nat) (o0_14 : Nat) (ra0 : Nat → Nat) (h1 : Nat) (ra1 : Nat → Nat) (h2 : Nat) (ra2 : Nat → Nat) (x0_15 : Int32) (y1_0 : Nat → Int32) (x1_2 x1_3 : Int32) (y2_0 : Nat → Int32) (x2_3 : Int32) (u : Int32 × Int32 × Int32 × (Nat → Int32)) : ∀ (n : Nat), ∀ (v1 v2 v3 x1_1 x1_4 : Int32) (y2_1 y2_2 : Nat → Int32) (H : Heap) (locs : List Loc) (ls : Array Slot), g_X11_night_16 n v1 v2 v3 x1_1 x1_4 y2_1 y2_2 = some u → lv_has ls 4 [(0, .ref h0), (1, .int v1), (2, .int v2), (3, .int v3)] → VW D A s.heap (wY11 cs h0 o0_0 h2 o0_2a o0_2b o0_2c o0_3 o0_4 o0_5 o0_6 o0_7 o0_8 o0_9 o0_10 o0_11 o0_12 h1 o0_14 ra0 x0_15 ++ (wX1 cs h1 ra1 y1_0 x1_1 x1_2 x1_3 x1_4 ++ (wX10 cs h2 ra2 y2_0 y2_1 y2_2 x2_3))) H locs → W p l e rm_X11_night s m args below meth c H locs 0 0 (MQ below (QI D (wY11 cs h0 o0_0 h2 o0_2a o0_2b o0_2c o0_3 o0_4 o0_5 o0_6 o0_7 o0_8 o0_9 o0_10 o0_11 o0_12 h1 o0_14 ra0 x0_15 ++ (wX1 cs h1 ra1 y1_0 u.2.1 x1_2 x1_3 u.2.2.1 ++ (wX10 cs h2 ra2 y2_0 y2_1 u.2.2.2 x2_3))) A u.1) args s 0 0 A) (F0 m 16 ls []) := by
  have hx := hC.1
  have hb := hC.2.1
  have hown := hC.2.2.2.1
  have hts := hC.2.2.2.2
  intro n
  induction n with
  | zero =>
    intro v1 v2 v3 x1_1 x1_4 y2_1 y2_2 H locs ls hf hl hV
    exact hf_no (show (none : Option (Int32 × Int32 × Int32 × (Nat → Int32))) = some u from hf)
  | succ n ih =>
    intro v1 v2 v3 x1_1 x1_4 y2_1 y2_2 H locs ls hf hl hV
    refine lv_iload_n hx hb dX11_night_16 rfl (lv_at hl 3 rfl) ?_
    refine lv_iload_n hx hb dX11_night_17 rfl (lv_at hl 1 rfl) ?_
    refine lv_icmp_ge (tgt := 90) hx hb dX11_night_18 (by decide) (fun hc => ?_) (fun hc => ?_)
    · have hf := hf_t hf hc
      refine lv_aload_n hx hb dX11_night_90 rfl (lv_at hl 0 rfl) ?_
      refine q_get (v := .ref h1) hC hK hV fl_X11_100 0 rfl rfl dX11_night_91 ?_
      refine lv_dup hx hb dX11_night_94 rfl ?_
      refine q_get (v := .int x1_1) hC hK hV fl_X11_196 2 rfl rfl dX11_night_95 ?_
      refine lv_iload_n hx hb dX11_night_98 rfl (lv_at hl 2 rfl) ?_
      refine lv_iadd hx hb dX11_night_99 ?_
      refine q_puti (wn := wY11 cs h0 o0_0 h2 o0_2a o0_2b o0_2c o0_3 o0_4 o0_5 o0_6 o0_7 o0_8 o0_9 o0_10 o0_11 o0_12 h1 o0_14 ra0 x0_15 ++ (wX1 cs h1 ra1 y1_0 (x1_1 + v2) x1_2 x1_3 x1_4 ++ (wX10 cs h2 ra2 y2_0 y2_1 y2_2 x2_3))) hC hK hV fl_X11_196 ptX1 rfl rfl 2 rfl (Nat.le_of_ble_eq_true rfl) rfl dX11_night_100 (fun H locs hV => ?_)
      refine lv_iload_n hx hb dX11_night_103 rfl (lv_at hl 2 rfl) ?_
      obtain rfl := Option.some.inj hf
      exact q_ret hC hr hlocks hV dX11_night_104
    · have hf := hf_f hf hc
      refine lv_aload_n hx hb dX11_night_21 rfl (lv_at hl 0 rfl) ?_
      refine q_get (v := .ref h1) hC hK hV fl_X11_100 0 rfl rfl dX11_night_22 ?_
      refine lv_sipush (v := 25173) hx hb dX11_night_25 (by decide) ?_
      refine lv_aload_n hx hb dX11_night_28 rfl (lv_at hl 0 rfl) ?_
      refine q_get (v := .ref h1) hC hK hV fl_X11_100 0 rfl rfl dX11_night_29 ?_
      refine q_get (v := .int x1_4) hC hK hV fl_X11_104 2 rfl rfl dX11_night_32 ?_
      refine lv_imul hx hb dX11_night_35 ?_
      refine lv_sipush (v := 13849) hx hb dX11_night_36 (by decide) ?_
      refine lv_iadd hx hb dX11_night_39 ?_
      refine lv_ldcw (v := 65536) hx hb hown (hts _ kc_X11_284) dX11_night_40 ?_
      refine lv_irem hx hb dX11_night_43 (by decide) ?_
      refine q_puti (wn := wY11 cs h0 o0_0 h2 o0_2a o0_2b o0_2c o0_3 o0_4 o0_5 o0_6 o0_7 o0_8 o0_9 o0_10 o0_11 o0_12 h1 o0_14 ra0 x0_15 ++ (wX1 cs h1 ra1 y1_0 x1_1 x1_2 x1_3 (((25173 * x1_4) + 13849) - ((25173 * x1_4) + 13849) / 65536 * 65536) ++ (wX10 cs h2 ra2 y2_0 y2_1 y2_2 x2_3))) hC hK hV fl_X11_104 ptX1 rfl rfl 2 rfl (Nat.le_of_ble_eq_true rfl) rfl dX11_night_44 (fun H locs hV => ?_)
      refine lv_iload_n hx hb dX11_night_47 rfl (lv_at hl 2 rfl) ?_
      refine lv_aload_n hx hb dX11_night_48 rfl (lv_at hl 0 rfl) ?_
      refine lv_aload_n hx hb dX11_night_49 rfl (lv_at hl 0 rfl) ?_
      refine q_get (v := .ref h1) hC hK hV fl_X11_100 0 rfl rfl dX11_night_50 ?_
      refine q_get (v := .int (((25173 * x1_4) + 13849) - ((25173 * x1_4) + 13849) / 65536 * 65536)) hC hK hV fl_X11_104 2 rfl rfl dX11_night_53 ?_
      refine lv_bipush (v := 6) hx hb dX11_night_56 (by decide) ?_
      refine lv_irem hx hb dX11_night_58 (by decide) ?_
      refine lv_aload_n hx hb dX11_night_59 rfl (lv_at hl 0 rfl) ?_
      refine q_get (v := .ref h1) hC hK hV fl_X11_100 0 rfl rfl dX11_night_60 ?_
      refine q_get (v := .int (((25173 * x1_4) + 13849) - ((25173 * x1_4) + 13849) / 65536 * 65536)) hC hK hV fl_X11_104 2 rfl rfl dX11_night_63 ?_
      refine lv_bipush (v := 6) hx hb dX11_night_66 (by decide) ?_
      refine lv_idiv hx hb dX11_night_68 (by decide) ?_
      refine lv_iconst (v := 2) hx hb dX11_night_69 (by decide) ?_
      refine lv_irem hx hb dX11_night_70 (by decide) ?_
      refine lv_if_ne (tgt := 78) hx hb dX11_night_71 (by decide) (fun hc => ?_) (fun hc => ?_)
      · have hf := hf_f hf hc
        refine lv_iconst (v := 0) hx hb dX11_night_78 (by decide) ?_
        exact b_X11_night_79 hC hr hlocks hK hA h0 o0_0 o0_2a o0_2b o0_2c o0_3 o0_4 o0_5 o0_6 o0_7 o0_8 o0_9 o0_10 o0_11 o0_12 o0_14 ra0 h1 ra1 h2 ra2 x0_15 y1_0 x1_2 x1_3 y2_0 x2_3 u (g_X11_night_16 n) ih v1 v3 v2 ((((25173 * x1_4) + 13849) - ((25173 * x1_4) + 13849) / 65536 * 65536) - (((25173 * x1_4) + 13849) - ((25173 * x1_4) + 13849) / 65536 * 65536) / 6 * 6) 0 x1_1 (((25173 * x1_4) + 13849) - ((25173 * x1_4) + 13849) / 65536 * 65536) y2_1 y2_2 H locs ls hf (lv_sub hl [0, 1, 3] rfl) hV
      · have hf := hf_t hf hc
        refine lv_iconst (v := 1) hx hb dX11_night_74 (by decide) ?_
        refine lv_goto (tgt := 79) hx hb dX11_night_75 (by decide) ?_
        exact b_X11_night_79 hC hr hlocks hK hA h0 o0_0 o0_2a o0_2b o0_2c o0_3 o0_4 o0_5 o0_6 o0_7 o0_8 o0_9 o0_10 o0_11 o0_12 o0_14 ra0 h1 ra1 h2 ra2 x0_15 y1_0 x1_2 x1_3 y2_0 x2_3 u (g_X11_night_16 n) ih v1 v3 v2 ((((25173 * x1_4) + 13849) - ((25173 * x1_4) + 13849) / 65536 * 65536) - (((25173 * x1_4) + 13849) - ((25173 * x1_4) + 13849) / 65536 * 65536) / 6 * 6) 1 x1_1 (((25173 * x1_4) + 13849) - ((25173 * x1_4) + 13849) / 65536 * 65536) y2_1 y2_2 H locs ls hf (lv_sub hl [0, 1, 3] rfl) hV
set_option maxHeartbeats 4000000 in
set_option maxRecDepth 100000 in
theorem b_X11_night_0 {p : Program} {l : Launch} {e : Env} {s : State} {m : MethodId} {args : Array Value} {below : List Frame} {meth : Method} {c : Code} {D : va_G} {cs : Nat → ClassId} {A : Nat → Prop} (hC : CallFix p m c cX11_night 4 s args gtbl RX11) (hr : meth.sig.returnType = (some .int)) (hlocks : meth.locks = false) (hK : KN D cs s) (hA : ∀ q : Nat, s.heap.size ≤ q → A q) (h0 : Nat) (o0_0 : Nat) (o0_2a : Nat) (o0_2b : Nat) (o0_2c : Nat) (o0_3 : Nat) (o0_4 : Nat) (o0_5 : Nat) (o0_6 : Nat) (o0_7 : Nat) (o0_8 : Nat) (o0_9 : Nat) (o0_10 : Nat) (o0_11 : Nat) (o0_12 : Nat) (o0_14 : Nat) (ra0 : Nat → Nat) (h1 : Nat) (ra1 : Nat → Nat) (h2 : Nat) (ra2 : Nat → Nat) (x0_15 : Int32) (y1_0 : Nat → Int32) (x1_2 x1_3 : Int32) (y2_0 : Nat → Int32) (x2_3 : Int32) (u : Int32 × Int32 × Int32 × (Nat → Int32)) : ∀ (v1 x1_1 x1_4 : Int32) (y2_1 y2_2 : Nat → Int32) (H : Heap) (locs : List Loc) (ls : Array Slot), g_X11_night_0 v1 x1_1 x1_4 y2_1 y2_2 = some u → lv_has ls 4 [(0, .ref h0), (1, .int v1)] → VW D A s.heap (wY11 cs h0 o0_0 h2 o0_2a o0_2b o0_2c o0_3 o0_4 o0_5 o0_6 o0_7 o0_8 o0_9 o0_10 o0_11 o0_12 h1 o0_14 ra0 x0_15 ++ (wX1 cs h1 ra1 y1_0 x1_1 x1_2 x1_3 x1_4 ++ (wX10 cs h2 ra2 y2_0 y2_1 y2_2 x2_3))) H locs → W p l e rm_X11_night s m args below meth c H locs 0 0 (MQ below (QI D (wY11 cs h0 o0_0 h2 o0_2a o0_2b o0_2c o0_3 o0_4 o0_5 o0_6 o0_7 o0_8 o0_9 o0_10 o0_11 o0_12 h1 o0_14 ra0 x0_15 ++ (wX1 cs h1 ra1 y1_0 u.2.1 x1_2 x1_3 u.2.2.1 ++ (wX10 cs h2 ra2 y2_0 y2_1 u.2.2.2 x2_3))) A u.1) args s 0 0 A) (F0 m 0 ls []) := by
  have hx := hC.1
  have hb := hC.2.1
  have hown := hC.2.2.2.1
  have hts := hC.2.2.2.2
  intro v1 x1_1 x1_4 y2_1 y2_2 H locs ls hf hl hV
  refine lv_iload_n hx hb dX11_night_0 rfl (lv_at hl 1 rfl) ?_
  refine lv_iconst (v := 1) hx hb dX11_night_1 (by decide) ?_
  refine lv_bipush (v := 40) hx hb dX11_night_2 (by decide) ?_
  obtain ⟨u1, hc1, hf⟩ := hf_b hf
  refine aft_i (run_s hC (k_X11_within l D cs v1 1 40 u1 H.size hc1) cd_X11_within st_X11_within ml_X11_115 rfl rfl ⟨by decide, by decide⟩ (fr_pre hK hV [] rfl (by decide)) rfl hl.1 rfl (Nat.le_of_ble_eq_true rfl) dX11_night_4) hV (va_free hV.2.1 hV.2.2 hA [] rfl) (fr_jn (s := s) (wn := wY11 cs h0 o0_0 h2 o0_2a o0_2b o0_2c o0_3 o0_4 o0_5 o0_6 o0_7 o0_8 o0_9 o0_10 o0_11 o0_12 h1 o0_14 ra0 x0_15 ++ (wX1 cs h1 ra1 y1_0 x1_1 x1_2 x1_3 x1_4 ++ (wX10 cs h2 ra2 y2_0 y2_1 y2_2 x2_3))) hV hA [] [0, 1, 2, 3, 4, 5, 6, 7] [0, 1, 2, 3, 4, 5, 6, 7] rfl rfl (by decide) (by decide) rfl (by decide)) (fun H locs hV => ?_)
  refine lv_if_ne (tgt := 12) hx hb dX11_night_7 (by decide) (fun hc => ?_) (fun hc => ?_)
  · have hf := hf_f hf hc
    refine lv_iconst (v := 0) hx hb dX11_night_12 (by decide) ?_
    refine lv_istore_n (lv' := [(2, .int 0), (0, .ref h0), (1, .int v1)]) hx hb dX11_night_13 rfl hl (by decide) rfl (fun ls hl => ?_)
    refine lv_iconst (v := 0) hx hb dX11_night_14 (by decide) ?_
    refine lv_istore_n (lv' := [(3, .int 0), (2, .int 0), (0, .ref h0), (1, .int v1)]) hx hb dX11_night_15 rfl hl (by decide) rfl (fun ls hl => ?_)
    exact b_X11_night_16 hC hr hlocks hK hA h0 o0_0 o0_2a o0_2b o0_2c o0_3 o0_4 o0_5 o0_6 o0_7 o0_8 o0_9 o0_10 o0_11 o0_12 o0_14 ra0 h1 ra1 h2 ra2 x0_15 y1_0 x1_2 x1_3 y2_0 x2_3 u FU v1 0 0 x1_1 x1_4 y2_1 y2_2 H locs ls hf (lv_sub hl [2, 3, 1, 0] rfl) hV
  · have hf := hf_t hf hc
    refine lv_iconst (v := (-1)) hx hb dX11_night_10 (by decide) ?_
    obtain rfl := Option.some.inj hf
    exact q_ret hC hr hlocks hV dX11_night_11
set_option maxRecDepth 100000 in
theorem k_X11_night (l : Launch) (D : va_G) (cs : Nat → ClassId) (h0 : Nat) (o0_0 : Nat) (o0_2a : Nat) (o0_2b : Nat) (o0_2c : Nat) (o0_3 : Nat) (o0_4 : Nat) (o0_5 : Nat) (o0_6 : Nat) (o0_7 : Nat) (o0_8 : Nat) (o0_9 : Nat) (o0_10 : Nat) (o0_11 : Nat) (o0_12 : Nat) (o0_14 : Nat) (ra0 : Nat → Nat) (h1 : Nat) (ra1 : Nat → Nat) (h2 : Nat) (ra2 : Nat → Nat) (x0_15 : Int32) (y1_0 : Nat → Int32) (x1_1 x1_2 x1_3 x1_4 : Int32) (y2_0 y2_1 y2_2 : Nat → Int32) (x2_3 : Int32) (v1 : Int32) (u : Int32 × Int32 × Int32 × (Nat → Int32)) (sz : Nat) (hf : f_X11_night v1 x1_1 x1_4 y2_1 y2_2 = some u) : Met l yX11_night (WS yX11_night cX11_night 4 (some .int)) rm_X11_night (va_Pc [.ref h0, .int v1] (PR D cs (wY11 cs h0 o0_0 h2 o0_2a o0_2b o0_2c o0_3 o0_4 o0_5 o0_6 o0_7 o0_8 o0_9 o0_10 o0_11 o0_12 h1 o0_14 ra0 x0_15 ++ (wX1 cs h1 ra1 y1_0 x1_1 x1_2 x1_3 x1_4 ++ (wX10 cs h2 ra2 y2_0 y2_1 y2_2 x2_3))) sz)) (QI D (wY11 cs h0 o0_0 h2 o0_2a o0_2b o0_2c o0_3 o0_4 o0_5 o0_6 o0_7 o0_8 o0_9 o0_10 o0_11 o0_12 h1 o0_14 ra0 x0_15 ++ (wX1 cs h1 ra1 y1_0 u.2.1 x1_2 x1_3 u.2.2.1 ++ (wX10 cs h2 ra2 y2_0 y2_1 u.2.2.2 x2_3))) (va_A (wY11 cs h0 o0_0 h2 o0_2a o0_2b o0_2c o0_3 o0_4 o0_5 o0_6 o0_7 o0_8 o0_9 o0_10 o0_11 o0_12 h1 o0_14 ra0 x0_15 ++ (wX1 cs h1 ra1 y1_0 x1_1 x1_2 x1_3 x1_4 ++ (wX10 cs h2 ra2 y2_0 y2_1 y2_2 x2_3))) sz) u.1) 0 0 (va_A (wY11 cs h0 o0_0 h2 o0_2a o0_2b o0_2c o0_3 o0_4 o0_5 o0_6 o0_7 o0_8 o0_9 o0_10 o0_11 o0_12 h1 o0_14 ra0 x0_15 ++ (wX1 cs h1 ra1 y1_0 x1_1 x1_2 x1_3 x1_4 ++ (wX10 cs h2 ra2 y2_0 y2_1 y2_2 x2_3))) sz) := by
  refine met_of RX11 rfl (by decide) (Nat.le_of_ble_eq_true rfl) ?_
  intro p e s m args below meth c hC hr hlocks hK hsz hA hV ls hl
  exact b_X11_night_0 hC hr hlocks hK hA h0 o0_0 o0_2a o0_2b o0_2c o0_3 o0_4 o0_5 o0_6 o0_7 o0_8 o0_9 o0_10 o0_11 o0_12 o0_14 ra0 h1 ra1 h2 ra2 x0_15 y1_0 x1_2 x1_3 y2_0 x2_3 u v1 x1_1 x1_4 y2_1 y2_2 s.heap [] ls hf (lv_sub hl [0, 1] rfl) hV
def rm_X11_keep : Room := { frames := 3, cells := 0, slots := 0, locals := 90 }
set_option maxHeartbeats 4000000 in
set_option maxRecDepth 100000 in
theorem b_X11_keep_0 {p : Program} {l : Launch} {e : Env} {s : State} {m : MethodId} {args : Array Value} {below : List Frame} {meth : Method} {c : Code} {D : va_G} {cs : Nat → ClassId} {A : Nat → Prop} (hC : CallFix p m c cX11_keep 1 s args gtbl RX11) (hr : meth.sig.returnType = (some .int)) (hlocks : meth.locks = false) (hK : KN D cs s) (hA : ∀ q : Nat, s.heap.size ≤ q → A q) (h0 : Nat) (o0_0 : Nat) (o0_2a : Nat) (o0_2b : Nat) (o0_2c : Nat) (o0_3 : Nat) (o0_4 : Nat) (o0_5 : Nat) (o0_6 : Nat) (o0_7 : Nat) (o0_8 : Nat) (o0_9 : Nat) (o0_10 : Nat) (o0_11 : Nat) (o0_12 : Nat) (ra0 : Nat → Nat) (h1 : Nat) (ra1 : Nat → Nat) (h2 : Nat) (ra2 : Nat → Nat) (h3 : Nat) (ra3 : Nat → Nat) (y3_0 y3_1 : Nat → Int32) (x3_3 : Int32) (u : Int32 × Int32 × (Nat → Int32) × Int32 × Int32 × Int32 × Int32 × (Nat → Int32)) : ∀ (x0_15 : Int32) (y1_0 : Nat → Int32) (x1_1 x1_2 x1_3 x1_4 : Int32) (y2_0 : Nat → Int32) (x2_1 x2_2 x2_3 x2_4 : Int32) (y3_2 : Nat → Int32) (H : Heap) (locs : List Loc) (ls : Array Slot), g_X11_keep_0 x0_15 y1_0 x1_1 x1_2 x1_3 x1_4 y2_0 x2_1 x2_2 x2_3 x2_4 y3_2 = some u → lv_has ls 1 [(0, .ref h0)] → VW D A s.heap (wY11 cs h0 o0_0 h3 o0_2a o0_2b o0_2c o0_3 o0_4 o0_5 o0_6 o0_7 o0_8 o0_9 o0_10 o0_11 o0_12 h2 h1 ra0 x0_15 ++ (wX1 cs h1 ra1 y1_0 x1_1 x1_2 x1_3 x1_4 ++ (wX1 cs h2 ra2 y2_0 x2_1 x2_2 x2_3 x2_4 ++ (wX10 cs h3 ra3 y3_0 y3_1 y3_2 x3_3)))) H locs → W p l e rm_X11_keep s m args below meth c H locs 0 0 (MQ below (QI D (wY11 cs h0 o0_0 h3 o0_2a o0_2b o0_2c o0_3 o0_4 o0_5 o0_6 o0_7 o0_8 o0_9 o0_10 o0_11 o0_12 h2 h1 ra0 u.2.1 ++ (wX1 cs h1 ra1 u.2.2.1 u.2.2.2.1 u.2.2.2.2.1 u.2.2.2.2.2.1 u.2.2.2.2.2.2.1 ++ (wX1 cs h2 ra2 u.2.2.2.2.2.2.2 x2_1 x2_2 x2_3 x2_4 ++ (wX10 cs h3 ra3 y3_0 y3_1 y3_2 x3_3)))) A u.1) args s 0 0 A) (F0 m 0 ls []) := by
  have hx := hC.1
  have hb := hC.2.1
  have hown := hC.2.2.2.1
  have hts := hC.2.2.2.2
  intro x0_15 y1_0 x1_1 x1_2 x1_3 x1_4 y2_0 x2_1 x2_2 x2_3 x2_4 y3_2 H locs ls hf hl hV
  refine lv_aload_n hx hb dX11_keep_0 rfl (lv_at hl 0 rfl) ?_
  refine q_get (v := .ref h3) hC hK hV fl_X11_19 0 rfl rfl dX11_keep_1 ?_
  refine q_get (v := .ref (ra3 2)) hC hK hV fl_X11_157 6 rfl rfl dX11_keep_4 ?_
  refine lv_aload_n hx hb dX11_keep_7 rfl (lv_at hl 0 rfl) ?_
  refine q_get (v := .ref h2) hC hK hV fl_X11_100 0 rfl rfl dX11_keep_8 ?_
  refine q_get (v := .ref (ra2 0)) hC hK hV fl_X11_289 4 rfl rfl dX11_keep_11 ?_
  obtain ⟨u1, hc1, hf⟩ := hf_b hf
  refine aft_v (run_s hC (k_X11_copyMeasures l D cs (ra3 2) (ra2 0) y3_2 y2_0 u1 H.size hc1) cd_X11_copyMeasures st_X11_copyMeasures ml_X11_192 rfl rfl ⟨by decide, by decide⟩ (fr_pre hK hV [9, 5] rfl (by decide)) rfl hl.1 rfl (Nat.le_of_ble_eq_true rfl) dX11_keep_14) hV (va_free hV.2.1 hV.2.2 hA [9, 5] rfl) (fr_jn (s := s) (wn := wY11 cs h0 o0_0 h3 o0_2a o0_2b o0_2c o0_3 o0_4 o0_5 o0_6 o0_7 o0_8 o0_9 o0_10 o0_11 o0_12 h2 h1 ra0 x0_15 ++ (wX1 cs h1 ra1 y1_0 x1_1 x1_2 x1_3 x1_4 ++ (wX1 cs h2 ra2 u1 x2_1 x2_2 x2_3 x2_4 ++ (wX10 cs h3 ra3 y3_0 y3_1 y3_2 x3_3)))) hV hA [9, 5] [0, 1, 2, 3, 4, 6, 7, 8] [0, 1, 2, 3, 4, 9, 5, 6, 7, 8] rfl rfl (by decide) (by decide) rfl (by decide)) (fun H locs hV => ?_)
  refine lv_aload_n hx hb dX11_keep_17 rfl (lv_at hl 0 rfl) ?_
  refine q_get (v := .ref h1) hC hK hV fl_X11_108 0 rfl rfl dX11_keep_18 ?_
  refine lv_aload_n hx hb dX11_keep_21 rfl (lv_at hl 0 rfl) ?_
  refine q_get (v := .ref h2) hC hK hV fl_X11_100 0 rfl rfl dX11_keep_22 ?_
  obtain ⟨u2, hc2, hf⟩ := hf_b hf
  refine aft_v (run_v hC (k_X1_copy l D cs h1 ra1 h2 ra2 y1_0 x1_1 x1_2 x1_3 x1_4 u1 x2_1 x2_2 x2_3 x2_4 u2 H.size hc2) cd_X1_copy cv_X1_copy ml_X11_290 rfl rfl ⟨by decide, by decide⟩ hK hV (fr_pre hK hV [2, 3, 4, 5] rfl (by decide)) (ci := 1) (q0 := 2) rfl rfl rfl rfl hl.1 rfl (Nat.le_of_ble_eq_true rfl) dX11_keep_25) hV (va_free hV.2.1 hV.2.2 hA [2, 3, 4, 5] rfl) (fr_jn (s := s) (wn := wY11 cs h0 o0_0 h3 o0_2a o0_2b o0_2c o0_3 o0_4 o0_5 o0_6 o0_7 o0_8 o0_9 o0_10 o0_11 o0_12 h2 h1 ra0 x0_15 ++ (wX1 cs h1 ra1 u2.1 u2.2.1 u2.2.2.1 u2.2.2.2.1 u2.2.2.2.2 ++ (wX1 cs h2 ra2 u1 x2_1 x2_2 x2_3 x2_4 ++ (wX10 cs h3 ra3 y3_0 y3_1 y3_2 x3_3)))) hV hA [2, 3, 4, 5] [0, 1, 6, 7, 8, 9] [0, 1, 6, 7, 8, 9, 2, 3, 4, 5] rfl rfl (by decide) (by decide) rfl (by decide)) (fun H locs hV => ?_)
  refine lv_aload_n hx hb dX11_keep_28 rfl (lv_at hl 0 rfl) ?_
  refine lv_iconst (v := 1) hx hb dX11_keep_29 (by decide) ?_
  refine q_putz (wn := wY11 cs h0 o0_0 h3 o0_2a o0_2b o0_2c o0_3 o0_4 o0_5 o0_6 o0_7 o0_8 o0_9 o0_10 o0_11 o0_12 h2 h1 ra0 1 ++ (wX1 cs h1 ra1 u2.1 u2.2.1 u2.2.2.1 u2.2.2.2.1 u2.2.2.2.2 ++ (wX1 cs h2 ra2 u1 x2_1 x2_2 x2_3 x2_4 ++ (wX10 cs h3 ra3 y3_0 y3_1 y3_2 x3_3)))) hC hK hV fl_X11_111 ptX11 rfl rfl 0 rfl (Or.inr rfl) (Nat.le_of_ble_eq_true rfl) rfl dX11_keep_30 (fun H locs hV => ?_)
  refine lv_aload_n hx hb dX11_keep_33 rfl (lv_at hl 0 rfl) ?_
  refine q_get (v := .ref h3) hC hK hV fl_X11_19 0 rfl rfl dX11_keep_34 ?_
  obtain ⟨u3, hc3, hf⟩ := hf_b hf
  refine aft_i (run_v hC (k_X10_together l D cs h3 ra3 y3_0 y3_1 y3_2 x3_3 u3 H.size hc3) cd_X10_together cv_X10_together ml_X11_294 rfl rfl ⟨by decide, by decide⟩ hK hV (fr_pre hK hV [6, 7, 8, 9] rfl (by decide)) (ci := 10) (q0 := 6) rfl rfl rfl rfl hl.1 rfl (Nat.le_of_ble_eq_true rfl) dX11_keep_37) hV (va_free hV.2.1 hV.2.2 hA [6, 7, 8, 9] rfl) (fr_jn (s := s) (wn := wY11 cs h0 o0_0 h3 o0_2a o0_2b o0_2c o0_3 o0_4 o0_5 o0_6 o0_7 o0_8 o0_9 o0_10 o0_11 o0_12 h2 h1 ra0 1 ++ (wX1 cs h1 ra1 u2.1 u2.2.1 u2.2.2.1 u2.2.2.2.1 u2.2.2.2.2 ++ (wX1 cs h2 ra2 u1 x2_1 x2_2 x2_3 x2_4 ++ (wX10 cs h3 ra3 y3_0 y3_1 y3_2 x3_3)))) hV hA [6, 7, 8, 9] [0, 1, 2, 3, 4, 5] [0, 1, 2, 3, 4, 5, 6, 7, 8, 9] rfl rfl (by decide) (by decide) rfl (by decide)) (fun H locs hV => ?_)
  obtain rfl := Option.some.inj hf
  exact q_ret hC hr hlocks hV dX11_keep_40
set_option maxRecDepth 100000 in
theorem k_X11_keep (l : Launch) (D : va_G) (cs : Nat → ClassId) (h0 : Nat) (o0_0 : Nat) (o0_2a : Nat) (o0_2b : Nat) (o0_2c : Nat) (o0_3 : Nat) (o0_4 : Nat) (o0_5 : Nat) (o0_6 : Nat) (o0_7 : Nat) (o0_8 : Nat) (o0_9 : Nat) (o0_10 : Nat) (o0_11 : Nat) (o0_12 : Nat) (ra0 : Nat → Nat) (h1 : Nat) (ra1 : Nat → Nat) (h2 : Nat) (ra2 : Nat → Nat) (h3 : Nat) (ra3 : Nat → Nat) (x0_15 : Int32) (y1_0 : Nat → Int32) (x1_1 x1_2 x1_3 x1_4 : Int32) (y2_0 : Nat → Int32) (x2_1 x2_2 x2_3 x2_4 : Int32) (y3_0 y3_1 y3_2 : Nat → Int32) (x3_3 : Int32) (u : Int32 × Int32 × (Nat → Int32) × Int32 × Int32 × Int32 × Int32 × (Nat → Int32)) (sz : Nat) (hf : f_X11_keep x0_15 y1_0 x1_1 x1_2 x1_3 x1_4 y2_0 x2_1 x2_2 x2_3 x2_4 y3_2 = some u) : Met l yX11_keep (WS yX11_keep cX11_keep 1 (some .int)) rm_X11_keep (va_Pc [.ref h0] (PR D cs (wY11 cs h0 o0_0 h3 o0_2a o0_2b o0_2c o0_3 o0_4 o0_5 o0_6 o0_7 o0_8 o0_9 o0_10 o0_11 o0_12 h2 h1 ra0 x0_15 ++ (wX1 cs h1 ra1 y1_0 x1_1 x1_2 x1_3 x1_4 ++ (wX1 cs h2 ra2 y2_0 x2_1 x2_2 x2_3 x2_4 ++ (wX10 cs h3 ra3 y3_0 y3_1 y3_2 x3_3)))) sz)) (QI D (wY11 cs h0 o0_0 h3 o0_2a o0_2b o0_2c o0_3 o0_4 o0_5 o0_6 o0_7 o0_8 o0_9 o0_10 o0_11 o0_12 h2 h1 ra0 u.2.1 ++ (wX1 cs h1 ra1 u.2.2.1 u.2.2.2.1 u.2.2.2.2.1 u.2.2.2.2.2.1 u.2.2.2.2.2.2.1 ++ (wX1 cs h2 ra2 u.2.2.2.2.2.2.2 x2_1 x2_2 x2_3 x2_4 ++ (wX10 cs h3 ra3 y3_0 y3_1 y3_2 x3_3)))) (va_A (wY11 cs h0 o0_0 h3 o0_2a o0_2b o0_2c o0_3 o0_4 o0_5 o0_6 o0_7 o0_8 o0_9 o0_10 o0_11 o0_12 h2 h1 ra0 x0_15 ++ (wX1 cs h1 ra1 y1_0 x1_1 x1_2 x1_3 x1_4 ++ (wX1 cs h2 ra2 y2_0 x2_1 x2_2 x2_3 x2_4 ++ (wX10 cs h3 ra3 y3_0 y3_1 y3_2 x3_3)))) sz) u.1) 0 0 (va_A (wY11 cs h0 o0_0 h3 o0_2a o0_2b o0_2c o0_3 o0_4 o0_5 o0_6 o0_7 o0_8 o0_9 o0_10 o0_11 o0_12 h2 h1 ra0 x0_15 ++ (wX1 cs h1 ra1 y1_0 x1_1 x1_2 x1_3 x1_4 ++ (wX1 cs h2 ra2 y2_0 x2_1 x2_2 x2_3 x2_4 ++ (wX10 cs h3 ra3 y3_0 y3_1 y3_2 x3_3)))) sz) := by
  refine met_of RX11 rfl (by decide) (Nat.le_of_ble_eq_true rfl) ?_
  intro p e s m args below meth c hC hr hlocks hK hsz hA hV ls hl
  exact b_X11_keep_0 hC hr hlocks hK hA h0 o0_0 o0_2a o0_2b o0_2c o0_3 o0_4 o0_5 o0_6 o0_7 o0_8 o0_9 o0_10 o0_11 o0_12 ra0 h1 ra1 h2 ra2 h3 ra3 y3_0 y3_1 x3_3 u x0_15 y1_0 x1_1 x1_2 x1_3 x1_4 y2_0 x2_1 x2_2 x2_3 x2_4 y3_2 s.heap [] ls hf (lv_sub hl [0] rfl) hV
def rm_X11_undo : Room := { frames := 3, cells := 0, slots := 0, locals := 90 }
set_option maxHeartbeats 4000000 in
set_option maxRecDepth 100000 in
theorem b_X11_undo_0 {p : Program} {l : Launch} {e : Env} {s : State} {m : MethodId} {args : Array Value} {below : List Frame} {meth : Method} {c : Code} {D : va_G} {cs : Nat → ClassId} {A : Nat → Prop} (hC : CallFix p m c cX11_undo 1 s args gtbl RX11) (hr : meth.sig.returnType = (some .boolean)) (hlocks : meth.locks = false) (hK : KN D cs s) (hA : ∀ q : Nat, s.heap.size ≤ q → A q) (h0 : Nat) (o0_0 : Nat) (o0_2a : Nat) (o0_2b : Nat) (o0_2c : Nat) (o0_3 : Nat) (o0_4 : Nat) (o0_5 : Nat) (o0_6 : Nat) (o0_7 : Nat) (o0_8 : Nat) (o0_9 : Nat) (o0_10 : Nat) (o0_11 : Nat) (o0_12 : Nat) (ra0 : Nat → Nat) (h1 : Nat) (ra1 : Nat → Nat) (h2 : Nat) (ra2 : Nat → Nat) (h3 : Nat) (ra3 : Nat → Nat) (y3_0 : Nat → Int32) (x3_3 : Int32) (u : Int32 × (Nat → Int32) × Int32 × Int32 × Int32 × Int32 × (Nat → Int32)) : ∀ (x0_15 : Int32) (y1_0 : Nat → Int32) (x1_1 x1_2 x1_3 x1_4 : Int32) (y2_0 : Nat → Int32) (x2_1 x2_2 x2_3 x2_4 : Int32) (y3_1 y3_2 : Nat → Int32) (H : Heap) (locs : List Loc) (ls : Array Slot), g_X11_undo_0 x0_15 y1_0 x1_1 x1_2 x1_3 x1_4 y2_0 x2_1 x2_2 x2_3 x2_4 y3_1 y3_2 = some u → lv_has ls 1 [(0, .ref h0)] → VW D A s.heap (wY11 cs h0 o0_0 h3 o0_2a o0_2b o0_2c o0_3 o0_4 o0_5 o0_6 o0_7 o0_8 o0_9 o0_10 o0_11 o0_12 h2 h1 ra0 x0_15 ++ (wX1 cs h1 ra1 y1_0 x1_1 x1_2 x1_3 x1_4 ++ (wX1 cs h2 ra2 y2_0 x2_1 x2_2 x2_3 x2_4 ++ (wX10 cs h3 ra3 y3_0 y3_1 y3_2 x3_3)))) H locs → W p l e rm_X11_undo s m args below meth c H locs 0 0 (MQ below (QI D (wY11 cs h0 o0_0 h3 o0_2a o0_2b o0_2c o0_3 o0_4 o0_5 o0_6 o0_7 o0_8 o0_9 o0_10 o0_11 o0_12 h2 h1 ra0 x0_15 ++ (wX1 cs h1 ra1 y1_0 x1_1 x1_2 x1_3 x1_4 ++ (wX1 cs h2 ra2 u.2.1 u.2.2.1 u.2.2.2.1 u.2.2.2.2.1 u.2.2.2.2.2.1 ++ (wX10 cs h3 ra3 y3_0 y3_1 u.2.2.2.2.2.2 x3_3)))) A u.1) args s 0 0 A) (F0 m 0 ls []) := by
  have hx := hC.1
  have hb := hC.2.1
  have hown := hC.2.2.2.1
  have hts := hC.2.2.2.2
  intro x0_15 y1_0 x1_1 x1_2 x1_3 x1_4 y2_0 x2_1 x2_2 x2_3 x2_4 y3_1 y3_2 H locs ls hf hl hV
  refine lv_aload_n hx hb dX11_undo_0 rfl (lv_at hl 0 rfl) ?_
  refine q_get (v := .int x0_15) hC hK hV fl_X11_111 0 rfl rfl dX11_undo_1 ?_
  refine lv_if_eq (tgt := 24) hx hb dX11_undo_4 (by decide) (fun hc => ?_) (fun hc => ?_)
  · have hf := hf_t hf hc
    refine lv_iconst (v := 0) hx hb dX11_undo_24 (by decide) ?_
    obtain rfl := Option.some.inj hf
    exact q_retz hC hr hlocks hV (Or.inl rfl) dX11_undo_25
  · have hf := hf_f hf hc
    refine lv_aload_n hx hb dX11_undo_7 rfl (lv_at hl 0 rfl) ?_
    refine q_get (v := .ref h3) hC hK hV fl_X11_19 0 rfl rfl dX11_undo_8 ?_
    refine lv_aload_n hx hb dX11_undo_11 rfl (lv_at hl 0 rfl) ?_
    refine q_get (v := .ref h1) hC hK hV fl_X11_108 0 rfl rfl dX11_undo_12 ?_
    refine q_get (v := .ref (ra1 0)) hC hK hV fl_X11_289 2 rfl rfl dX11_undo_15 ?_
    obtain ⟨u1, hc1, hf⟩ := hf_b hf
    refine aft_i (run_v hC (k_X10_hold l D cs h3 ra3 (ra1 0) y3_0 y3_1 y3_2 x3_3 y1_0 u1 H.size hc1) cd_X10_hold cv_X10_hold ml_X11_297 rfl rfl ⟨by decide, by decide⟩ hK hV (fr_pre hK hV [6, 7, 8, 9, 3] rfl (by decide)) (ci := 10) (q0 := 6) rfl rfl rfl rfl hl.1 rfl (Nat.le_of_ble_eq_true rfl) dX11_undo_18) hV (va_free hV.2.1 hV.2.2 hA [6, 7, 8, 9, 3] rfl) (fr_jn (s := s) (wn := wY11 cs h0 o0_0 h3 o0_2a o0_2b o0_2c o0_3 o0_4 o0_5 o0_6 o0_7 o0_8 o0_9 o0_10 o0_11 o0_12 h2 h1 ra0 x0_15 ++ (wX1 cs h1 ra1 y1_0 x1_1 x1_2 x1_3 x1_4 ++ (wX1 cs h2 ra2 y2_0 x2_1 x2_2 x2_3 x2_4 ++ (wX10 cs h3 ra3 y3_0 y3_1 y3_2 x3_3)))) hV hA [6, 7, 8, 9, 3] [0, 1, 2, 4, 5] [0, 1, 2, 9, 3, 4, 5, 6, 7, 8] rfl rfl (by decide) (by decide) rfl (by decide)) (fun H locs hV => ?_)
    refine lv_if_ne (tgt := 26) hx hb dX11_undo_21 (by decide) (fun hc => ?_) (fun hc => ?_)
    · have hf := hf_f hf hc
      refine lv_aload_n hx hb dX11_undo_26 rfl (lv_at hl 0 rfl) ?_
      refine q_get (v := .ref h2) hC hK hV fl_X11_100 0 rfl rfl dX11_undo_27 ?_
      refine lv_aload_n hx hb dX11_undo_30 rfl (lv_at hl 0 rfl) ?_
      refine q_get (v := .ref h1) hC hK hV fl_X11_108 0 rfl rfl dX11_undo_31 ?_
      obtain ⟨u2, hc2, hf⟩ := hf_b hf
      refine aft_v (run_v hC (k_X1_copy l D cs h2 ra2 h1 ra1 y2_0 x2_1 x2_2 x2_3 x2_4 y1_0 x1_1 x1_2 x1_3 x1_4 u2 H.size hc2) cd_X1_copy cv_X1_copy ml_X11_290 rfl rfl ⟨by decide, by decide⟩ hK hV (fr_pre hK hV [4, 5, 2, 3] rfl (by decide)) (ci := 1) (q0 := 4) rfl rfl rfl rfl hl.1 rfl (Nat.le_of_ble_eq_true rfl) dX11_undo_34) hV (va_free hV.2.1 hV.2.2 hA [4, 5, 2, 3] rfl) (fr_jn (s := s) (wn := wY11 cs h0 o0_0 h3 o0_2a o0_2b o0_2c o0_3 o0_4 o0_5 o0_6 o0_7 o0_8 o0_9 o0_10 o0_11 o0_12 h2 h1 ra0 x0_15 ++ (wX1 cs h1 ra1 y1_0 x1_1 x1_2 x1_3 x1_4 ++ (wX1 cs h2 ra2 u2.1 u2.2.1 u2.2.2.1 u2.2.2.2.1 u2.2.2.2.2 ++ (wX10 cs h3 ra3 y3_0 y3_1 y3_2 x3_3)))) hV hA [4, 5, 2, 3] [0, 1, 6, 7, 8, 9] [0, 1, 8, 9, 6, 7, 2, 3, 4, 5] rfl rfl (by decide) (by decide) rfl (by decide)) (fun H locs hV => ?_)
      refine lv_aload_n hx hb dX11_undo_37 rfl (lv_at hl 0 rfl) ?_
      refine q_get (v := .ref h1) hC hK hV fl_X11_108 0 rfl rfl dX11_undo_38 ?_
      refine q_get (v := .ref (ra1 0)) hC hK hV fl_X11_289 2 rfl rfl dX11_undo_41 ?_
      refine lv_aload_n hx hb dX11_undo_44 rfl (lv_at hl 0 rfl) ?_
      refine q_get (v := .ref h3) hC hK hV fl_X11_19 0 rfl rfl dX11_undo_45 ?_
      refine q_get (v := .ref (ra3 2)) hC hK hV fl_X11_157 6 rfl rfl dX11_undo_48 ?_
      obtain ⟨u3, hc3, hf⟩ := hf_b hf
      refine aft_v (run_s hC (k_X11_copyMeasures l D cs (ra1 0) (ra3 2) y1_0 y3_2 u3 H.size hc3) cd_X11_copyMeasures st_X11_copyMeasures ml_X11_192 rfl rfl ⟨by decide, by decide⟩ (fr_pre hK hV [3, 9] rfl (by decide)) rfl hl.1 rfl (Nat.le_of_ble_eq_true rfl) dX11_undo_51) hV (va_free hV.2.1 hV.2.2 hA [3, 9] rfl) (fr_jn (s := s) (wn := wY11 cs h0 o0_0 h3 o0_2a o0_2b o0_2c o0_3 o0_4 o0_5 o0_6 o0_7 o0_8 o0_9 o0_10 o0_11 o0_12 h2 h1 ra0 x0_15 ++ (wX1 cs h1 ra1 y1_0 x1_1 x1_2 x1_3 x1_4 ++ (wX1 cs h2 ra2 u2.1 u2.2.1 u2.2.2.1 u2.2.2.2.1 u2.2.2.2.2 ++ (wX10 cs h3 ra3 y3_0 y3_1 u3 x3_3)))) hV hA [3, 9] [0, 1, 2, 4, 5, 6, 7, 8] [0, 1, 2, 8, 3, 4, 5, 6, 7, 9] rfl rfl (by decide) (by decide) rfl (by decide)) (fun H locs hV => ?_)
      refine lv_iconst (v := 1) hx hb dX11_undo_54 (by decide) ?_
      obtain rfl := Option.some.inj hf
      exact q_retz hC hr hlocks hV (Or.inr rfl) dX11_undo_55
    · have hf := hf_t hf hc
      refine lv_iconst (v := 0) hx hb dX11_undo_24 (by decide) ?_
      obtain rfl := Option.some.inj hf
      exact q_retz hC hr hlocks hV (Or.inl rfl) dX11_undo_25
set_option maxRecDepth 100000 in
theorem k_X11_undo (l : Launch) (D : va_G) (cs : Nat → ClassId) (h0 : Nat) (o0_0 : Nat) (o0_2a : Nat) (o0_2b : Nat) (o0_2c : Nat) (o0_3 : Nat) (o0_4 : Nat) (o0_5 : Nat) (o0_6 : Nat) (o0_7 : Nat) (o0_8 : Nat) (o0_9 : Nat) (o0_10 : Nat) (o0_11 : Nat) (o0_12 : Nat) (ra0 : Nat → Nat) (h1 : Nat) (ra1 : Nat → Nat) (h2 : Nat) (ra2 : Nat → Nat) (h3 : Nat) (ra3 : Nat → Nat) (x0_15 : Int32) (y1_0 : Nat → Int32) (x1_1 x1_2 x1_3 x1_4 : Int32) (y2_0 : Nat → Int32) (x2_1 x2_2 x2_3 x2_4 : Int32) (y3_0 y3_1 y3_2 : Nat → Int32) (x3_3 : Int32) (u : Int32 × (Nat → Int32) × Int32 × Int32 × Int32 × Int32 × (Nat → Int32)) (sz : Nat) (hf : f_X11_undo x0_15 y1_0 x1_1 x1_2 x1_3 x1_4 y2_0 x2_1 x2_2 x2_3 x2_4 y3_1 y3_2 = some u) : Met l yX11_undo (WS yX11_undo cX11_undo 1 (some .boolean)) rm_X11_undo (va_Pc [.ref h0] (PR D cs (wY11 cs h0 o0_0 h3 o0_2a o0_2b o0_2c o0_3 o0_4 o0_5 o0_6 o0_7 o0_8 o0_9 o0_10 o0_11 o0_12 h2 h1 ra0 x0_15 ++ (wX1 cs h1 ra1 y1_0 x1_1 x1_2 x1_3 x1_4 ++ (wX1 cs h2 ra2 y2_0 x2_1 x2_2 x2_3 x2_4 ++ (wX10 cs h3 ra3 y3_0 y3_1 y3_2 x3_3)))) sz)) (QI D (wY11 cs h0 o0_0 h3 o0_2a o0_2b o0_2c o0_3 o0_4 o0_5 o0_6 o0_7 o0_8 o0_9 o0_10 o0_11 o0_12 h2 h1 ra0 x0_15 ++ (wX1 cs h1 ra1 y1_0 x1_1 x1_2 x1_3 x1_4 ++ (wX1 cs h2 ra2 u.2.1 u.2.2.1 u.2.2.2.1 u.2.2.2.2.1 u.2.2.2.2.2.1 ++ (wX10 cs h3 ra3 y3_0 y3_1 u.2.2.2.2.2.2 x3_3)))) (va_A (wY11 cs h0 o0_0 h3 o0_2a o0_2b o0_2c o0_3 o0_4 o0_5 o0_6 o0_7 o0_8 o0_9 o0_10 o0_11 o0_12 h2 h1 ra0 x0_15 ++ (wX1 cs h1 ra1 y1_0 x1_1 x1_2 x1_3 x1_4 ++ (wX1 cs h2 ra2 y2_0 x2_1 x2_2 x2_3 x2_4 ++ (wX10 cs h3 ra3 y3_0 y3_1 y3_2 x3_3)))) sz) u.1) 0 0 (va_A (wY11 cs h0 o0_0 h3 o0_2a o0_2b o0_2c o0_3 o0_4 o0_5 o0_6 o0_7 o0_8 o0_9 o0_10 o0_11 o0_12 h2 h1 ra0 x0_15 ++ (wX1 cs h1 ra1 y1_0 x1_1 x1_2 x1_3 x1_4 ++ (wX1 cs h2 ra2 y2_0 x2_1 x2_2 x2_3 x2_4 ++ (wX10 cs h3 ra3 y3_0 y3_1 y3_2 x3_3)))) sz) := by
  refine met_of RX11 rfl (by decide) (Nat.le_of_ble_eq_true rfl) ?_
  intro p e s m args below meth c hC hr hlocks hK hsz hA hV ls hl
  exact b_X11_undo_0 hC hr hlocks hK hA h0 o0_0 o0_2a o0_2b o0_2c o0_3 o0_4 o0_5 o0_6 o0_7 o0_8 o0_9 o0_10 o0_11 o0_12 ra0 h1 ra1 h2 ra2 h3 ra3 y3_0 x3_3 u x0_15 y1_0 x1_1 x1_2 x1_3 x1_4 y2_0 x2_1 x2_2 x2_3 x2_4 y3_1 y3_2 s.heap [] ls hf (lv_sub hl [0] rfl) hV
def rm_X11_firstWrong : Room := { frames := 3, cells := 0, slots := 0, locals := 66 }
set_option maxHeartbeats 4000000 in
set_option maxRecDepth 100000 in
theorem b_X11_firstWrong_2 {p : Program} {l : Launch} {e : Env} {s : State} {m : MethodId} {args : Array Value} {below : List Frame} {meth : Method} {c : Code} {D : va_G} {cs : Nat → ClassId} {A : Nat → Prop} (hC : CallFix p m c cX11_firstWrong 3 s args gtbl RX11) (hr : meth.sig.returnType = (some .int)) (hlocks : meth.locks = false) (hK : KN D cs s) (hA : ∀ q : Nat, s.heap.size ≤ q → A q) (h0 : Nat) (o0_2a : Nat) (o0_2b : Nat) (o0_2c : Nat) (o0_3 : Nat) (o0_4 : Nat) (o0_5 : Nat) (o0_6 : Nat) (o0_7 : Nat) (o0_8 : Nat) (o0_9 : Nat) (o0_10 : Nat) (o0_11 : Nat) (o0_12 : Nat) (o0_13 : Nat) (o0_14 : Nat) (ra0 : Nat → Nat) (h1 : Nat) (ra1 : Nat → Nat) (h2 : Nat) (ra2 : Nat → Nat) (x0_15 x1_1 x1_2 x1_3 x1_4 : Int32) (y2_0 y2_1 : Nat → Int32) (x2_3 : Int32) (u : Int32) : ∀ (n : Nat), ∀ (v1 v2 : Int32) (y1_0 y2_2 : Nat → Int32) (H : Heap) (locs : List Loc) (ls : Array Slot), g_X11_firstWrong_2 n v1 v2 y1_0 y2_2 = some u → lv_has ls 3 [(0, .ref h0), (1, .int v1), (2, .int v2)] → VW D A s.heap (wY11 cs h0 h1 h2 o0_2a o0_2b o0_2c o0_3 o0_4 o0_5 o0_6 o0_7 o0_8 o0_9 o0_10 o0_11 o0_12 o0_13 o0_14 ra0 x0_15 ++ (wX9 cs h1 ra1 y1_0 x1_1 x1_2 x1_3 x1_4 ++ (wX10 cs h2 ra2 y2_0 y2_1 y2_2 x2_3))) H locs → W p l e rm_X11_firstWrong s m args below meth c H locs 0 0 (MQ below (QI D (wY11 cs h0 h1 h2 o0_2a o0_2b o0_2c o0_3 o0_4 o0_5 o0_6 o0_7 o0_8 o0_9 o0_10 o0_11 o0_12 o0_13 o0_14 ra0 x0_15 ++ (wX9 cs h1 ra1 y1_0 x1_1 x1_2 x1_3 x1_4 ++ (wX10 cs h2 ra2 y2_0 y2_1 y2_2 x2_3))) A u) args s 0 0 A) (F0 m 2 ls []) := by
  have hx := hC.1
  have hb := hC.2.1
  have hown := hC.2.2.2.1
  have hts := hC.2.2.2.2
  intro n
  induction n with
  | zero =>
    intro v1 v2 y1_0 y2_2 H locs ls hf hl hV
    exact hf_no (show (none : Option (Int32)) = some u from hf)
  | succ n ih =>
    intro v1 v2 y1_0 y2_2 H locs ls hf hl hV
    refine lv_iload_n hx hb dX11_firstWrong_2 rfl (lv_at hl 2 rfl) ?_
    refine lv_iload_n hx hb dX11_firstWrong_3 rfl (lv_at hl 1 rfl) ?_
    refine lv_icmp_ge (tgt := 41) hx hb dX11_firstWrong_4 (by decide) (fun hc => ?_) (fun hc => ?_)
    · have hf := hf_t hf hc
      refine lv_iconst (v := (-1)) hx hb dX11_firstWrong_41 (by decide) ?_
      obtain rfl := Option.some.inj hf
      exact q_ret hC hr hlocks hV dX11_firstWrong_42
    · have hf := hf_f hf hc
      refine lv_iload_n hx hb dX11_firstWrong_7 rfl (lv_at hl 2 rfl) ?_
      refine lv_bipush (v := 6) hx hb dX11_firstWrong_8 (by decide) ?_
      refine lv_icmp_ge (tgt := 41) hx hb dX11_firstWrong_10 (by decide) (fun hc => ?_) (fun hc => ?_)
      · have hf := hf_t hf hc
        refine lv_iconst (v := (-1)) hx hb dX11_firstWrong_41 (by decide) ?_
        obtain rfl := Option.some.inj hf
        exact q_ret hC hr hlocks hV dX11_firstWrong_42
      · have hf := hf_f hf hc
        refine lv_aload_n hx hb dX11_firstWrong_13 rfl (lv_at hl 0 rfl) ?_
        refine q_get (v := .ref h1) hC hK hV fl_X11_10 0 rfl rfl dX11_firstWrong_14 ?_
        refine lv_iload_n hx hb dX11_firstWrong_17 rfl (lv_at hl 2 rfl) ?_
        obtain ⟨u1, hc1, hf⟩ := hf_b hf
        refine aft_i (run_v hC (k_X9_number l D cs h1 ra1 y1_0 x1_1 x1_2 x1_3 x1_4 v2 u1 H.size hc1) cd_X9_number cv_X9_number ml_X11_316 rfl rfl ⟨by decide, by decide⟩ hK hV (fr_pre hK hV [2, 3] rfl (by decide)) (ci := 9) (q0 := 2) rfl rfl rfl rfl hl.1 rfl (Nat.le_of_ble_eq_true rfl) dX11_firstWrong_18) hV (va_free hV.2.1 hV.2.2 hA [2, 3] rfl) (fr_jn (s := s) (wn := wY11 cs h0 h1 h2 o0_2a o0_2b o0_2c o0_3 o0_4 o0_5 o0_6 o0_7 o0_8 o0_9 o0_10 o0_11 o0_12 o0_13 o0_14 ra0 x0_15 ++ (wX9 cs h1 ra1 y1_0 x1_1 x1_2 x1_3 x1_4 ++ (wX10 cs h2 ra2 y2_0 y2_1 y2_2 x2_3))) hV hA [2, 3] [0, 1, 4, 5, 6, 7] [0, 1, 6, 7, 2, 3, 4, 5] rfl rfl (by decide) (by decide) rfl (by decide)) (fun H locs hV => ?_)
        refine lv_aload_n hx hb dX11_firstWrong_21 rfl (lv_at hl 0 rfl) ?_
        refine q_get (v := .ref h2) hC hK hV fl_X11_19 0 rfl rfl dX11_firstWrong_22 ?_
        refine q_get (v := .ref (ra2 2)) hC hK hV fl_X11_157 4 rfl rfl dX11_firstWrong_25 ?_
        refine lv_iload_n hx hb dX11_firstWrong_28 rfl (lv_at hl 2 rfl) ?_
        obtain ⟨hi2, hf⟩ := hf_if hf
        refine q_iald hC hK hV 7 rfl hi2 dX11_firstWrong_29 ?_
        refine lv_icmp_eq (tgt := 35) hx hb dX11_firstWrong_30 (by decide) (fun hc => ?_) (fun hc => ?_)
        · have hf := hf_t hf hc
          refine lv_iinc (v := (v2 + 1)) (lv' := [(2, .int (v2 + 1)), (0, .ref h0), (1, .int v1)]) hx hb dX11_firstWrong_35 hl (k := 2) rfl (by rfl) (by decide) rfl (fun ls hl => ?_)
          refine lv_goto (tgt := 2) hx hb dX11_firstWrong_38 (by decide) ?_
          exact ih v1 (v2 + 1) y1_0 y2_2 H locs ls hf (lv_sub hl [1, 2, 0] rfl) hV
        · have hf := hf_f hf hc
          refine lv_iload_n hx hb dX11_firstWrong_33 rfl (lv_at hl 2 rfl) ?_
          obtain rfl := Option.some.inj hf
          exact q_ret hC hr hlocks hV dX11_firstWrong_34
set_option maxHeartbeats 4000000 in
set_option maxRecDepth 100000 in
theorem b_X11_firstWrong_0 {p : Program} {l : Launch} {e : Env} {s : State} {m : MethodId} {args : Array Value} {below : List Frame} {meth : Method} {c : Code} {D : va_G} {cs : Nat → ClassId} {A : Nat → Prop} (hC : CallFix p m c cX11_firstWrong 3 s args gtbl RX11) (hr : meth.sig.returnType = (some .int)) (hlocks : meth.locks = false) (hK : KN D cs s) (hA : ∀ q : Nat, s.heap.size ≤ q → A q) (h0 : Nat) (o0_2a : Nat) (o0_2b : Nat) (o0_2c : Nat) (o0_3 : Nat) (o0_4 : Nat) (o0_5 : Nat) (o0_6 : Nat) (o0_7 : Nat) (o0_8 : Nat) (o0_9 : Nat) (o0_10 : Nat) (o0_11 : Nat) (o0_12 : Nat) (o0_13 : Nat) (o0_14 : Nat) (ra0 : Nat → Nat) (h1 : Nat) (ra1 : Nat → Nat) (h2 : Nat) (ra2 : Nat → Nat) (x0_15 x1_1 x1_2 x1_3 x1_4 : Int32) (y2_0 y2_1 : Nat → Int32) (x2_3 : Int32) (u : Int32) : ∀ (v1 : Int32) (y1_0 y2_2 : Nat → Int32) (H : Heap) (locs : List Loc) (ls : Array Slot), g_X11_firstWrong_0 v1 y1_0 y2_2 = some u → lv_has ls 3 [(0, .ref h0), (1, .int v1)] → VW D A s.heap (wY11 cs h0 h1 h2 o0_2a o0_2b o0_2c o0_3 o0_4 o0_5 o0_6 o0_7 o0_8 o0_9 o0_10 o0_11 o0_12 o0_13 o0_14 ra0 x0_15 ++ (wX9 cs h1 ra1 y1_0 x1_1 x1_2 x1_3 x1_4 ++ (wX10 cs h2 ra2 y2_0 y2_1 y2_2 x2_3))) H locs → W p l e rm_X11_firstWrong s m args below meth c H locs 0 0 (MQ below (QI D (wY11 cs h0 h1 h2 o0_2a o0_2b o0_2c o0_3 o0_4 o0_5 o0_6 o0_7 o0_8 o0_9 o0_10 o0_11 o0_12 o0_13 o0_14 ra0 x0_15 ++ (wX9 cs h1 ra1 y1_0 x1_1 x1_2 x1_3 x1_4 ++ (wX10 cs h2 ra2 y2_0 y2_1 y2_2 x2_3))) A u) args s 0 0 A) (F0 m 0 ls []) := by
  have hx := hC.1
  have hb := hC.2.1
  have hown := hC.2.2.2.1
  have hts := hC.2.2.2.2
  intro v1 y1_0 y2_2 H locs ls hf hl hV
  refine lv_iconst (v := 0) hx hb dX11_firstWrong_0 (by decide) ?_
  refine lv_istore_n (lv' := [(2, .int 0), (0, .ref h0), (1, .int v1)]) hx hb dX11_firstWrong_1 rfl hl (by decide) rfl (fun ls hl => ?_)
  exact b_X11_firstWrong_2 hC hr hlocks hK hA h0 o0_2a o0_2b o0_2c o0_3 o0_4 o0_5 o0_6 o0_7 o0_8 o0_9 o0_10 o0_11 o0_12 o0_13 o0_14 ra0 h1 ra1 h2 ra2 x0_15 x1_1 x1_2 x1_3 x1_4 y2_0 y2_1 x2_3 u FU v1 0 y1_0 y2_2 H locs ls hf (lv_sub hl [1, 2, 0] rfl) hV
set_option maxRecDepth 100000 in
theorem k_X11_firstWrong (l : Launch) (D : va_G) (cs : Nat → ClassId) (h0 : Nat) (o0_2a : Nat) (o0_2b : Nat) (o0_2c : Nat) (o0_3 : Nat) (o0_4 : Nat) (o0_5 : Nat) (o0_6 : Nat) (o0_7 : Nat) (o0_8 : Nat) (o0_9 : Nat) (o0_10 : Nat) (o0_11 : Nat) (o0_12 : Nat) (o0_13 : Nat) (o0_14 : Nat) (ra0 : Nat → Nat) (h1 : Nat) (ra1 : Nat → Nat) (h2 : Nat) (ra2 : Nat → Nat) (x0_15 : Int32) (y1_0 : Nat → Int32) (x1_1 x1_2 x1_3 x1_4 : Int32) (y2_0 y2_1 y2_2 : Nat → Int32) (x2_3 : Int32) (v1 : Int32) (u : Int32) (sz : Nat) (hf : f_X11_firstWrong v1 y1_0 y2_2 = some u) : Met l yX11_firstWrong (WS yX11_firstWrong cX11_firstWrong 3 (some .int)) rm_X11_firstWrong (va_Pc [.ref h0, .int v1] (PR D cs (wY11 cs h0 h1 h2 o0_2a o0_2b o0_2c o0_3 o0_4 o0_5 o0_6 o0_7 o0_8 o0_9 o0_10 o0_11 o0_12 o0_13 o0_14 ra0 x0_15 ++ (wX9 cs h1 ra1 y1_0 x1_1 x1_2 x1_3 x1_4 ++ (wX10 cs h2 ra2 y2_0 y2_1 y2_2 x2_3))) sz)) (QI D (wY11 cs h0 h1 h2 o0_2a o0_2b o0_2c o0_3 o0_4 o0_5 o0_6 o0_7 o0_8 o0_9 o0_10 o0_11 o0_12 o0_13 o0_14 ra0 x0_15 ++ (wX9 cs h1 ra1 y1_0 x1_1 x1_2 x1_3 x1_4 ++ (wX10 cs h2 ra2 y2_0 y2_1 y2_2 x2_3))) (va_A (wY11 cs h0 h1 h2 o0_2a o0_2b o0_2c o0_3 o0_4 o0_5 o0_6 o0_7 o0_8 o0_9 o0_10 o0_11 o0_12 o0_13 o0_14 ra0 x0_15 ++ (wX9 cs h1 ra1 y1_0 x1_1 x1_2 x1_3 x1_4 ++ (wX10 cs h2 ra2 y2_0 y2_1 y2_2 x2_3))) sz) u) 0 0 (va_A (wY11 cs h0 h1 h2 o0_2a o0_2b o0_2c o0_3 o0_4 o0_5 o0_6 o0_7 o0_8 o0_9 o0_10 o0_11 o0_12 o0_13 o0_14 ra0 x0_15 ++ (wX9 cs h1 ra1 y1_0 x1_1 x1_2 x1_3 x1_4 ++ (wX10 cs h2 ra2 y2_0 y2_1 y2_2 x2_3))) sz) := by
  refine met_of RX11 rfl (by decide) (Nat.le_of_ble_eq_true rfl) ?_
  intro p e s m args below meth c hC hr hlocks hK hsz hA hV ls hl
  exact b_X11_firstWrong_0 hC hr hlocks hK hA h0 o0_2a o0_2b o0_2c o0_3 o0_4 o0_5 o0_6 o0_7 o0_8 o0_9 o0_10 o0_11 o0_12 o0_13 o0_14 ra0 h1 ra1 h2 ra2 x0_15 x1_1 x1_2 x1_3 x1_4 y2_0 y2_1 x2_3 u v1 y1_0 y2_2 s.heap [] ls hf (lv_sub hl [0, 1] rfl) hV
def rm_X11_check : Room := { frames := 4, cells := 0, slots := 0, locals := 88 }
set_option maxHeartbeats 4000000 in
set_option maxRecDepth 100000 in
theorem b_X11_check_0 {p : Program} {l : Launch} {e : Env} {s : State} {m : MethodId} {args : Array Value} {below : List Frame} {meth : Method} {c : Code} {D : va_G} {cs : Nat → ClassId} {A : Nat → Prop} (hC : CallFix p m c cX11_check 3 s args gtbl RX11) (hr : meth.sig.returnType = (some .int)) (hlocks : meth.locks = false) (hK : KN D cs s) (hA : ∀ q : Nat, s.heap.size ≤ q → A q) (h0 : Nat) (o0_2a : Nat) (o0_2b : Nat) (o0_2c : Nat) (o0_3 : Nat) (o0_4 : Nat) (o0_5 : Nat) (o0_6 : Nat) (o0_7 : Nat) (o0_8 : Nat) (o0_9 : Nat) (o0_10 : Nat) (o0_11 : Nat) (o0_12 : Nat) (o0_13 : Nat) (o0_14 : Nat) (ra0 : Nat → Nat) (h1 : Nat) (ra1 : Nat → Nat) (h2 : Nat) (ra2 : Nat → Nat) (x0_15 x1_2 x1_3 x1_4 : Int32) (y2_0 y2_1 : Nat → Int32) (x2_3 : Int32) (u : Int32 × Int32) : ∀ (v1 : Int32) (y1_0 : Nat → Int32) (x1_1 : Int32) (y2_2 : Nat → Int32) (H : Heap) (locs : List Loc) (ls : Array Slot), g_X11_check_0 v1 y1_0 x1_1 y2_2 = some u → lv_has ls 3 [(0, .ref h0), (1, .int v1)] → VW D A s.heap (wY11 cs h0 h1 h2 o0_2a o0_2b o0_2c o0_3 o0_4 o0_5 o0_6 o0_7 o0_8 o0_9 o0_10 o0_11 o0_12 o0_13 o0_14 ra0 x0_15 ++ (wX9 cs h1 ra1 y1_0 x1_1 x1_2 x1_3 x1_4 ++ (wX10 cs h2 ra2 y2_0 y2_1 y2_2 x2_3))) H locs → W p l e rm_X11_check s m args below meth c H locs 0 0 (MQ below (QI D (wY11 cs h0 h1 h2 o0_2a o0_2b o0_2c o0_3 o0_4 o0_5 o0_6 o0_7 o0_8 o0_9 o0_10 o0_11 o0_12 o0_13 o0_14 ra0 x0_15 ++ (wX9 cs h1 ra1 y1_0 u.2 x1_2 x1_3 x1_4 ++ (wX10 cs h2 ra2 y2_0 y2_1 y2_2 x2_3))) A u.1) args s 0 0 A) (F0 m 0 ls []) := by
  have hx := hC.1
  have hb := hC.2.1
  have hown := hC.2.2.2.1
  have hts := hC.2.2.2.2
  intro v1 y1_0 x1_1 y2_2 H locs ls hf hl hV
  refine lv_iload_n hx hb dX11_check_0 rfl (lv_at hl 1 rfl) ?_
  refine lv_iconst (v := 0) hx hb dX11_check_1 (by decide) ?_
  refine lv_bipush (v := 6) hx hb dX11_check_2 (by decide) ?_
  obtain ⟨u1, hc1, hf⟩ := hf_b hf
  refine aft_i (run_s hC (k_X11_within l D cs v1 0 6 u1 H.size hc1) cd_X11_within st_X11_within ml_X11_115 rfl rfl ⟨by decide, by decide⟩ (fr_pre hK hV [] rfl (by decide)) rfl hl.1 rfl (Nat.le_of_ble_eq_true rfl) dX11_check_4) hV (va_free hV.2.1 hV.2.2 hA [] rfl) (fr_jn (s := s) (wn := wY11 cs h0 h1 h2 o0_2a o0_2b o0_2c o0_3 o0_4 o0_5 o0_6 o0_7 o0_8 o0_9 o0_10 o0_11 o0_12 o0_13 o0_14 ra0 x0_15 ++ (wX9 cs h1 ra1 y1_0 x1_1 x1_2 x1_3 x1_4 ++ (wX10 cs h2 ra2 y2_0 y2_1 y2_2 x2_3))) hV hA [] [0, 1, 2, 3, 4, 5, 6, 7] [0, 1, 2, 3, 4, 5, 6, 7] rfl rfl (by decide) (by decide) rfl (by decide)) (fun H locs hV => ?_)
  refine lv_if_eq (tgt := 23) hx hb dX11_check_7 (by decide) (fun hc => ?_) (fun hc => ?_)
  · have hf := hf_t hf hc
    refine lv_bipush (v := (-2)) hx hb dX11_check_23 (by decide) ?_
    obtain rfl := Option.some.inj hf
    exact q_ret hC hr hlocks hV dX11_check_25
  · have hf := hf_f hf hc
    refine lv_aload_n hx hb dX11_check_10 rfl (lv_at hl 0 rfl) ?_
    refine q_get (v := .ref h1) hC hK hV fl_X11_10 0 rfl rfl dX11_check_11 ?_
    refine q_get (v := .int x1_1) hC hK hV fl_X11_131 2 rfl rfl dX11_check_14 ?_
    refine lv_iconst (v := 4) hx hb dX11_check_17 (by decide) ?_
    refine lv_iload_n hx hb dX11_check_18 rfl (lv_at hl 1 rfl) ?_
    refine lv_imul hx hb dX11_check_19 ?_
    refine lv_icmp_ge (tgt := 26) hx hb dX11_check_20 (by decide) (fun hc => ?_) (fun hc => ?_)
    · have hf := hf_t hf hc
      refine lv_aload_n hx hb dX11_check_26 rfl (lv_at hl 0 rfl) ?_
      refine lv_iload_n hx hb dX11_check_27 rfl (lv_at hl 1 rfl) ?_
      obtain ⟨u2, hc2, hf⟩ := hf_b hf
      refine aft_i (run_v hC (k_X11_firstWrong l D cs h0 o0_2a o0_2b o0_2c o0_3 o0_4 o0_5 o0_6 o0_7 o0_8 o0_9 o0_10 o0_11 o0_12 o0_13 o0_14 ra0 h1 ra1 h2 ra2 x0_15 y1_0 x1_1 x1_2 x1_3 x1_4 y2_0 y2_1 y2_2 x2_3 v1 u2 H.size hc2) cd_X11_firstWrong cv_X11_firstWrong ml_X11_301 rfl rfl ⟨by decide, by decide⟩ hK hV (fr_pre0 hK hV) (ci := 11) (q0 := 0) rfl rfl rfl rfl hl.1 rfl (Nat.le_of_ble_eq_true rfl) dX11_check_28) hV (fr_free0 hV hA) (fr_join0 hV hA) (fun H locs hV => ?_)
      refine lv_istore_n (lv' := [(2, .int u2), (0, .ref h0), (1, .int v1)]) hx hb dX11_check_31 rfl hl (by decide) rfl (fun ls hl => ?_)
      refine lv_aload_n hx hb dX11_check_32 rfl (lv_at hl 1 rfl) ?_
      refine q_get (v := .ref h1) hC hK hV fl_X11_10 0 rfl rfl dX11_check_33 ?_
      obtain ⟨u3, hc3, hf⟩ := hf_b hf
      refine aft_v (run_v hC (k_X9_clear l D cs h1 ra1 y1_0 x1_1 x1_2 x1_3 x1_4 u3 H.size hc3) cd_X9_clear cv_X9_clear ml_X11_145 rfl rfl ⟨by decide, by decide⟩ hK hV (fr_pre hK hV [2, 3] rfl (by decide)) (ci := 9) (q0 := 2) rfl rfl rfl rfl hl.1 rfl (Nat.le_of_ble_eq_true rfl) dX11_check_36) hV (va_free hV.2.1 hV.2.2 hA [2, 3] rfl) (fr_jn (s := s) (wn := wY11 cs h0 h1 h2 o0_2a o0_2b o0_2c o0_3 o0_4 o0_5 o0_6 o0_7 o0_8 o0_9 o0_10 o0_11 o0_12 o0_13 o0_14 ra0 x0_15 ++ (wX9 cs h1 ra1 y1_0 u3 x1_2 x1_3 x1_4 ++ (wX10 cs h2 ra2 y2_0 y2_1 y2_2 x2_3))) hV hA [2, 3] [0, 1, 4, 5, 6, 7] [0, 1, 6, 7, 2, 3, 4, 5] rfl rfl (by decide) (by decide) rfl (by decide)) (fun H locs hV => ?_)
      refine lv_iload_n hx hb dX11_check_39 rfl (lv_at hl 0 rfl) ?_
      obtain rfl := Option.some.inj hf
      exact q_ret hC hr hlocks hV dX11_check_40
    · have hf := hf_f hf hc
      refine lv_bipush (v := (-2)) hx hb dX11_check_23 (by decide) ?_
      obtain rfl := Option.some.inj hf
      exact q_ret hC hr hlocks hV dX11_check_25
set_option maxRecDepth 100000 in
theorem k_X11_check (l : Launch) (D : va_G) (cs : Nat → ClassId) (h0 : Nat) (o0_2a : Nat) (o0_2b : Nat) (o0_2c : Nat) (o0_3 : Nat) (o0_4 : Nat) (o0_5 : Nat) (o0_6 : Nat) (o0_7 : Nat) (o0_8 : Nat) (o0_9 : Nat) (o0_10 : Nat) (o0_11 : Nat) (o0_12 : Nat) (o0_13 : Nat) (o0_14 : Nat) (ra0 : Nat → Nat) (h1 : Nat) (ra1 : Nat → Nat) (h2 : Nat) (ra2 : Nat → Nat) (x0_15 : Int32) (y1_0 : Nat → Int32) (x1_1 x1_2 x1_3 x1_4 : Int32) (y2_0 y2_1 y2_2 : Nat → Int32) (x2_3 : Int32) (v1 : Int32) (u : Int32 × Int32) (sz : Nat) (hf : f_X11_check v1 y1_0 x1_1 y2_2 = some u) : Met l yX11_check (WS yX11_check cX11_check 3 (some .int)) rm_X11_check (va_Pc [.ref h0, .int v1] (PR D cs (wY11 cs h0 h1 h2 o0_2a o0_2b o0_2c o0_3 o0_4 o0_5 o0_6 o0_7 o0_8 o0_9 o0_10 o0_11 o0_12 o0_13 o0_14 ra0 x0_15 ++ (wX9 cs h1 ra1 y1_0 x1_1 x1_2 x1_3 x1_4 ++ (wX10 cs h2 ra2 y2_0 y2_1 y2_2 x2_3))) sz)) (QI D (wY11 cs h0 h1 h2 o0_2a o0_2b o0_2c o0_3 o0_4 o0_5 o0_6 o0_7 o0_8 o0_9 o0_10 o0_11 o0_12 o0_13 o0_14 ra0 x0_15 ++ (wX9 cs h1 ra1 y1_0 u.2 x1_2 x1_3 x1_4 ++ (wX10 cs h2 ra2 y2_0 y2_1 y2_2 x2_3))) (va_A (wY11 cs h0 h1 h2 o0_2a o0_2b o0_2c o0_3 o0_4 o0_5 o0_6 o0_7 o0_8 o0_9 o0_10 o0_11 o0_12 o0_13 o0_14 ra0 x0_15 ++ (wX9 cs h1 ra1 y1_0 x1_1 x1_2 x1_3 x1_4 ++ (wX10 cs h2 ra2 y2_0 y2_1 y2_2 x2_3))) sz) u.1) 0 0 (va_A (wY11 cs h0 h1 h2 o0_2a o0_2b o0_2c o0_3 o0_4 o0_5 o0_6 o0_7 o0_8 o0_9 o0_10 o0_11 o0_12 o0_13 o0_14 ra0 x0_15 ++ (wX9 cs h1 ra1 y1_0 x1_1 x1_2 x1_3 x1_4 ++ (wX10 cs h2 ra2 y2_0 y2_1 y2_2 x2_3))) sz) := by
  refine met_of RX11 rfl (by decide) (Nat.le_of_ble_eq_true rfl) ?_
  intro p e s m args below meth c hC hr hlocks hK hsz hA hV ls hl
  exact b_X11_check_0 hC hr hlocks hK hA h0 o0_2a o0_2b o0_2c o0_3 o0_4 o0_5 o0_6 o0_7 o0_8 o0_9 o0_10 o0_11 o0_12 o0_13 o0_14 ra0 h1 ra1 h2 ra2 x0_15 x1_2 x1_3 x1_4 y2_0 y2_1 x2_3 u v1 y1_0 x1_1 y2_2 s.heap [] ls hf (lv_sub hl [0, 1] rfl) hV
def rm_X11_count : Room := { frames := 1, cells := 0, slots := 0, locals := 22 }
set_option maxHeartbeats 4000000 in
set_option maxRecDepth 100000 in
theorem b_X11_count_0 {p : Program} {l : Launch} {e : Env} {s : State} {m : MethodId} {args : Array Value} {below : List Frame} {meth : Method} {c : Code} {D : va_G} {cs : Nat → ClassId} {A : Nat → Prop} (hC : CallFix p m c cX11_count 2 s args gtbl RX11) (hr : meth.sig.returnType = (some .int)) (hlocks : meth.locks = false) (hK : KN D cs s) (hA : ∀ q : Nat, s.heap.size ≤ q → A q) (h0 : Nat) (o0_3 : Nat) (o0_4 : Nat) (o0_5 : Nat) (o0_6 : Nat) (o0_7 : Nat) (o0_8 : Nat) (o0_9 : Nat) (o0_10 : Nat) (o0_11 : Nat) (o0_14 : Nat) (ra0 : Nat → Nat) (h1 : Nat) (ra1 : Nat → Nat) (h2 : Nat) (o2_1 : Nat) (ra2 : Nat → Nat) (h3 : Nat) (ra3 : Nat → Nat) (h4 : Nat) (ra4 : Nat → Nat) (h5 : Nat) (ra5 : Nat → Nat) (h6 : Nat) (ra6 : Nat → Nat) (h7 : Nat) (ra7 : Nat → Nat) (x0_15 : Int32) (y1_0 y2_2 y2_3 y2_4 y2_5 y2_6 y2_7 y2_8 y2_9 y3_0 : Nat → Int32) (x3_2 x3_3 x3_4 x4_3 : Int32) (y5_0 y5_1 y5_2 y5_3 y5_4 : Nat → Int32) (x5_5 : Int32) (y6_0 y6_1 y6_2 y6_3 y6_4 : Nat → Int32) (x6_5 : Int32) (y7_0 y7_1 y7_2 y7_3 y7_4 : Nat → Int32) (x7_5 : Int32) (u : Int32) : ∀ (v1 x1_1 x1_2 x1_3 x1_4 x2_10 x3_1 : Int32) (y4_0 y4_1 y4_2 : Nat → Int32) (x5_6 x6_6 x7_6 : Int32) (H : Heap) (locs : List Loc) (ls : Array Slot), g_X11_count_0 v1 x1_1 x1_2 x1_3 x1_4 x2_10 x3_1 y4_0 y4_1 y4_2 x5_6 x6_6 x7_6 = some u → lv_has ls 2 [(0, .ref h0), (1, .int v1)] → VW D A s.heap (wY11 cs h0 h3 h4 h5 h6 h7 o0_3 o0_4 o0_5 o0_6 o0_7 o0_8 o0_9 o0_10 o0_11 h2 h1 o0_14 ra0 x0_15 ++ (wX1 cs h1 ra1 y1_0 x1_1 x1_2 x1_3 x1_4 ++ (wX2 cs h2 h4 o2_1 ra2 y2_2 y2_3 y2_4 y2_5 y2_6 y2_7 y2_8 y2_9 x2_10 ++ (wX9 cs h3 ra3 y3_0 x3_1 x3_2 x3_3 x3_4 ++ (wX10 cs h4 ra4 y4_0 y4_1 y4_2 x4_3 ++ (wX4 cs h5 ra5 y5_0 y5_1 y5_2 y5_3 y5_4 x5_5 x5_6 ++ (wX4 cs h6 ra6 y6_0 y6_1 y6_2 y6_3 y6_4 x6_5 x6_6 ++ (wX4 cs h7 ra7 y7_0 y7_1 y7_2 y7_3 y7_4 x7_5 x7_6)))))))) H locs → W p l e rm_X11_count s m args below meth c H locs 0 0 (MQ below (QI D (wY11 cs h0 h3 h4 h5 h6 h7 o0_3 o0_4 o0_5 o0_6 o0_7 o0_8 o0_9 o0_10 o0_11 h2 h1 o0_14 ra0 x0_15 ++ (wX1 cs h1 ra1 y1_0 x1_1 x1_2 x1_3 x1_4 ++ (wX2 cs h2 h4 o2_1 ra2 y2_2 y2_3 y2_4 y2_5 y2_6 y2_7 y2_8 y2_9 x2_10 ++ (wX9 cs h3 ra3 y3_0 x3_1 x3_2 x3_3 x3_4 ++ (wX10 cs h4 ra4 y4_0 y4_1 y4_2 x4_3 ++ (wX4 cs h5 ra5 y5_0 y5_1 y5_2 y5_3 y5_4 x5_5 x5_6 ++ (wX4 cs h6 ra6 y6_0 y6_1 y6_2 y6_3 y6_4 x6_5 x6_6 ++ (wX4 cs h7 ra7 y7_0 y7_1 y7_2 y7_3 y7_4 x7_5 x7_6)))))))) A u) args s 0 0 A) (F0 m 0 ls []) := by
  have hx := hC.1
  have hb := hC.2.1
  have hown := hC.2.2.2.1
  have hts := hC.2.2.2.2
  intro v1 x1_1 x1_2 x1_3 x1_4 x2_10 x3_1 y4_0 y4_1 y4_2 x5_6 x6_6 x7_6 H locs ls hf hl hV
  refine lv_iload_n hx hb dX11_count_0 rfl (lv_at hl 1 rfl) ?_
  refine lv_bipush (v := 10) hx hb dX11_count_1 (by decide) ?_
  refine lv_bipush (v := 15) hx hb dX11_count_3 (by decide) ?_
  obtain ⟨u1, hc1, hf⟩ := hf_b hf
  refine aft_i (run_s hC (k_X11_within l D cs v1 10 15 u1 H.size hc1) cd_X11_within st_X11_within ml_X11_115 rfl rfl ⟨by decide, by decide⟩ (fr_pre hK hV [] rfl (by decide)) rfl hl.1 rfl (Nat.le_of_ble_eq_true rfl) dX11_count_5) hV (va_free hV.2.1 hV.2.2 hA [] rfl) (fr_jn (s := s) (wn := wY11 cs h0 h3 h4 h5 h6 h7 o0_3 o0_4 o0_5 o0_6 o0_7 o0_8 o0_9 o0_10 o0_11 h2 h1 o0_14 ra0 x0_15 ++ (wX1 cs h1 ra1 y1_0 x1_1 x1_2 x1_3 x1_4 ++ (wX2 cs h2 h4 o2_1 ra2 y2_2 y2_3 y2_4 y2_5 y2_6 y2_7 y2_8 y2_9 x2_10 ++ (wX9 cs h3 ra3 y3_0 x3_1 x3_2 x3_3 x3_4 ++ (wX10 cs h4 ra4 y4_0 y4_1 y4_2 x4_3 ++ (wX4 cs h5 ra5 y5_0 y5_1 y5_2 y5_3 y5_4 x5_5 x5_6 ++ (wX4 cs h6 ra6 y6_0 y6_1 y6_2 y6_3 y6_4 x6_5 x6_6 ++ (wX4 cs h7 ra7 y7_0 y7_1 y7_2 y7_3 y7_4 x7_5 x7_6)))))))) hV hA [] [0, 1, 2, 3, 4, 5, 6, 7, 8, 9, 10, 11, 12, 13, 14, 15, 16, 17, 18, 19, 20, 21, 22, 23, 24, 25, 26, 27, 28, 29, 30, 31, 32, 33, 34, 35, 36] [0, 1, 2, 3, 4, 5, 6, 7, 8, 9, 10, 11, 12, 13, 14, 15, 16, 17, 18, 19, 20, 21, 22, 23, 24, 25, 26, 27, 28, 29, 30, 31, 32, 33, 34, 35, 36] rfl rfl (by decide) (by decide) rfl (by decide)) (fun H locs hV => ?_)
  refine lv_if_eq (tgt := 24) hx hb dX11_count_8 (by decide) (fun hc => ?_) (fun hc => ?_)
  · have hf := hf_t hf hc
    refine lv_iload_n hx hb dX11_count_24 rfl (lv_at hl 1 rfl) ?_
    refine lv_bipush (v := 20) hx hb dX11_count_25 (by decide) ?_
    refine lv_bipush (v := 25) hx hb dX11_count_27 (by decide) ?_
    obtain ⟨u2, hc2, hf⟩ := hf_b hf
    refine aft_i (run_s hC (k_X11_within l D cs v1 20 25 u2 H.size hc2) cd_X11_within st_X11_within ml_X11_115 rfl rfl ⟨by decide, by decide⟩ (fr_pre hK hV [] rfl (by decide)) rfl hl.1 rfl (Nat.le_of_ble_eq_true rfl) dX11_count_29) hV (va_free hV.2.1 hV.2.2 hA [] rfl) (fr_jn (s := s) (wn := wY11 cs h0 h3 h4 h5 h6 h7 o0_3 o0_4 o0_5 o0_6 o0_7 o0_8 o0_9 o0_10 o0_11 h2 h1 o0_14 ra0 x0_15 ++ (wX1 cs h1 ra1 y1_0 x1_1 x1_2 x1_3 x1_4 ++ (wX2 cs h2 h4 o2_1 ra2 y2_2 y2_3 y2_4 y2_5 y2_6 y2_7 y2_8 y2_9 x2_10 ++ (wX9 cs h3 ra3 y3_0 x3_1 x3_2 x3_3 x3_4 ++ (wX10 cs h4 ra4 y4_0 y4_1 y4_2 x4_3 ++ (wX4 cs h5 ra5 y5_0 y5_1 y5_2 y5_3 y5_4 x5_5 x5_6 ++ (wX4 cs h6 ra6 y6_0 y6_1 y6_2 y6_3 y6_4 x6_5 x6_6 ++ (wX4 cs h7 ra7 y7_0 y7_1 y7_2 y7_3 y7_4 x7_5 x7_6)))))))) hV hA [] [0, 1, 2, 3, 4, 5, 6, 7, 8, 9, 10, 11, 12, 13, 14, 15, 16, 17, 18, 19, 20, 21, 22, 23, 24, 25, 26, 27, 28, 29, 30, 31, 32, 33, 34, 35, 36] [0, 1, 2, 3, 4, 5, 6, 7, 8, 9, 10, 11, 12, 13, 14, 15, 16, 17, 18, 19, 20, 21, 22, 23, 24, 25, 26, 27, 28, 29, 30, 31, 32, 33, 34, 35, 36] rfl rfl (by decide) (by decide) rfl (by decide)) (fun H locs hV => ?_)
    refine lv_if_eq (tgt := 48) hx hb dX11_count_32 (by decide) (fun hc => ?_) (fun hc => ?_)
    · have hf := hf_t hf hc
      refine lv_iload_n hx hb dX11_count_48 rfl (lv_at hl 1 rfl) ?_
      refine lv_bipush (v := 30) hx hb dX11_count_49 (by decide) ?_
      refine lv_bipush (v := 35) hx hb dX11_count_51 (by decide) ?_
      obtain ⟨u3, hc3, hf⟩ := hf_b hf
      refine aft_i (run_s hC (k_X11_within l D cs v1 30 35 u3 H.size hc3) cd_X11_within st_X11_within ml_X11_115 rfl rfl ⟨by decide, by decide⟩ (fr_pre hK hV [] rfl (by decide)) rfl hl.1 rfl (Nat.le_of_ble_eq_true rfl) dX11_count_53) hV (va_free hV.2.1 hV.2.2 hA [] rfl) (fr_jn (s := s) (wn := wY11 cs h0 h3 h4 h5 h6 h7 o0_3 o0_4 o0_5 o0_6 o0_7 o0_8 o0_9 o0_10 o0_11 h2 h1 o0_14 ra0 x0_15 ++ (wX1 cs h1 ra1 y1_0 x1_1 x1_2 x1_3 x1_4 ++ (wX2 cs h2 h4 o2_1 ra2 y2_2 y2_3 y2_4 y2_5 y2_6 y2_7 y2_8 y2_9 x2_10 ++ (wX9 cs h3 ra3 y3_0 x3_1 x3_2 x3_3 x3_4 ++ (wX10 cs h4 ra4 y4_0 y4_1 y4_2 x4_3 ++ (wX4 cs h5 ra5 y5_0 y5_1 y5_2 y5_3 y5_4 x5_5 x5_6 ++ (wX4 cs h6 ra6 y6_0 y6_1 y6_2 y6_3 y6_4 x6_5 x6_6 ++ (wX4 cs h7 ra7 y7_0 y7_1 y7_2 y7_3 y7_4 x7_5 x7_6)))))))) hV hA [] [0, 1, 2, 3, 4, 5, 6, 7, 8, 9, 10, 11, 12, 13, 14, 15, 16, 17, 18, 19, 20, 21, 22, 23, 24, 25, 26, 27, 28, 29, 30, 31, 32, 33, 34, 35, 36] [0, 1, 2, 3, 4, 5, 6, 7, 8, 9, 10, 11, 12, 13, 14, 15, 16, 17, 18, 19, 20, 21, 22, 23, 24, 25, 26, 27, 28, 29, 30, 31, 32, 33, 34, 35, 36] rfl rfl (by decide) (by decide) rfl (by decide)) (fun H locs hV => ?_)
      refine lv_if_eq (tgt := 72) hx hb dX11_count_56 (by decide) (fun hc => ?_) (fun hc => ?_)
      · have hf := hf_t hf hc
        refine lv_iload_n hx hb dX11_count_72 rfl (lv_at hl 1 rfl) ?_
        refine lv_bipush (v := 40) hx hb dX11_count_73 (by decide) ?_
        refine lv_bipush (v := 42) hx hb dX11_count_75 (by decide) ?_
        obtain ⟨u4, hc4, hf⟩ := hf_b hf
        refine aft_i (run_s hC (k_X11_within l D cs v1 40 42 u4 H.size hc4) cd_X11_within st_X11_within ml_X11_115 rfl rfl ⟨by decide, by decide⟩ (fr_pre hK hV [] rfl (by decide)) rfl hl.1 rfl (Nat.le_of_ble_eq_true rfl) dX11_count_77) hV (va_free hV.2.1 hV.2.2 hA [] rfl) (fr_jn (s := s) (wn := wY11 cs h0 h3 h4 h5 h6 h7 o0_3 o0_4 o0_5 o0_6 o0_7 o0_8 o0_9 o0_10 o0_11 h2 h1 o0_14 ra0 x0_15 ++ (wX1 cs h1 ra1 y1_0 x1_1 x1_2 x1_3 x1_4 ++ (wX2 cs h2 h4 o2_1 ra2 y2_2 y2_3 y2_4 y2_5 y2_6 y2_7 y2_8 y2_9 x2_10 ++ (wX9 cs h3 ra3 y3_0 x3_1 x3_2 x3_3 x3_4 ++ (wX10 cs h4 ra4 y4_0 y4_1 y4_2 x4_3 ++ (wX4 cs h5 ra5 y5_0 y5_1 y5_2 y5_3 y5_4 x5_5 x5_6 ++ (wX4 cs h6 ra6 y6_0 y6_1 y6_2 y6_3 y6_4 x6_5 x6_6 ++ (wX4 cs h7 ra7 y7_0 y7_1 y7_2 y7_3 y7_4 x7_5 x7_6)))))))) hV hA [] [0, 1, 2, 3, 4, 5, 6, 7, 8, 9, 10, 11, 12, 13, 14, 15, 16, 17, 18, 19, 20, 21, 22, 23, 24, 25, 26, 27, 28, 29, 30, 31, 32, 33, 34, 35, 36] [0, 1, 2, 3, 4, 5, 6, 7, 8, 9, 10, 11, 12, 13, 14, 15, 16, 17, 18, 19, 20, 21, 22, 23, 24, 25, 26, 27, 28, 29, 30, 31, 32, 33, 34, 35, 36] rfl rfl (by decide) (by decide) rfl (by decide)) (fun H locs hV => ?_)
        refine lv_if_eq (tgt := 96) hx hb dX11_count_80 (by decide) (fun hc => ?_) (fun hc => ?_)
        · have hf := hf_t hf hc
          refine lv_iload_n hx hb dX11_count_96 rfl (lv_at hl 1 rfl) ?_
          by_cases ht5 : v1 = 0
          · have hf := hf_t hf ht5
            refine lv_tableIn (off := 43) (tgt := 140) hx hb dX11_count_97 (by rw [ht5]; decide) (by rw [ht5]; decide) (by rw [ht5]; rfl) (by decide) ?_
            refine lv_aload_n hx hb dX11_count_140 rfl (lv_at hl 0 rfl) ?_
            refine q_get (v := .ref h1) hC hK hV fl_X11_100 0 rfl rfl dX11_count_141 ?_
            refine q_get (v := .int x1_1) hC hK hV fl_X11_196 2 rfl rfl dX11_count_144 ?_
            obtain rfl := Option.some.inj hf
            exact q_ret hC hr hlocks hV dX11_count_147
          have hf := hf_f hf ht5
          by_cases ht6 : v1 = 1
          · have hf := hf_t hf ht6
            refine lv_tableIn (off := 51) (tgt := 148) hx hb dX11_count_97 (by rw [ht6]; decide) (by rw [ht6]; decide) (by rw [ht6]; rfl) (by decide) ?_
            refine lv_aload_n hx hb dX11_count_148 rfl (lv_at hl 0 rfl) ?_
            refine q_get (v := .ref h1) hC hK hV fl_X11_100 0 rfl rfl dX11_count_149 ?_
            refine q_get (v := .int x1_2) hC hK hV fl_X11_197 2 rfl rfl dX11_count_152 ?_
            obtain rfl := Option.some.inj hf
            exact q_ret hC hr hlocks hV dX11_count_155
          have hf := hf_f hf ht6
          by_cases ht7 : v1 = 2
          · have hf := hf_t hf ht7
            refine lv_tableIn (off := 59) (tgt := 156) hx hb dX11_count_97 (by rw [ht7]; decide) (by rw [ht7]; decide) (by rw [ht7]; rfl) (by decide) ?_
            refine lv_aload_n hx hb dX11_count_156 rfl (lv_at hl 0 rfl) ?_
            refine q_get (v := .ref h1) hC hK hV fl_X11_100 0 rfl rfl dX11_count_157 ?_
            refine q_get (v := .int x1_3) hC hK hV fl_X11_191 2 rfl rfl dX11_count_160 ?_
            obtain rfl := Option.some.inj hf
            exact q_ret hC hr hlocks hV dX11_count_163
          have hf := hf_f hf ht7
          by_cases ht8 : v1 = 3
          · have hf := hf_t hf ht8
            refine lv_tableIn (off := 67) (tgt := 164) hx hb dX11_count_97 (by rw [ht8]; decide) (by rw [ht8]; decide) (by rw [ht8]; rfl) (by decide) ?_
            refine lv_aload_n hx hb dX11_count_164 rfl (lv_at hl 0 rfl) ?_
            refine q_get (v := .ref h3) hC hK hV fl_X11_10 0 rfl rfl dX11_count_165 ?_
            refine q_get (v := .int x3_1) hC hK hV fl_X11_131 13 rfl rfl dX11_count_168 ?_
            obtain rfl := Option.some.inj hf
            exact q_ret hC hr hlocks hV dX11_count_171
          have hf := hf_f hf ht8
          by_cases ht9 : v1 = 4
          · have hf := hf_t hf ht9
            refine lv_tableIn (off := 75) (tgt := 172) hx hb dX11_count_97 (by rw [ht9]; decide) (by rw [ht9]; decide) (by rw [ht9]; rfl) (by decide) ?_
            refine lv_aload_n hx hb dX11_count_172 rfl (lv_at hl 0 rfl) ?_
            refine q_get (v := .ref h1) hC hK hV fl_X11_100 0 rfl rfl dX11_count_173 ?_
            refine q_get (v := .int x1_4) hC hK hV fl_X11_104 2 rfl rfl dX11_count_176 ?_
            obtain rfl := Option.some.inj hf
            exact q_ret hC hr hlocks hV dX11_count_179
          have hf := hf_f hf ht9
          by_cases ht10 : v1 = 5
          · have hf := hf_t hf ht10
            refine lv_tableIn (off := 83) (tgt := 180) hx hb dX11_count_97 (by rw [ht10]; decide) (by rw [ht10]; decide) (by rw [ht10]; rfl) (by decide) ?_
            refine lv_aload_n hx hb dX11_count_180 rfl (lv_at hl 0 rfl) ?_
            refine q_get (v := .ref h2) hC hK hV fl_X11_93 0 rfl rfl dX11_count_181 ?_
            refine q_get (v := .int x2_10) hC hK hV fl_X11_267 4 rfl rfl dX11_count_184 ?_
            obtain rfl := Option.some.inj hf
            exact q_ret hC hr hlocks hV dX11_count_187
          have hf := hf_f hf ht10
          by_cases ht12 : v1 = 6
          · have hf := hf_t hf ht12
            refine lv_tableIn (off := 91) (tgt := 188) hx hb dX11_count_97 (by rw [ht12]; decide) (by rw [ht12]; decide) (by rw [ht12]; rfl) (by decide) ?_
            refine lv_aload_n hx hb dX11_count_188 rfl (lv_at hl 0 rfl) ?_
            refine q_get (v := .ref h4) hC hK hV fl_X11_19 0 rfl rfl dX11_count_189 ?_
            obtain ⟨u11, hc11, hf⟩ := hf_b hf
            refine aft_i (run_v hC (k_X10_together l D cs h4 ra4 y4_0 y4_1 y4_2 x4_3 u11 H.size hc11) cd_X10_together cv_X10_together ml_X11_294 rfl rfl ⟨by decide, by decide⟩ hK hV (fr_pre hK hV [15, 16, 17, 18] rfl (by decide)) (ci := 10) (q0 := 15) rfl rfl rfl rfl hl.1 rfl (Nat.le_of_ble_eq_true rfl) dX11_count_192) hV (va_free hV.2.1 hV.2.2 hA [15, 16, 17, 18] rfl) (fr_jn (s := s) (wn := wY11 cs h0 h3 h4 h5 h6 h7 o0_3 o0_4 o0_5 o0_6 o0_7 o0_8 o0_9 o0_10 o0_11 h2 h1 o0_14 ra0 x0_15 ++ (wX1 cs h1 ra1 y1_0 x1_1 x1_2 x1_3 x1_4 ++ (wX2 cs h2 h4 o2_1 ra2 y2_2 y2_3 y2_4 y2_5 y2_6 y2_7 y2_8 y2_9 x2_10 ++ (wX9 cs h3 ra3 y3_0 x3_1 x3_2 x3_3 x3_4 ++ (wX10 cs h4 ra4 y4_0 y4_1 y4_2 x4_3 ++ (wX4 cs h5 ra5 y5_0 y5_1 y5_2 y5_3 y5_4 x5_5 x5_6 ++ (wX4 cs h6 ra6 y6_0 y6_1 y6_2 y6_3 y6_4 x6_5 x6_6 ++ (wX4 cs h7 ra7 y7_0 y7_1 y7_2 y7_3 y7_4 x7_5 x7_6)))))))) hV hA [15, 16, 17, 18] [0, 1, 2, 3, 4, 5, 6, 7, 8, 9, 10, 11, 12, 13, 14, 19, 20, 21, 22, 23, 24, 25, 26, 27, 28, 29, 30, 31, 32, 33, 34, 35, 36] [0, 1, 2, 3, 4, 5, 6, 7, 8, 9, 10, 11, 12, 13, 14, 33, 34, 35, 36, 15, 16, 17, 18, 19, 20, 21, 22, 23, 24, 25, 26, 27, 28, 29, 30, 31, 32] rfl rfl (by decide) (by decide) rfl (by decide)) (fun H locs hV => ?_)
            obtain rfl := Option.some.inj hf
            exact q_ret hC hr hlocks hV dX11_count_195
          have hf := hf_f hf ht12
          refine q_tswD (tgt := 196) hx hb dX11_count_97 rfl [0, 1, 2, 3, 4, 5, 6] (by decide) (tn_cons (tni ht5 (by decide)) (tn_cons (tni ht6 (by decide)) (tn_cons (tni ht7 (by decide)) (tn_cons (tni ht8 (by decide)) (tn_cons (tni ht9 (by decide)) (tn_cons (tni ht10 (by decide)) (tn_cons (tni ht12 (by decide)) (tn_nil)))))))) (by decide) ?_
          refine lv_iconst (v := (-1)) hx hb dX11_count_196 (by decide) ?_
          obtain rfl := Option.some.inj hf
          exact q_ret hC hr hlocks hV dX11_count_197
        · have hf := hf_f hf hc
          refine lv_aload_n hx hb dX11_count_83 rfl (lv_at hl 0 rfl) ?_
          refine q_get (v := .ref (ra0 2)) hC hK hV fl_X11_25 0 rfl rfl dX11_count_84 ?_
          refine lv_iload_n hx hb dX11_count_87 rfl (lv_at hl 1 rfl) ?_
          refine lv_bipush (v := 40) hx hb dX11_count_88 (by decide) ?_
          refine lv_isub hx hb dX11_count_90 ?_
          by_cases ht13 : (v1 - 40) = 0
          · have hf := hf_t hf ht13
            refine q_aald (j := 0) hC hK hV 1 rfl ht13 (by decide) rfl dX11_count_91 ?_
            refine q_get (v := .int x5_6) hC hK hV fl_X11_151 19 rfl rfl dX11_count_92 ?_
            obtain rfl := Option.some.inj hf
            exact q_ret hC hr hlocks hV dX11_count_95
          have hf := hf_f hf ht13
          by_cases ht14 : (v1 - 40) = 1
          · have hf := hf_t hf ht14
            refine q_aald (j := 1) hC hK hV 1 rfl ht14 (by decide) rfl dX11_count_91 ?_
            refine q_get (v := .int x6_6) hC hK hV fl_X11_151 25 rfl rfl dX11_count_92 ?_
            obtain rfl := Option.some.inj hf
            exact q_ret hC hr hlocks hV dX11_count_95
          have hf := hf_f hf ht14
          by_cases ht15 : (v1 - 40) = 2
          · have hf := hf_t hf ht15
            refine q_aald (j := 2) hC hK hV 1 rfl ht15 (by decide) rfl dX11_count_91 ?_
            refine q_get (v := .int x7_6) hC hK hV fl_X11_151 31 rfl rfl dX11_count_92 ?_
            obtain rfl := Option.some.inj hf
            exact q_ret hC hr hlocks hV dX11_count_95
          have hf := hf_f hf ht15
          exact hf_no (show (none : Option (Int32)) = some u from hf)
      · have hf := hf_f hf hc
        refine lv_aload_n hx hb dX11_count_59 rfl (lv_at hl 0 rfl) ?_
        refine q_get (v := .ref h4) hC hK hV fl_X11_19 0 rfl rfl dX11_count_60 ?_
        refine q_get (v := .ref (ra4 0)) hC hK hV fl_X11_307 15 rfl rfl dX11_count_63 ?_
        refine lv_iload_n hx hb dX11_count_66 rfl (lv_at hl 1 rfl) ?_
        refine lv_bipush (v := 30) hx hb dX11_count_67 (by decide) ?_
        refine lv_isub hx hb dX11_count_69 ?_
        obtain ⟨hi16, hf⟩ := hf_if hf
        refine q_iald hC hK hV 16 rfl hi16 dX11_count_70 ?_
        obtain rfl := Option.some.inj hf
        exact q_ret hC hr hlocks hV dX11_count_71
    · have hf := hf_f hf hc
      refine lv_aload_n hx hb dX11_count_35 rfl (lv_at hl 0 rfl) ?_
      refine q_get (v := .ref h4) hC hK hV fl_X11_19 0 rfl rfl dX11_count_36 ?_
      refine q_get (v := .ref (ra4 1)) hC hK hV fl_X11_304 15 rfl rfl dX11_count_39 ?_
      refine lv_iload_n hx hb dX11_count_42 rfl (lv_at hl 1 rfl) ?_
      refine lv_bipush (v := 20) hx hb dX11_count_43 (by decide) ?_
      refine lv_isub hx hb dX11_count_45 ?_
      obtain ⟨hi17, hf⟩ := hf_if hf
      refine q_iald hC hK hV 17 rfl hi17 dX11_count_46 ?_
      obtain rfl := Option.some.inj hf
      exact q_ret hC hr hlocks hV dX11_count_47
  · have hf := hf_f hf hc
    refine lv_aload_n hx hb dX11_count_11 rfl (lv_at hl 0 rfl) ?_
    refine q_get (v := .ref h4) hC hK hV fl_X11_19 0 rfl rfl dX11_count_12 ?_
    refine q_get (v := .ref (ra4 2)) hC hK hV fl_X11_157 15 rfl rfl dX11_count_15 ?_
    refine lv_iload_n hx hb dX11_count_18 rfl (lv_at hl 1 rfl) ?_
    refine lv_bipush (v := 10) hx hb dX11_count_19 (by decide) ?_
    refine lv_isub hx hb dX11_count_21 ?_
    obtain ⟨hi18, hf⟩ := hf_if hf
    refine q_iald hC hK hV 18 rfl hi18 dX11_count_22 ?_
    obtain rfl := Option.some.inj hf
    exact q_ret hC hr hlocks hV dX11_count_23
set_option maxRecDepth 100000 in
theorem k_X11_count (l : Launch) (D : va_G) (cs : Nat → ClassId) (h0 : Nat) (o0_3 : Nat) (o0_4 : Nat) (o0_5 : Nat) (o0_6 : Nat) (o0_7 : Nat) (o0_8 : Nat) (o0_9 : Nat) (o0_10 : Nat) (o0_11 : Nat) (o0_14 : Nat) (ra0 : Nat → Nat) (h1 : Nat) (ra1 : Nat → Nat) (h2 : Nat) (o2_1 : Nat) (ra2 : Nat → Nat) (h3 : Nat) (ra3 : Nat → Nat) (h4 : Nat) (ra4 : Nat → Nat) (h5 : Nat) (ra5 : Nat → Nat) (h6 : Nat) (ra6 : Nat → Nat) (h7 : Nat) (ra7 : Nat → Nat) (x0_15 : Int32) (y1_0 : Nat → Int32) (x1_1 x1_2 x1_3 x1_4 : Int32) (y2_2 y2_3 y2_4 y2_5 y2_6 y2_7 y2_8 y2_9 : Nat → Int32) (x2_10 : Int32) (y3_0 : Nat → Int32) (x3_1 x3_2 x3_3 x3_4 : Int32) (y4_0 y4_1 y4_2 : Nat → Int32) (x4_3 : Int32) (y5_0 y5_1 y5_2 y5_3 y5_4 : Nat → Int32) (x5_5 x5_6 : Int32) (y6_0 y6_1 y6_2 y6_3 y6_4 : Nat → Int32) (x6_5 x6_6 : Int32) (y7_0 y7_1 y7_2 y7_3 y7_4 : Nat → Int32) (x7_5 x7_6 : Int32) (v1 : Int32) (u : Int32) (sz : Nat) (hf : f_X11_count v1 x1_1 x1_2 x1_3 x1_4 x2_10 x3_1 y4_0 y4_1 y4_2 x5_6 x6_6 x7_6 = some u) : Met l yX11_count (WS yX11_count cX11_count 2 (some .int)) rm_X11_count (va_Pc [.ref h0, .int v1] (PR D cs (wY11 cs h0 h3 h4 h5 h6 h7 o0_3 o0_4 o0_5 o0_6 o0_7 o0_8 o0_9 o0_10 o0_11 h2 h1 o0_14 ra0 x0_15 ++ (wX1 cs h1 ra1 y1_0 x1_1 x1_2 x1_3 x1_4 ++ (wX2 cs h2 h4 o2_1 ra2 y2_2 y2_3 y2_4 y2_5 y2_6 y2_7 y2_8 y2_9 x2_10 ++ (wX9 cs h3 ra3 y3_0 x3_1 x3_2 x3_3 x3_4 ++ (wX10 cs h4 ra4 y4_0 y4_1 y4_2 x4_3 ++ (wX4 cs h5 ra5 y5_0 y5_1 y5_2 y5_3 y5_4 x5_5 x5_6 ++ (wX4 cs h6 ra6 y6_0 y6_1 y6_2 y6_3 y6_4 x6_5 x6_6 ++ (wX4 cs h7 ra7 y7_0 y7_1 y7_2 y7_3 y7_4 x7_5 x7_6)))))))) sz)) (QI D (wY11 cs h0 h3 h4 h5 h6 h7 o0_3 o0_4 o0_5 o0_6 o0_7 o0_8 o0_9 o0_10 o0_11 h2 h1 o0_14 ra0 x0_15 ++ (wX1 cs h1 ra1 y1_0 x1_1 x1_2 x1_3 x1_4 ++ (wX2 cs h2 h4 o2_1 ra2 y2_2 y2_3 y2_4 y2_5 y2_6 y2_7 y2_8 y2_9 x2_10 ++ (wX9 cs h3 ra3 y3_0 x3_1 x3_2 x3_3 x3_4 ++ (wX10 cs h4 ra4 y4_0 y4_1 y4_2 x4_3 ++ (wX4 cs h5 ra5 y5_0 y5_1 y5_2 y5_3 y5_4 x5_5 x5_6 ++ (wX4 cs h6 ra6 y6_0 y6_1 y6_2 y6_3 y6_4 x6_5 x6_6 ++ (wX4 cs h7 ra7 y7_0 y7_1 y7_2 y7_3 y7_4 x7_5 x7_6)))))))) (va_A (wY11 cs h0 h3 h4 h5 h6 h7 o0_3 o0_4 o0_5 o0_6 o0_7 o0_8 o0_9 o0_10 o0_11 h2 h1 o0_14 ra0 x0_15 ++ (wX1 cs h1 ra1 y1_0 x1_1 x1_2 x1_3 x1_4 ++ (wX2 cs h2 h4 o2_1 ra2 y2_2 y2_3 y2_4 y2_5 y2_6 y2_7 y2_8 y2_9 x2_10 ++ (wX9 cs h3 ra3 y3_0 x3_1 x3_2 x3_3 x3_4 ++ (wX10 cs h4 ra4 y4_0 y4_1 y4_2 x4_3 ++ (wX4 cs h5 ra5 y5_0 y5_1 y5_2 y5_3 y5_4 x5_5 x5_6 ++ (wX4 cs h6 ra6 y6_0 y6_1 y6_2 y6_3 y6_4 x6_5 x6_6 ++ (wX4 cs h7 ra7 y7_0 y7_1 y7_2 y7_3 y7_4 x7_5 x7_6)))))))) sz) u) 0 0 (va_A (wY11 cs h0 h3 h4 h5 h6 h7 o0_3 o0_4 o0_5 o0_6 o0_7 o0_8 o0_9 o0_10 o0_11 h2 h1 o0_14 ra0 x0_15 ++ (wX1 cs h1 ra1 y1_0 x1_1 x1_2 x1_3 x1_4 ++ (wX2 cs h2 h4 o2_1 ra2 y2_2 y2_3 y2_4 y2_5 y2_6 y2_7 y2_8 y2_9 x2_10 ++ (wX9 cs h3 ra3 y3_0 x3_1 x3_2 x3_3 x3_4 ++ (wX10 cs h4 ra4 y4_0 y4_1 y4_2 x4_3 ++ (wX4 cs h5 ra5 y5_0 y5_1 y5_2 y5_3 y5_4 x5_5 x5_6 ++ (wX4 cs h6 ra6 y6_0 y6_1 y6_2 y6_3 y6_4 x6_5 x6_6 ++ (wX4 cs h7 ra7 y7_0 y7_1 y7_2 y7_3 y7_4 x7_5 x7_6)))))))) sz) := by
  refine met_of RX11 rfl (by decide) (Nat.le_of_ble_eq_true rfl) ?_
  intro p e s m args below meth c hC hr hlocks hK hsz hA hV ls hl
  exact b_X11_count_0 hC hr hlocks hK hA h0 o0_3 o0_4 o0_5 o0_6 o0_7 o0_8 o0_9 o0_10 o0_11 o0_14 ra0 h1 ra1 h2 o2_1 ra2 h3 ra3 h4 ra4 h5 ra5 h6 ra6 h7 ra7 x0_15 y1_0 y2_2 y2_3 y2_4 y2_5 y2_6 y2_7 y2_8 y2_9 y3_0 x3_2 x3_3 x3_4 x4_3 y5_0 y5_1 y5_2 y5_3 y5_4 x5_5 y6_0 y6_1 y6_2 y6_3 y6_4 x6_5 y7_0 y7_1 y7_2 y7_3 y7_4 x7_5 u v1 x1_1 x1_2 x1_3 x1_4 x2_10 x3_1 y4_0 y4_1 y4_2 x5_6 x6_6 x7_6 s.heap [] ls hf (lv_sub hl [0, 1] rfl) hV
