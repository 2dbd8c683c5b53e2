theorem hf_no {α : Type} {u : α} {P : Prop} (h : (none : Option α) = some u) : P := by cases h
theorem fm_some {ws : va_W} : ∀ (is : List Nat), is.all (fun i => decide (i < ws.length)) = true → is.map (fun i => ws[i]?) = (is.filterMap (fun i => ws[i]?)).map some
  | [], _ => rfl
  | i :: is, h => by
    rw [List.all_cons, Bool.and_eq_true] at h
    have hi : i < ws.length := of_decide_eq_true h.1
    have e : ws[i]? = some ws[i] := List.getElem?_eq_getElem hi
    rw [List.map_cons, List.filterMap_cons, e, List.map_cons, fm_some is h.2]
theorem fr_jn {s : State} {H : Heap} {locs : List Loc} {D : va_G} {A : Nat → Prop} {ws wc w1 wn : va_W} {H0 : Heap} (hV : VW D A H0 ws H locs) (hA : ∀ q, H0.size ≤ q → A q) (isC isR isN : List Nat) (hC : isC.map (fun i => ws[i]?) = wc.map some) (hR : isR.all (fun i => decide (i < ws.length)) = true) (hn : va_nd isR = true) (hdis : ∀ i ∈ isR, i ∉ isC) (hN : isN.map (fun i => (isR.filterMap (fun j => ws[j]?) ++ w1)[i]?) = wn.map some) (hnn : va_nd isN = true)
    (H1 : Heap) (locs1 : List Loc) (hk : ∀ q : Nat, q < H.size → ¬ va_A wc H.size q → H1[q]? = H[q]?) (hP1 : va_P D classes w1 H1) (hD1 : va_D (va_A wc H.size) w1) (hS1 : va_S A H0 H1 locs1) : VW D A H0 wn H1 locs1 :=
  fr_join hV hA isC isR isN hC (fm_some isR hR) hn hdis hN hnn H1 locs1 hk hP1 hD1 hS1
