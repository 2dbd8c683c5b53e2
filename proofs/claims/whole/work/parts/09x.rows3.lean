/-! worlds as lists of fragments: the frame rule by fragments -/
theorem vd_iff {A : Nat → Prop} {ws : va_W} : va_D A ws ↔ (ws.map (fun q => q.1)).Nodup ∧ ∀ q ∈ ws, A q.1 := by
  constructor
  · intro h
    refine ⟨?_, fun q hq => ?_⟩
    · show List.Pairwise (· ≠ ·) _
      rw [List.pairwise_iff_getElem]
      intro i j hi hj hij e
      rw [List.length_map] at hi hj
      rw [List.getElem_map, List.getElem_map] at e
      have := h.1 i j ws[i] ws[j] (List.getElem?_eq_getElem hi) (List.getElem?_eq_getElem hj) e
      omega
    · obtain ⟨k, hk⟩ := List.getElem?_of_mem hq
      exact h.2 k q hk
  · intro h
    refine ⟨fun i j p q hp hq e => ?_, fun k q hk => h.2 q (List.mem_of_getElem? hk)⟩
    have hi : i < (ws.map (fun q => q.1)).length := by
      rw [List.length_map]; exact (List.getElem?_eq_some_iff.mp hp).1
    have h1 : (ws.map (fun q => q.1))[i]? = (ws.map (fun q => q.1))[j]? := by
      rw [List.getElem?_map, List.getElem?_map, hp, hq]; exact congrArg some e
    exact (List.getElem?_inj hi h.1).mp h1
theorem VW.perm {D : va_G} {A : Nat → Prop} {H0 H : Heap} {ws ws' : va_W} {locs : List Loc} (h : ws.Perm ws') (hV : VW D A H0 ws H locs) : VW D A H0 ws' H locs := by
  obtain ⟨hP, hD, hS⟩ := hV
  refine ⟨fun k q hk => ?_, ?_, hS⟩
  · obtain ⟨i, hi⟩ := List.getElem?_of_mem (h.symm.mem_iff.mp (List.mem_of_getElem? hk))
    exact hP i q hi
  · obtain ⟨h1, h2⟩ := vd_iff.mp hD
    exact vd_iff.mpr ⟨(h.map _).nodup_iff.mp h1, fun q hq => h2 q (h.mem_iff.mpr hq)⟩
def jn : List va_W → va_W
  | [] => []
  | a :: L => a ++ jn L
def jl : List va_W → va_W
  | [] => []
  | [a] => a
  | a :: b :: L => a ++ jl (b :: L)
theorem jl_eq : ∀ L : List va_W, jl L = jn L
  | [] => rfl
  | [a] => (List.append_nil a).symm
  | a :: b :: L => congrArg (a ++ ·) (jl_eq (b :: L))
theorem jn_app : ∀ L M : List va_W, jn (L ++ M) = jn L ++ jn M
  | [], _ => rfl
  | a :: L, M => by rw [List.cons_append, jn, jn, jn_app L M, List.append_assoc]
theorem jn_perm {L M : List va_W} (h : L.Perm M) : (jn L).Perm (jn M) := by
  induction h with
  | nil => exact List.Perm.refl _
  | cons x _ ih => exact ih.append_left x
  | swap x y l =>
    show (y ++ (x ++ jn l)).Perm (x ++ (y ++ jn l))
    rw [← List.append_assoc, ← List.append_assoc]
    exact List.perm_append_comm.append_right _
  | trans _ _ ih1 ih2 => exact ih1.trans ih2
theorem pm_idx {α : Type} {ws ws' : List α} (is : List Nat) {n : Nat} (hn : ws.length = n) (hp : is.Perm (List.range n)) (h : is.map (fun i => ws[i]?) = ws'.map some) : ws.Perm ws' := by
  have e : (List.range ws.length).map (fun i => ws[i]?) = ws.map some := by
    apply List.ext_getElem?
    intro i
    rw [List.getElem?_map, List.getElem?_map]
    by_cases hi : i < ws.length
    · rw [List.getElem?_range hi, List.getElem?_eq_getElem hi]
      show some ws[i]? = some (some ws[i])
      rw [List.getElem?_eq_getElem hi]
    · rw [List.getElem?_eq_none (by rw [List.length_range]; omega), List.getElem?_eq_none (by omega)]; rfl
  have h2 : (ws.map some).Perm (ws'.map some) := by
    rw [← e, ← h, hn]
    exact (hp.map _).symm
  have h3 := h2.filterMap (fun x : Option α => x)
  have e2 : ∀ m : List α, (m.map some).filterMap (fun x : Option α => x) = m := by
    intro m
    induction m with
    | nil => rfl
    | cons a m ih => rw [List.map_cons, List.filterMap_cons, ih]
  rw [e2, e2] at h3
  exact h3
section FRAMES
variable {p : Program} {l : Launch} {e : Env} {R : Room} {s : State} {H : Heap} {locs : List Loc} {D : va_G} {A : Nat → Prop} {cs : Nat → ClassId} {L G M : List va_W} {wc w1 wr we : va_W} {H0 : Heap}
/-- the fragments of a group to the front -/
theorem fr_split (is : List Nat) {n : Nat} (hn : L.length = n) (hp : is.Perm (List.range n)) (h : is.map (fun i => L[i]?) = (G ++ M).map some) (hV : VW D A H0 (jn L) H locs) : VW D A H0 (jl G ++ jn M) H locs := by
  rw [jl_eq, ← jn_app]
  exact hV.perm (jn_perm (pm_idx is hn hp h))
theorem fr_back (is : List Nat) {n : Nat} (hn : (G ++ M).length = n) (hp : is.Perm (List.range n)) (h : is.map (fun i => (G ++ M)[i]?) = L.map some) (hV : VW D A H0 (jl G ++ jn M) H locs) : VW D A H0 (jn L) H locs := by
  rw [jl_eq, ← jn_app] at hV
  exact hV.perm (jn_perm (pm_idx is hn hp h))
/-- some cells of the group to the front -/
theorem fr_cut {wg : va_W} (is : List Nat) {n : Nat} (hn : wg.length = n) (hp : is.Perm (List.range n)) (h : is.map (fun i => wg[i]?) = (wc ++ we).map some) (hV : VW D A H0 (wg ++ wr) H locs) : VW D A H0 (wc ++ (we ++ wr)) H locs := by
  rw [← List.append_assoc]
  exact hV.perm ((pm_idx is hn hp h).append_right _)
theorem fr_glue {wg : va_W} (is : List Nat) {n : Nat} (hn : (wc ++ we).length = n) (hp : is.Perm (List.range n)) (h : is.map (fun i => (wc ++ we)[i]?) = wg.map some) (hV : VW D A H0 (wc ++ (we ++ wr)) H locs) : VW D A H0 (wg ++ wr) H locs := by
  rw [← List.append_assoc] at hV
  exact hV.perm ((pm_idx is hn hp h).append_right _)
theorem va_P.left {ws1 ws2 : va_W} (h : va_P D classes (ws1 ++ ws2) H) : va_P D classes ws1 H := by
  intro k q hk
  have hl : k < ws1.length := (List.getElem?_eq_some_iff.mp hk).1
  exact h k q (by rw [List.getElem?_append_left hl]; exact hk)
theorem fr_preA (hK : KN D cs s) (hV : VW D A H0 (wc ++ wr) H locs) {av : List Value} : ∀ U : State, U.heap = H → s.WarmedH U.vm → va_Pc av (PR D cs wc H.size) av.toArray U := by
  intro U hU hW
  refine ⟨rfl, by rw [hU], by rw [hU]; exact hV.1.left, hK.warm hW, ?_⟩
  obtain ⟨h1, h2⟩ := vd_iff.mp hV.2.1
  rw [List.map_append] at h1
  exact vd_iff.mpr ⟨(List.nodup_append.mp h1).1, fun _ _ => trivial⟩
theorem fr_freeA (hV : VW D A H0 (wc ++ wr) H locs) (hA : ∀ q, H0.size ≤ q → A q) : ∀ q, va_A wc H.size q → A q := by
  intro q h
  rcases h with ⟨k, e, h⟩ | h
  · have hl : k < wc.length := (List.getElem?_eq_some_iff.mp h).1
    exact hV.2.1.2 k (q, e) (by rw [List.getElem?_append_left hl]; exact h)
  · exact hA q (Nat.le_trans hV.2.2.1 h)
theorem fr_joinA (hV : VW D A H0 (wc ++ wr) H locs) (hA : ∀ q, H0.size ≤ q → A q) : ∀ (H1 : Heap) (locs1 : List Loc), (∀ q : Nat, q < H.size → ¬ va_A wc H.size q → H1[q]? = H[q]?) → va_P D classes w1 H1 → va_D (va_A wc H.size) w1 → va_S A H0 H1 locs1 → VW D A H0 (w1 ++ wr) H1 locs1 := by
  intro H1 locs1 hk hP1 hD1 hS1
  obtain ⟨h1, h2⟩ := vd_iff.mp hV.2.1
  have apart : ∀ q ∈ wr, q.1 < H.size ∧ ¬ va_A wc H.size q.1 := by
    intro q hq
    obtain ⟨i, hi⟩ := List.getElem?_of_mem hq
    have hi2 : (wc ++ wr)[wc.length + i]? = some q := by
      rw [List.getElem?_append_right (by omega), Nat.add_sub_cancel_left]; exact hi
    have hl := (hV.1 _ q hi2).lt
    refine ⟨hl, fun h => ?_⟩
    rcases h with ⟨k, e, h⟩ | h
    · have hkl : k < wc.length := (List.getElem?_eq_some_iff.mp h).1
      have h4 : (wc ++ wr)[k]? = some (q.1, e) := by rw [List.getElem?_append_left hkl]; exact h
      have := hV.2.1.1 _ _ _ _ hi2 h4 rfl
      omega
    · omega
  refine ⟨?_, ?_, hS1⟩
  · intro k q hq
    by_cases hkl : k < w1.length
    · rw [List.getElem?_append_left hkl] at hq
      exact hP1 k q hq
    · rw [List.getElem?_append_right (by omega)] at hq
      obtain ⟨g1, g2⟩ := apart q (List.mem_of_getElem? hq)
      have hi2 : (wc ++ wr)[wc.length + (k - w1.length)]? = some q := by
        rw [List.getElem?_append_right (by omega), Nat.add_sub_cancel_left]; exact hq
      exact (hV.1 _ q hi2).kept (hk q.1 g1 g2)
  · obtain ⟨d1, d2⟩ := vd_iff.mp hD1
    rw [List.map_append] at h1
    refine vd_iff.mpr ⟨?_, fun q hq => ?_⟩
    · rw [List.map_append]
      refine List.nodup_append.mpr ⟨d1, (List.nodup_append.mp h1).2.1, fun a ha b hb e => ?_⟩
      obtain ⟨x, hx, rfl⟩ := List.mem_map.mp ha
      obtain ⟨y, hy, rfl⟩ := List.mem_map.mp hb
      exact (apart y hy).2 (by rw [← e]; exact d2 x hx)
    · rcases List.mem_append.mp hq with h | h
      · exact fr_freeA hV hA q.1 (d2 q h)
      · exact h2 q (List.mem_append_right _ h)
end FRAMES
section FRAMES2
variable {H : Heap} {locs : List Loc} {D : va_G} {A : Nat → Prop} {L G M : List va_W} {H0 : Heap}
theorem fr_splitN (is : List Nat) {n : Nat} (hn : L.length = n) (hp : is.Perm (List.range n)) (h : is.map (fun i => L[i]?) = (G ++ M).map some) (hV : VW D A H0 (jn L) H locs) : VW D A H0 (jn G ++ jn M) H locs := by
  rw [← jn_app]
  exact hV.perm (jn_perm (pm_idx is hn hp h))
theorem fr_backN (is : List Nat) {n : Nat} (hn : (G ++ M).length = n) (hp : is.Perm (List.range n)) (h : is.map (fun i => (G ++ M)[i]?) = L.map some) (hV : VW D A H0 (jn G ++ jn M) H locs) : VW D A H0 (jn L) H locs := by
  rw [← jn_app] at hV
  exact hV.perm (jn_perm (pm_idx is hn hp h))
end FRAMES2
