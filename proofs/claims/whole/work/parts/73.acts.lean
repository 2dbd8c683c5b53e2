/-! the queue of both -/
abbrev QE : Type := (Nat → Nat) × Nat × Nat × Nat
def upQ (Q : Nat → QE) (k : Nat) (x : QE) : Nat → QE := fun j => if j = k then x else Q j
theorem upQ_same (Q : Nat → QE) (k : Nat) (x : QE) : upQ Q k x k = x := if_pos rfl
theorem upQ_ne {Q : Nat → QE} {k j : Nat} {x : QE} (h : j ≠ k) : upQ Q k x j = Q j := if_neg h
/-- standings that were come to, from where, by which act, how deep; the rows of both hold them -/
def JB (B : Nat → Nat) (c : Nat) (Q : Nat → QE) (fr qu row frow bya deep seen : Nat → Int32) : Prop :=
  (0 < c ∧ ∀ i, i < c → okM B (Q i).1) ∧
  (∀ i j, i < c → j < c → (Q i).1 = (Q j).1 → i = j) ∧
  (∀ i, i < c → qu i = nI (ixN B (Q i).1) ∧ row i = nI (imN B (Q i).1) ∧ deep i = nI (Q i).2.2.2) ∧
  (∀ m, okM B m → (∀ i, i < c → (Q i).1 ≠ m) → fr (ixN B m) = 0 ∧ ¬ seen (imN B m) = 1) ∧
  (∀ i, i < c → ¬ fr (ixN B (Q i).1) = 0 ∧ seen (imN B (Q i).1) = 1) ∧
  (∀ i, 0 < i → i < c → fr (ixN B (Q i).1) = nI (ixN B (Q (Q i).2.1).1 * 84 + (Q i).2.2.1 + 1) ∧ frow i = nI (Q i).2.1 ∧ bya i = nI (Q i).2.2.1 ∧ (Q i).2.1 < i ∧ (Q i).2.2.1 < 84 ∧ (Q i).2.2.2 = (Q (Q i).2.1).2.2.2 + 1) ∧
  (Q 0).2.2.2 = 0
section JBS
variable {B : Nat → Nat} {c : Nat} {Q : Nat → QE} {fr qu row frow bya deep seen : Nat → Int32}
theorem JB_len (h : JB B c Q fr qu row frow bya deep seen) : c ≤ prB (WB B) 6 :=
  pigeon _ c (fun i => imN B (Q i).1) (fun i hi => imN_lt (h.1.2 i hi).1) (fun i j hi hj e => h.2.1 i j hi hj (imN_inj (h.1.2 i hi) (h.1.2 j hj) e))
theorem JB_len1 (h : JB B c Q fr qu row frow bya deep seen) {m : Nat → Nat} (hm : okM B m) (hf : ∀ i, i < c → (Q i).1 ≠ m) : c + 1 ≤ prB (WB B) 6 := by
  refine pigeon _ (c + 1) (fun i => imN B (if i = c then m else (Q i).1)) (fun i hi => ?_) (fun i j hi hj e => ?_)
  · show imN B (if i = c then m else (Q i).1) < _
    by_cases hic : i = c
    · rw [if_pos hic]; exact imN_lt hm.1
    · rw [if_neg hic]; exact imN_lt (h.1.2 i (by omega)).1
  · have e : imN B (if i = c then m else (Q i).1) = imN B (if j = c then m else (Q j).1) := e
    by_cases hic : i = c
    · by_cases hjc : j = c
      · omega
      · rw [if_pos hic, if_neg hjc] at e
        exact absurd (imN_inj hm (h.1.2 j (by omega)) e).symm (hf j (by omega))
    · by_cases hjc : j = c
      · rw [if_neg hic, if_pos hjc] at e
        exact absurd (imN_inj (h.1.2 i (by omega)) hm e) (hf i (by omega))
      · rw [if_neg hic, if_neg hjc] at e
        exact h.2.1 i j (by omega) (by omega) (imN_inj (h.1.2 i (by omega)) (h.1.2 j (by omega)) e)
theorem JB_ins (hN : prB (WB B) 6 ≤ 20000) (h : JB B c Q fr qu row frow bya deep seen) {m : Nat → Nat} (hm : okM B m) (hf : ∀ i, i < c → (Q i).1 ≠ m) {q a : Nat} (hq : q < c) (ha : a < 84) : JB B (c + 1) (upQ Q c (m, q, a, (Q q).2.2.2 + 1)) (upd fr (ixN B m) (nI (ixN B (Q q).1 * 84 + a + 1))) (upd qu c (nI (ixN B m))) (upd row c (nI (imN B m))) (upd frow c (nI q)) (upd bya c (nI a)) (upd deep c (nI ((Q q).2.2.2 + 1))) (upd seen (imN B m) 1) := by
  obtain ⟨⟨j0, j1⟩, j2, j3, j4, j5, j6, j7⟩ := h
  have hixq := ixN_lt (j1 q hq).1
  refine ⟨⟨by omega, fun i hi => ?_⟩, fun i j hi hj e => ?_, fun i hi => ?_, fun m' hm' hf' => ?_, fun i hi => ?_, fun i hi0 hi => ?_, ?_⟩
  · by_cases hic : i = c
    · subst hic; rw [upQ_same]; exact hm
    · rw [upQ_ne hic]; exact j1 i (by omega)
  · by_cases hic : i = c
    · by_cases hjc : j = c
      · omega
      · subst hic
        rw [upQ_same, upQ_ne hjc] at e
        exact absurd e.symm (hf j (by omega))
    · by_cases hjc : j = c
      · subst hjc
        rw [upQ_same, upQ_ne hic] at e
        exact absurd e (hf i (by omega))
      · rw [upQ_ne hic, upQ_ne hjc] at e
        exact j2 i j (by omega) (by omega) e
  · by_cases hic : i = c
    · subst hic; rw [upQ_same, upd_same, upd_same, upd_same]; exact ⟨rfl, rfl, rfl⟩
    · rw [upQ_ne hic, upd_ne hic, upd_ne hic, upd_ne hic]; exact j3 i (by omega)
  · have h1 : m ≠ m' := by
      have := hf' c (by omega)
      rw [upQ_same] at this
      exact this
    have h2 := j4 m' hm' (fun i hi => by
      have := hf' i (by omega)
      rw [upQ_ne (by omega)] at this
      exact this)
    rw [upd_ne (fun e => h1 (ixN_inj hm' hm e).symm), upd_ne (fun e => h1 (imN_inj hm' hm e).symm)]
    exact h2
  · by_cases hic : i = c
    · subst hic
      rw [upQ_same, upd_same, upd_same]
      refine ⟨fun x => ?_, rfl⟩
      have := (nI_eq (b := 0) (by omega) (by omega)).mp x
      omega
    · rw [upQ_ne hic]
      have hne := hf i (by omega)
      rw [upd_ne (fun e => hne (ixN_inj (j1 i (by omega)) hm e)), upd_ne (fun e => hne (imN_inj (j1 i (by omega)) hm e))]
      exact j5 i (by omega)
  · by_cases hic : i = c
    · subst hic
      rw [upQ_same, upd_same, upd_same, upd_same]
      show nI _ = nI (ixN B (upQ Q i (m, q, a, (Q q).2.2.2 + 1) q).1 * 84 + a + 1) ∧ nI q = nI q ∧ nI a = nI a ∧ q < i ∧ a < 84 ∧ (Q q).2.2.2 + 1 = (upQ Q i (m, q, a, (Q q).2.2.2 + 1) q).2.2.2 + 1
      rw [upQ_ne (show q ≠ i by omega)]
      exact ⟨rfl, rfl, rfl, hq, ha, rfl⟩
    · obtain ⟨k1, k2, k3, k4, k5, k6⟩ := j6 i hi0 (by omega)
      have hne := hf i (by omega)
      rw [upQ_ne hic, upd_ne hic, upd_ne hic, upd_ne (fun e => hne (ixN_inj (j1 i (by omega)) hm e)), upQ_ne (show (Q i).2.1 ≠ c by omega)]
      exact ⟨k1, k2, k3, k4, k5, k6⟩
  · rw [upQ_ne (show 0 ≠ c by omega)]; exact j7
end JBS
/-- an idle act leaves the measures as they are -/
theorem x_idle {B : Nat → Nat} {b base : Nat → Int32} {m : Nat → Nat} {o x y : Nat} (hb : R6 b B) (hf : R6 base m) (hm : MB B m) (ho : o < 4) (hx : x < 6) (hy : y < 6) : ∃ t : Bool, f_X3_isIdle (nI o) (nI x) (nI y) base b = some (if t = true then 1 else 0) ∧ (t = true → (aAct B o x y (m, 0, 0, 0)).1 = m) := by
  have hq := hm x hx
  have hqy := hm y hy
  unfold f_X3_isIdle g_X3_isIdle_0
  have pour0 : ∀ k : Nat, min k (B y - m y) = 0 → updN (updN m x (m x - min k (B y - m y))) y (m y + min k (B y - m y)) = m := by
    intro k hk
    rw [hk]
    funext j
    by_cases hj : j = y
    · subst hj; rw [updN_same]; omega
    · rw [updN_ne hj]
      by_cases hj2 : j = x
      · subst hj2; rw [updN_same]; omega
      · rw [updN_ne hj2]
  rcases (show o = 0 ∨ o = 1 ∨ o = 2 ∨ o = 3 by omega) with rfl | rfl | rfl | rfl
  · rw [if_pos (show nI 0 = 0 from rfl), if_pos (vin_nI hx (by omega)), nc x (by omega), hb x hx, hf x hx, ite_lt (by omega) (by omega), aAct0]
    by_cases h : m x < B x
    · rw [if_pos h]; exact ⟨false, rfl, fun z => absurd z (by decide)⟩
    · rw [if_neg h, if_neg h]; exact ⟨true, rfl, fun _ => rfl⟩
  · rw [if_neg (show ¬ nI 1 = 0 by decide), if_pos (show nI 1 = 1 from rfl), if_pos (vin_nI hx (by omega)), nc x (by omega), hf x hx, aAct1]
    by_cases h : m x = 0
    · rw [if_pos (show nI (m x) = 0 by rw [h]; rfl), if_neg (show ¬ 0 < m x by omega)]; exact ⟨true, rfl, fun _ => rfl⟩
    · rw [if_neg (show ¬ nI (m x) = 0 from fun z => h ((nI_eq (b := 0) (by omega) (by omega)).mp z))]; exact ⟨false, rfl, fun z => absurd z (by decide)⟩
  · rw [if_neg (show ¬ nI 2 = 0 by decide), if_neg (show ¬ nI 2 = 1 by decide), ite_eq (by omega) (by omega), aAct2]
    by_cases h : x = y
    · rw [if_pos h, if_pos h]; exact ⟨true, rfl, fun _ => rfl⟩
    · rw [if_neg h, if_neg h, if_pos (vin_nI hx (by omega)), if_neg (show ¬ nI 2 = 3 by decide), nc x (by omega), hf x hx]
      unfold g_X3_isIdle_69
      rw [show (if nI (m x) < 1 then some 1 else (if vin (nI y) 6 = true then (if base (nI y).toNatClampNeg < b (nI y).toNatClampNeg then some 0 else some 1) else none)) = (if m x < 1 then some (1 : Int32) else (if vin (nI y) 6 = true then (if base (nI y).toNatClampNeg < b (nI y).toNatClampNeg then some 0 else some 1) else none)) from ite_lt (a := m x) (b := 1) (by omega) (by omega)]
      by_cases h1 : m x < 1
      · rw [if_pos h1]
        refine ⟨true, rfl, fun _ => pour0 (m x) (by omega)⟩
      · rw [if_neg h1, if_pos (vin_nI hy (by omega)), nc y (by omega), hf y hy, hb y hy, ite_lt (by omega) (by omega)]
        by_cases h2 : m y < B y
        · rw [if_pos h2]; exact ⟨false, rfl, fun z => absurd z (by decide)⟩
        · rw [if_neg h2]; exact ⟨true, rfl, fun _ => pour0 (m x) (by omega)⟩
  · rw [if_neg (show ¬ nI 3 = 0 by decide), if_neg (show ¬ nI 3 = 1 by decide), ite_eq (by omega) (by omega), aAct3]
    by_cases h : x = y
    · rw [if_pos h, if_pos h]; exact ⟨true, rfl, fun _ => rfl⟩
    · rw [if_neg h, if_neg h, if_pos (vin_nI hx (by omega)), if_pos (show nI 3 = 3 from rfl), nc x (by omega), hf x hx]
      unfold g_X3_isIdle_69
      rw [show (if nI (m x) < 2 then some 1 else (if vin (nI y) 6 = true then (if base (nI y).toNatClampNeg < b (nI y).toNatClampNeg then some 0 else some 1) else none)) = (if m x < 2 then some (1 : Int32) else (if vin (nI y) 6 = true then (if base (nI y).toNatClampNeg < b (nI y).toNatClampNeg then some 0 else some 1) else none)) from ite_lt (a := m x) (b := 2) (by omega) (by omega)]
      by_cases h1 : m x < 2
      · rw [if_pos h1]
        refine ⟨true, rfl, fun _ => pour0 (m x / 2) (by omega)⟩
      · rw [if_neg h1, if_pos (vin_nI hy (by omega)), nc y (by omega), hf y hy, hb y hy, ite_lt (by omega) (by omega)]
        by_cases h2 : m y < B y
        · rw [if_pos h2]; exact ⟨false, rfl, fun z => absurd z (by decide)⟩
        · rw [if_neg h2]; exact ⟨true, rfl, fun _ => pour0 (m x / 2) (by omega)⟩
section ACTSB
variable {K B : Nat → Nat} {kf b base y5 y6 y7 y8 : Nat → Int32} {rs : Int32} {tg : Nat → Nat} {q : Nat}
theorem acts_both (hk : R6 kf K) (hK : ∀ j, j < 6 → K j ≤ 3) (hb : R6 b B) (hB : ∀ j, j < 6 → B j ≤ 99) (hrs : rs = 0 → ∀ j, j < 6 → ¬ K j = 1 ∧ ¬ K j = 3) (hN : prB (WB B) 6 ≤ 20000) (h5 : R6 y5 (prB (WB B))) (hRP : RP y6 y7 y8) (htg : okM B tg) (kk : Int32 → Int32 → Int32 → (Nat → Int32) → (Nat → Int32) → (Nat → Int32) → Int32 → Int32 → Int32 → (Nat → Int32) → (Nat → Int32) → (Nat → Int32) → (Nat → Int32) → (Nat → Int32) → Option (Int32 × (Nat → Int32) × Int32 × Int32 × Int32 × (Nat → Int32) × (Nat → Int32) × (Nat → Int32) × (Nat → Int32) × (Nat → Int32))) :
    ∀ (k fuX fuM c : Nat) (Q : Nat → QE) (fr qu row frow bya deep seen : Nat → Int32) (idl : Bool) (now y36 : Nat → Int32) (x3 x4 x5 x39 x40 x41 : Int32), k ≤ 84 → k < fuX → k < fuM → JB B c Q fr qu row frow bya deep seen → (∀ i, i < c → (Q i).1 ≠ tg) → q < c → (idl = true → ∃ i, i < c ∧ (Q i).1 = knd K B (Q q).1) → R6 base (Q q).1 →
      ∃ (c' : Nat) (Q' : Nat → QE) (fr' qu' row' frow' bya' deep' seen' now' : Nat → Int32) (a3 a4 a5 : Int32) (y36' : Nat → Int32) (b1 b2 b3 : Int32), JB B c' Q' fr' qu' row' frow' bya' deep' seen' ∧ c ≤ c' ∧ (∀ i, i < c → Q' i = Q i) ∧ (∀ i, c ≤ i → i < c' → (Q' i).2.2.2 = (Q q).2.2.2 + 1) ∧ (((∀ i, i < c' → (Q' i).1 ≠ tg) ∧ g_X3_goFrom_10 fuX (nI (ixN B (Q q).1)) (nI (ixN B tg)) (if idl = true then 1 else 0) (nI (84 - k)) base y5 y6 y7 y8 fr qu (nI c) now x3 x4 x5 kf b rs = some (0, base, fr', qu', nI c', now', a3, a4, a5) ∧ g_X12_goesThrough_76 kk fuM (nI (imN B tg)) (nI c) (nI q) (nI (84 - k)) kf b y36 x39 x40 x41 row frow bya deep seen = kk (nI (imN B tg)) (nI c') (nI q + 1) kf b y36' b1 b2 b3 row' frow' bya' deep' seen') ∨ (c < c' ∧ (Q' (c' - 1)).1 = tg ∧ g_X3_goFrom_10 fuX (nI (ixN B (Q q).1)) (nI (ixN B tg)) (if idl = true then 1 else 0) (nI (84 - k)) base y5 y6 y7 y8 fr qu (nI c) now x3 x4 x5 kf b rs = some (1, base, fr', qu', nI c', now', a3, a4, a5) ∧ g_X12_goesThrough_76 kk fuM (nI (imN B tg)) (nI c) (nI q) (nI (84 - k)) kf b y36 x39 x40 x41 row frow bya deep seen = some (nI (c' - 1), y36', b1, b2, b3, row', frow', bya', deep', seen'))) := by
  intro k
  induction k with
  | zero =>
    intro fuX fuM c Q fr qu row frow bya deep seen idl now y36 x3 x4 x5 x39 x40 x41 h1 h2 h3 hJ hnt hq hid hbase
    obtain ⟨fuX, rfl⟩ : ∃ f, fuX = f + 1 := ⟨fuX - 1, by omega⟩
    obtain ⟨fuM, rfl⟩ : ∃ f, fuM = f + 1 := ⟨fuM - 1, by omega⟩
    refine ⟨c, Q, fr, qu, row, frow, bya, deep, seen, now, x3, x4, x5, y36, x39, x40, x41, hJ, Nat.le_refl _, fun _ _ => rfl, fun i hi1 hi2 => absurd hi2 (by omega), Or.inl ⟨hnt, ?_, ?_⟩⟩
    · simp only [g_X3_goFrom_10]
      rw [if_pos (show (84 : Int32) ≤ nI (84 - 0) by decide)]
    · simp only [g_X12_goesThrough_76]
      rw [if_pos (show (84 : Int32) ≤ nI (84 - 0) by decide)]
  | succ k ih =>
    intro fuX fuM c Q fr qu row frow bya deep seen idl now y36 x3 x4 x5 x39 x40 x41 h1 h2 h3 hJ hnt hq hid hbase
    obtain ⟨fuX, rfl⟩ : ∃ f, fuX = f + 1 := ⟨fuX - 1, by omega⟩
    obtain ⟨fuM, rfl⟩ : ∃ f, fuM = f + 1 := ⟨fuM - 1, by omega⟩
    have ha : 84 - (k + 1) < 84 := by omega
    have hokq := hJ.1.2 q hq
    have hlen := JB_len hJ
    obtain ⟨d1, d2, d3⟩ := d_lt ha
    obtain ⟨p1, p2, p3⟩ := hRP _ ha
    have p1' : y6 (84 - (k + 1)) = nI (dO (84 - (k + 1))) := by
      rw [p1]
      unfold dO
      (repeat' split) <;> rfl
    have p2' : y7 (84 - (k + 1)) = nI (dX (84 - (k + 1))) := p2
    have p3' : y8 (84 - (k + 1)) = nI (dY (84 - (k + 1))) := p3
    obtain ⟨t, e1, e2⟩ := x_idle hb hbase hokq.1 d1 d2 d3
    have hokm : okM B (nxM K B (84 - (k + 1)) (Q q).1) := nxM_ok ha hokq
    have hix := ixN_lt hokm.1
    have him := imN_lt hokm.1
    have hixq := ixN_lt hokq.1
    have e84 : nI (84 - (k + 1)) + 1 = nI (84 - k) := by rw [nI_s]; congr 1; omega
    -- the reference's way to the new standing
    obtain ⟨y1, s1, s2⟩ := m_standsAF hb hB hokq.1 hN y36
    obtain ⟨y2, sp', cl', co', s3, s4⟩ := m_acts (a := 84 - (k + 1)) hk hK hb s2 hokq ha x39 x40 x41
    have s5 := m_standOfF hb s4
    have eM : g_X12_goesThrough_76 kk (fuM + 1) (nI (imN B tg)) (nI c) (nI q) (nI (84 - (k + 1))) kf b y36 x39 x40 x41 row frow bya deep seen = (if seen (imN B (nxM K B (84 - (k + 1)) (Q q).1)) = 1 then g_X12_goesThrough_76 kk fuM (nI (imN B tg)) (nI c) (nI q) (nI (84 - k)) kf b y2 sp' cl' co' row frow bya deep seen else (if vin (nI c) 20000 = true then (if nI (imN B (nxM K B (84 - (k + 1)) (Q q).1)) = nI (imN B tg) then some (nI c, y2, sp', cl', co', (upd row c (nI (imN B (nxM K B (84 - (k + 1)) (Q q).1)))), (upd frow c (nI q)), (upd bya c (nI (84 - (k + 1)))), (upd deep c (nI ((Q q).2.2.2 + 1))), (upd seen (imN B (nxM K B (84 - (k + 1)) (Q q).1)) 1)) else g_X12_goesThrough_76 kk fuM (nI (imN B tg)) (nI (c + 1)) (nI q) (nI (84 - k)) kf b y2 sp' cl' co' (upd row c (nI (imN B (nxM K B (84 - (k + 1)) (Q q).1)))) (upd frow c (nI q)) (upd bya c (nI (84 - (k + 1)))) (upd deep c (nI ((Q q).2.2.2 + 1))) (upd seen (imN B (nxM K B (84 - (k + 1)) (Q q).1)) 1)) else none)) := by
      simp only [g_X12_goesThrough_76]
      rw [if_neg (show ¬ (84 : Int32) ≤ nI (84 - (k + 1)) from fun h => by have := (nI_leI (a := 84) (by omega) (by omega)).mp h; omega), if_pos (vin_nI (show q < 20000 by omega) (by omega)), nc q (by omega), (hJ.2.2.1 q hq).2.1, s1, Option.bind_some, s3, Option.bind_some, s5, Option.bind_some, if_pos (vin_nI (show imN B (nxM K B (84 - (k + 1)) (Q q).1) < 20000 by omega) (by omega)), nc (imN B (nxM K B (84 - (k + 1)) (Q q).1)) (by omega), e84, nc c (by omega), (hJ.2.2.1 q hq).2.2, nI_p, nI_p]
      rw [show nI (c + 1) - 1 = nI c from nI_m (by omega)]
    have hx146 : ∀ (fr1 qu1 now1 : Nat → Int32) (c1 z3 z4 z5 : Int32), g_X3_goFrom_146 (g_X3_goFrom_10 fuX) (nI (ixN B (Q q).1)) (nI (ixN B tg)) (if idl = true then 1 else 0) (nI (84 - (k + 1))) (if t = true then 1 else 0) base y5 y6 y7 y8 fr1 qu1 c1 now1 z3 z4 z5 kf b rs = g_X3_goFrom_10 fuX (nI (ixN B (Q q).1)) (nI (ixN B tg)) (if (idl || t) = true then 1 else 0) (nI (84 - k)) base y5 y6 y7 y8 fr1 qu1 c1 now1 z3 z4 z5 kf b rs := by
      intro fr1 qu1 now1 c1 z3 z4 z5
      unfold g_X3_goFrom_146
      rw [e84]
      cases idl <;> cases t <;> rfl
    -- the class's way
    obtain ⟨f1, sp1, cl1, co1, g1, g2⟩ := x_actJ hb (R6_cpI (g := now) hbase) hokq.1 d1 d2 d3 x3 x4 x5
    have hokact : MB B (aAct B (dO (84 - (k + 1))) (dX (84 - (k + 1))) (dY (84 - (k + 1))) ((Q q).1, 0, 0, 0)).1 := aAct_MB (s := ((Q q).1, 0, 0, 0)) hokq.1 d2 d3
    obtain ⟨f2, sp2, g3, g4⟩ := x_kindsJ hk hK hb hrs g2 hokact sp1
    have g5 : f_X3_indexOfx y5 f2 = some (nI (ixN B (nxM K B (84 - (k + 1)) (Q q).1))) := x_indexF (nxM K B (84 - (k + 1)) (Q q).1) h5 g4
    have evn : (nI (ixN B (Q q).1) * 84 + nI (84 - (k + 1))) + 1 = nI (ixN B (Q q).1 * 84 + (84 - (k + 1)) + 1) := by rw [show (84 : Int32) = nI 84 from rfl, pk_mul, nI_add, nI_p]
    have e53 : g_X3_goFrom_53 (g_X3_goFrom_10 fuX) (nI (ixN B (Q q).1)) (nI (ixN B tg)) (if idl = true then 1 else 0) (nI (84 - (k + 1))) (if t = true then 1 else 0) base y5 y6 y7 y8 fr qu (nI c) now x3 x4 x5 kf b rs = (f_X3_comeTo (nI (ixN B (nxM K B (84 - (k + 1)) (Q q).1))) (nI (ixN B (Q q).1 * 84 + (84 - (k + 1)) + 1)) fr qu (nI c)).bind (fun u6 => (if u6.1 = 0 then g_X3_goFrom_146 (g_X3_goFrom_10 fuX) (nI (ixN B (Q q).1)) (nI (ixN B tg)) (if idl = true then 1 else 0) (nI (84 - (k + 1))) (if t = true then 1 else 0) base y5 y6 y7 y8 u6.2.1 u6.2.2.1 u6.2.2.2 f2 sp2 cl1 co1 kf b rs else (if vin (u6.2.2.2 - 1) 20000 = true then (if (u6.2.2.1 (u6.2.2.2 - 1).toNatClampNeg) = nI (ixN B tg) then some (1, base, u6.2.1, u6.2.2.1, u6.2.2.2, f2, sp2, cl1, co1) else g_X3_goFrom_146 (g_X3_goFrom_10 fuX) (nI (ixN B (Q q).1)) (nI (ixN B tg)) (if idl = true then 1 else 0) (nI (84 - (k + 1))) (if t = true then 1 else 0) base y5 y6 y7 y8 u6.2.1 u6.2.2.1 u6.2.2.2 f2 sp2 cl1 co1 kf b rs) else none))) := by
      unfold g_X3_goFrom_53
      rw [x_copyM, Option.bind_some, if_pos (vin_nI ha (by omega)), nc _ (by omega), p1', p2', p3', g1, Option.bind_some]
      dsimp only
      rw [g3, Option.bind_some]
      dsimp only
      rw [g5, Option.bind_some, evn]
    have eX : g_X3_goFrom_10 (fuX + 1) (nI (ixN B (Q q).1)) (nI (ixN B tg)) (if idl = true then 1 else 0) (nI (84 - (k + 1))) base y5 y6 y7 y8 fr qu (nI c) now x3 x4 x5 kf b rs = (if t = true ∧ idl = true then g_X3_goFrom_10 fuX (nI (ixN B (Q q).1)) (nI (ixN B tg)) (if (idl || t) = true then 1 else 0) (nI (84 - k)) base y5 y6 y7 y8 fr qu (nI c) now x3 x4 x5 kf b rs else g_X3_goFrom_53 (g_X3_goFrom_10 fuX) (nI (ixN B (Q q).1)) (nI (ixN B tg)) (if idl = true then 1 else 0) (nI (84 - (k + 1))) (if t = true then 1 else 0) base y5 y6 y7 y8 fr qu (nI c) now x3 x4 x5 kf b rs) := by
      simp only [g_X3_goFrom_10]
      rw [if_neg (show ¬ (84 : Int32) ≤ nI (84 - (k + 1)) from fun h => by have := (nI_leI (a := 84) (by omega) (by omega)).mp h; omega), if_pos (vin_nI ha (by omega)), nc _ (by omega), p1', p2', p3', e1, Option.bind_some]
      cases ht : t with
      | false =>
        rw [if_pos (show (if false = true then (1 : Int32) else 0) = 0 from rfl), if_neg (show ¬ (false = true ∧ idl = true) from fun h => absurd h.1 (by decide))]
      | true =>
        rw [if_neg (show ¬ (if true = true then (1 : Int32) else 0) = 0 by decide)]
        cases hi : idl with
        | false =>
          rw [if_pos (show (if false = true then (1 : Int32) else 0) = 0 from rfl), if_neg (show ¬ (true = true ∧ false = true) from fun h => absurd h.2 (by decide))]
        | true =>
          rw [if_neg (show ¬ (if true = true then (1 : Int32) else 0) = 0 by decide), if_pos (show true = true ∧ true = true from ⟨rfl, rfl⟩)]
          have := hx146 fr qu now (nI c) x3 x4 x5
          rw [ht, hi] at this
          exact this
    have hidle : t = true → nxM K B (84 - (k + 1)) (Q q).1 = knd K B (Q q).1 := by
      intro h
      unfold nxM
      rw [e2 h]
    rw [eM, eX]
    by_cases hin : ∃ i, i < c ∧ (Q i).1 = nxM K B (84 - (k + 1)) (Q q).1
    · obtain ⟨i0, hi0, ei0⟩ := hin
      obtain ⟨w1, w2⟩ := hJ.2.2.2.2.1 i0 hi0
      rw [ei0] at w1 w2
      rw [if_pos w2]
      have hid' : (idl || t) = true → ∃ i, i < c ∧ (Q i).1 = knd K B (Q q).1 := by
        intro h
        cases ht : t with
        | true => exact ⟨i0, hi0, ei0.trans (hidle ht)⟩
        | false =>
          rw [ht, Bool.or_false] at h
          exact hid h
      by_cases hsk : t = true ∧ idl = true
      · rw [if_pos hsk]
        exact ih fuX fuM c Q fr qu row frow bya deep seen (idl || t) now y2 x3 x4 x5 sp' cl' co' (by omega) (by omega) (by omega) hJ hnt hq hid' hbase
      · rw [if_neg hsk, e53]
        have ec : f_X3_comeTo (nI (ixN B (nxM K B (84 - (k + 1)) (Q q).1))) (nI (ixN B (Q q).1 * 84 + (84 - (k + 1)) + 1)) fr qu (nI c) = some (0, fr, qu, nI c) := by
          unfold f_X3_comeTo g_X3_comeTo_0
          rw [w_nI (a := 0) (b := 19999) (aa := 0) (bb := 19999) (by omega) (by omega) (by omega) rfl rfl, if_pos (by omega), Option.bind_some, if_neg (by decide), if_pos (vin_nI (by omega) (by omega)), nc (ixN B (nxM K B (84 - (k + 1)) (Q q).1)) (by omega), if_neg w1]
        rw [ec, Option.bind_some, if_pos (show (0 : Int32) = 0 from rfl)]
        dsimp only
        rw [hx146]
        exact ih fuX fuM c Q fr qu row frow bya deep seen (idl || t) f2 y2 sp2 cl1 co1 sp' cl' co' (by omega) (by omega) (by omega) hJ hnt hq hid' hbase
    · have hfresh : ∀ i, i < c → (Q i).1 ≠ nxM K B (84 - (k + 1)) (Q q).1 := fun i hi e => hin ⟨i, hi, e⟩
      obtain ⟨w1, w2⟩ := hJ.2.2.2.1 _ hokm hfresh
      have hsk : ¬ (t = true ∧ idl = true) := fun h => by
        obtain ⟨i, hi, e⟩ := hid h.2
        exact hfresh i hi (e.trans (hidle h.1).symm)
      have hlen1 := JB_len1 hJ hokm hfresh
      have hJ' := JB_ins hN hJ hokm hfresh hq ha
      rw [if_neg w2, if_pos (vin_nI (show c < 20000 by omega) (by omega)), if_neg hsk, e53]
      have ec : f_X3_comeTo (nI (ixN B (nxM K B (84 - (k + 1)) (Q q).1))) (nI (ixN B (Q q).1 * 84 + (84 - (k + 1)) + 1)) fr qu (nI c) = some (1, upd fr (ixN B (nxM K B (84 - (k + 1)) (Q q).1)) (nI (ixN B (Q q).1 * 84 + (84 - (k + 1)) + 1)), upd qu c (nI (ixN B (nxM K B (84 - (k + 1)) (Q q).1))), nI (c + 1)) := by
        unfold f_X3_comeTo g_X3_comeTo_0
        rw [w_nI (a := 0) (b := 19999) (aa := 0) (bb := 19999) (by omega) (by omega) (by omega) rfl rfl, if_pos (by omega), Option.bind_some, if_neg (by decide), if_pos (vin_nI (by omega) (by omega)), nc (ixN B (nxM K B (84 - (k + 1)) (Q q).1)) (by omega), if_pos w1, if_pos (show nI c < 20000 from (nI_ltI (b := 20000) (by omega) (by omega)).mpr (by omega)), if_pos (vin_nI (by omega) (by omega)), nc c (by omega), nI_p]
      rw [ec, Option.bind_some, if_neg (show ¬ (1 : Int32) = 0 by decide)]
      dsimp only
      rw [show nI (c + 1) - 1 = nI c from nI_m (by omega), if_pos (vin_nI (show c < 20000 by omega) (by omega)), nc c (by omega)]
      have htix := ixN_lt htg.1
      have htim := imN_lt htg.1
      by_cases htgt : nxM K B (84 - (k + 1)) (Q q).1 = tg
      · rw [if_pos (show upd qu c (nI (ixN B (nxM K B (84 - (k + 1)) (Q q).1))) c = nI (ixN B tg) by rw [upd_same, htgt]), if_pos (show nI (imN B (nxM K B (84 - (k + 1)) (Q q).1)) = nI (imN B tg) by rw [htgt])]
        refine ⟨c + 1, _, _, _, _, _, _, _, _, f2, sp2, cl1, co1, y2, sp', cl', co', hJ', by omega, fun i hi => upQ_ne (by omega), fun i hi1 hi2 => ?_, Or.inr ⟨by omega, ?_, rfl, rfl⟩⟩
        · rw [show i = c by omega, upQ_same]
        · rw [show c + 1 - 1 = c by omega, upQ_same]; exact htgt
      · rw [if_neg (show ¬ upd qu c (nI (ixN B (nxM K B (84 - (k + 1)) (Q q).1))) c = nI (ixN B tg) from fun e => htgt (ixN_inj hokm htg ((nI_eq (by omega) (by omega)).mp (by rw [upd_same] at e; exact e)))), if_neg (show ¬ nI (imN B (nxM K B (84 - (k + 1)) (Q q).1)) = nI (imN B tg) from fun e => htgt (imN_inj hokm htg ((nI_eq (by omega) (by omega)).mp e)))]
        rw [hx146]
        have hqe : upQ Q c (nxM K B (84 - (k + 1)) (Q q).1, q, 84 - (k + 1), (Q q).2.2.2 + 1) q = Q q := upQ_ne (by omega)
        obtain ⟨c', Q', fr', qu', row', frow', bya', deep', seen', now', a3, a4, a5, y36', b1, b2, b3, z1, z2, z3, z4, z5⟩ := ih fuX fuM (c + 1) _ _ _ _ _ _ _ _ (idl || t) f2 y2 sp2 cl1 co1 sp' cl' co' (by omega) (by omega) (by omega) hJ' (fun i hi => by
          by_cases hic : i = c
          · subst hic; rw [upQ_same]; exact htgt
          · rw [upQ_ne hic]; exact hnt i (by omega)) (by omega) (fun h => by
          rw [hqe]
          cases ht : t with
          | true => exact ⟨c, by omega, by rw [upQ_same]; exact hidle ht⟩
          | false =>
            rw [ht, Bool.or_false] at h
            obtain ⟨i, hi, e⟩ := hid h
            exact ⟨i, by omega, by rw [upQ_ne (by omega)]; exact e⟩) (by rw [hqe]; exact hbase)
        rw [hqe] at z4 z5
        refine ⟨c', Q', fr', qu', row', frow', bya', deep', seen', now', a3, a4, a5, y36', b1, b2, b3, z1, by omega, fun i hi => (z3 i (by omega)).trans (upQ_ne (by omega)), fun i hi1 hi2 => ?_, ?_⟩
        · rcases Nat.lt_or_ge i (c + 1) with z | z
          · rw [z3 i z, show i = c by omega, upQ_same]
          · exact z4 i z hi2
        · rcases z5 with ⟨v1, v2, v3⟩ | ⟨v0, v1, v2, v3⟩
          · exact Or.inl ⟨v1, v2, v3⟩
          · exact Or.inr ⟨by omega, v1, v2, v3⟩
end ACTSB
