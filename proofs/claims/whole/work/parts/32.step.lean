/-! one step -/
def stopd (n : Nat) (P : PG) (i : Nat) : Prop := ¬ (i < n ∧ (P i).1 = 5)
theorem chf_stop {n : Nat} {P : PG} {i : Nat} (h : stopd n P i) : ∀ k, chf n P k i = i
  | 0 => rfl
  | k + 1 => if_neg h
theorem chf_ok {n : Nat} {P : PG} (hw : PWf n P) : ∀ (k i : Nat), i ≤ n → n - i ≤ k → stopd n P (chf n P k i) ∧ chf n P k i ≤ n
  | 0, i, h1, h2 => ⟨fun h => by have : i < n := h.1; omega, h1⟩
  | k + 1, i, h1, h2 => by
    by_cases h : i < n ∧ (P i).1 = 5
    · have e : chf n P (k + 1) i = chf n P k (P i).2.2 := if_pos h
      rw [e]
      rcases (hw i h.1).2.2.2.2 h.2 with ⟨q1, q2⟩ | ⟨q1, q2⟩
      · have hs : stopd n P (P i).2.2 := fun x => by rw [q2] at x; exact absurd x.2 (by omega)
        rw [chf_stop hs]
        exact ⟨hs, by omega⟩
      · exact chf_ok hw k _ q2 (by omega)
    · have e : chf n P (k + 1) i = i := if_neg h
      rw [e]
      exact ⟨h, h1⟩
theorem m_goes {w n : Nat} (hw3 : w < 3) {P : PG} {op a b lo : Nat → Int32} (hn : n ≤ 120) (hlo : lo w = nI n) (hw : PWf n P) (hm : RMo w n P op a b) : ∀ (fu k i : Nat), k < fu → i ≤ n → n - i ≤ k → g_X12_goesOn_0 fu (nI w) op b lo (nI i) = some (nI (chf n P k i)) := by
  intro fu
  induction fu with
  | zero => intro k i h; omega
  | succ fu ih =>
    intro k i h1 h2 h3
    simp only [g_X12_goesOn_0]
    have e : (160 : Int32) * nI w + nI i = nI (160 * w + i) := by rw [show (160 : Int32) = nI 160 from rfl, pk_mul, nI_add]
    rw [if_pos (vin_nI hw3 (by omega)), nc w (by omega), hlo, ite_le (by omega) (by omega), e]
    by_cases hi : i < n
    · obtain ⟨m1, m2, m3⟩ := hm i hi
      have hop := (hw i hi).1
      rw [if_neg (by omega), if_pos (vin_nI (by omega) (by omega)), nc _ (by omega), m1, m3, show (5 : Int32) = nI 5 from rfl, ite_eq (by omega) (by omega)]
      by_cases h5 : (P i).1 = 5
      · rw [if_pos h5]
        cases k with
        | zero => omega
        | succ k =>
          have ec : chf n P (k + 1) i = chf n P k (P i).2.2 := if_pos ⟨hi, h5⟩
          rw [ec]
          rcases (hw i hi).2.2.2.2 h5 with ⟨q1, q2⟩ | ⟨q1, q2⟩
          · have hs : stopd n P (P i).2.2 := fun x => by rw [q2] at x; exact absurd x.2 (by omega)
            rw [chf_stop hs]
            have hf : 0 < fu := by omega
            obtain ⟨fu', rfl⟩ : ∃ fu', fu = fu' + 1 := ⟨fu - 1, by omega⟩
            simp only [g_X12_goesOn_0]
            have e2 : (160 : Int32) * nI w + nI (P i).2.2 = nI (160 * w + (P i).2.2) := by rw [show (160 : Int32) = nI 160 from rfl, pk_mul, nI_add]
            obtain ⟨t1, t2, t3⟩ := hm _ q1
            rw [if_pos (vin_nI hw3 (by omega)), nc w (by omega), hlo, ite_le (by omega) (by omega), e2, if_neg (by omega), if_pos (vin_nI (by omega) (by omega)), nc _ (by omega), t1, q2, if_neg (by decide)]
          · exact ih k _ (by omega) q2 (by omega)
      · rw [if_neg h5, chf_stop (fun x => h5 x.2)]
    · rw [if_pos (by omega), chf_stop (fun x => hi x.1)]
def aRep (B : Nat → Nat) (o x y : Nat) : Nat → PH → PH
  | 0, s => s
  | t + 1, s => aRep B o x y t (aAct B o x y s)
theorem aRep_ok {B : Nat → Nat} {o x y : Nat} (hx : x < 6) (hy : y < 6) : ∀ (t : Nat) (s : PH), PHb B s → PHb B (aRep B o x y t s) ∧ (aRep B o x y t s).2.1 ≤ s.2.1 + t ∧ (aRep B o x y t s).2.2.1 ≤ s.2.2.1 + t
  | 0, s, h => ⟨h, Nat.le_refl _, Nat.le_refl _⟩
  | t + 1, s, h => by
    obtain ⟨n1, n2, n3⟩ := aAct_n (B := B) h.2.2.2 o x y
    obtain ⟨q1, q2, q3⟩ := aRep_ok (o := o) hx hy t _ ⟨aAct_MB h.1 hx hy, Nat.zero_le _, Nat.zero_le _, n3⟩
    exact ⟨q1, by show (aRep B o x y t _).2.1 ≤ _; omega, by show (aRep B o x y t _).2.2.1 ≤ _; omega⟩
/-- measures, spilt, cloth, colour; steps, place, how it ended -/
abbrev AS : Type := PH × Nat × Nat × Nat
def kindsPH (K B : Nat → Nat) (s : PH) : PH := ((aKinds K B (s.1, s.2.1)).1, (aKinds K B (s.1, s.2.1)).2, s.2.2)
def aStep (n : Nat) (P : PG) (K B : Nat → Nat) (t : Nat) (s : AS) : AS :=
  if (P s.2.2.1).1 = 4 then (kindsPH K B s.1, s.2.1 + 1, (if K (P s.2.2.1).2.1 = 2 ∨ s.1.1 (P s.2.2.1).2.1 = 0 then chf n P n (P s.2.2.1).2.2 else chf n P n (s.2.2.1 + 1)), s.2.2.2)
  else if (P s.2.2.1).1 = 6 then (kindsPH K B s.1, s.2.1 + 1, n, 2)
  else (kindsPH K B (aRep B (P s.2.2.1).1 (P s.2.2.1).2.1 (P s.2.2.1).2.2 t s.1), s.2.1 + 1, chf n P n (s.2.2.1 + 1), s.2.2.2)
theorem kindsPH_ok {K B : Nat → Nat} {s : PH} (h : PHb B s) : PHb B (kindsPH K B s) ∧ (kindsPH K B s).2.1 ≤ s.2.1 + 6 ∧ (kindsPH K B s).2.2.1 = s.2.2.1 ∧ (kindsPH K B s).2.2.2 = s.2.2.2 ∧ s.2.1 ≤ (kindsPH K B s).2.1 := by
  obtain ⟨h1, h2, h3⟩ := aKinds_MB (K := K) (s := (s.1, s.2.1)) h.1
  exact ⟨⟨h1, Nat.zero_le _, Nat.zero_le _, h.2.2.2⟩, h2, rfl, rfl, h3⟩
section STEP
variable {n : Nat} {P : PG} {K B : Nat → Nat} {kf b : Nat → Int32} {rs : Int32}
theorem x_rep (hb : R6 b B) {o x y : Nat} (ho : o < 4) (hx : x < 6) (hy : y < 6) {c fi se nx ot : Nat → Int32} {sz : Int32} {i : Nat} (hi : i < 120) (hfi : fi i = nI x) (hse : se i = nI y) (st pl en : Int32) (t : Nat) (ht : t < 1000) : ∀ (fu d : Nat) (f : Nat → Int32) (s : PH), d ≤ t → d < fu → R6 f s.1 → PHb B s →
    ∃ f', R6 f' (aRep B o x y d s).1 ∧ g_X0_step_105 fu (nI t) (nI i) (nI o) (nI (t - d)) f (nI s.2.1) (nI s.2.2.1) (nI s.2.2.2) st pl en c fi se nx ot sz kf b rs = g_X0_step_135 f' (nI (aRep B o x y d s).2.1) (nI (aRep B o x y d s).2.2.1) (nI (aRep B o x y d s).2.2.2) st pl en c fi se nx ot sz kf b rs := by
  intro fu
  induction fu with
  | zero => intro d f s h1 h2; omega
  | succ fu ih =>
    intro d f s h1 h2 hf hs
    simp only [g_X0_step_105]
    rw [ite_le (by omega) (by omega)]
    cases d with
    | zero => rw [if_pos (by omega)]; exact ⟨f, hf, rfl⟩
    | succ d =>
      obtain ⟨f1, e1, r1⟩ := x_act hb hf hs ho hx hy
      obtain ⟨-, -, n3⟩ := aAct_n (B := B) hs.2.2.2 o x y
      rw [if_neg (by omega), if_pos (vin_nI hi (by omega)), nc i (by omega), hfi, hse, e1, Option.bind_some, nI_s, show t - (d + 1) + 1 = t - d by omega]
      exact ih d f1 _ (by omega) (by omega) r1 ⟨aAct_MB hs.1 hx hy, Nat.zero_le _, Nat.zero_le _, n3⟩
theorem x_135 (hk : R6 kf K) (hK : ∀ j, j < 6 → K j ≤ 3) (hb : R6 b B) (hrs : rs = 0 → ∀ j, j < 6 → ¬ K j = 1 ∧ ¬ K j = 3) {f : Nat → Int32} {s : PH} (hf : R6 f s.1) (hs : PHb B s) (st pl en sz : Int32) (c fi se nx ot : Nat → Int32) : ∃ f', g_X0_step_135 f (nI s.2.1) (nI s.2.2.1) (nI s.2.2.2) st pl en c fi se nx ot sz kf b rs = some (f', nI (kindsPH K B s).2.1, nI (kindsPH K B s).2.2.1, nI (kindsPH K B s).2.2.2, st, pl, en) ∧ R6 f' (kindsPH K B s).1 := by
  obtain ⟨f1, e1, r1⟩ := x_kinds hk hK hb hrs (s := (s.1, s.2.1)) hf hs.1
  refine ⟨f1, ?_, r1⟩
  unfold g_X0_step_135
  have e1' : f_X0_kindsWork f (nI s.2.1) kf b rs = _ := e1
  rw [e1', Option.bind_some]
  rfl
/-- the class's step -/
theorem x_step (hn : n ≤ 120) (hw : PWf n P) (hk : R6 kf K) (hK : ∀ j, j < 6 → K j ≤ 3) (hb : R6 b B) (hrs : rs = 0 → ∀ j, j < 6 → ¬ K j = 1 ∧ ¬ K j = 3) {c fi se nx ot : Nat → Int32} (hR : RX n P c fi se nx ot) {f : Nat → Int32} {s : AS} (hf : R6 f s.1.1) (hs : PHb B s.1) (hpl : s.2.2.1 < n) (hno : stopd n P s.2.2.1) (t : Nat) (ht : t < 1000) :
    ∃ f', f_X0_step (nI t) f (nI s.1.2.1) (nI s.1.2.2.1) (nI s.1.2.2.2) (nI s.2.1) (nI s.2.2.1) (nI s.2.2.2) c fi se nx ot (nI n) kf b rs = some (f', nI (aStep n P K B t s).1.2.1, nI (aStep n P K B t s).1.2.2.1, nI (aStep n P K B t s).1.2.2.2, nI (aStep n P K B t s).2.1, nI (aStep n P K B t s).2.2.1, nI (aStep n P K B t s).2.2.2) ∧ R6 f' (aStep n P K B t s).1.1 := by
  obtain ⟨ph, st, i, en⟩ := s
  replace hpl : i < n := hpl
  replace hno : stopd n P i := hno
  replace hf : R6 f ph.1 := hf
  replace hs : PHb B ph := hs
  obtain ⟨r1, r2, r3, r4, r5⟩ := hR i hpl
  obtain ⟨w1, w2, w3, w4, w5⟩ := hw i hpl
  have e1 : nI n - 1 = nI (n - 1) := nI_m (by omega)
  have hno5 : ¬ (P i).1 = 5 := fun h => hno ⟨hpl, h⟩
  unfold f_X0_step g_X0_step_0 aStep
  dsimp only
  rw [w_in, e1, if_pos ⟨by rw [i_le, nI_toInt (by omega)]; show (0 : Int) ≤ _; omega, by rw [nI_leI (by omega) (by omega)]; omega⟩, Option.bind_some, if_neg (by decide), if_pos (vin_nI (by omega) (by omega)), nc i (by omega), r1, nI_p, r4]
  by_cases h4 : (P i).1 = 4
  · have h2 := w2 (by omega)
    have hq := hs.1 _ h2
    have hkq := hK _ h2
    rw [h4, if_pos (by decide), if_pos rfl, r2 (by omega), r5 h4]
    have ef : f_X0_findsEmpty (nI (P i).2.1) f kf = some (if K (P i).2.1 = 2 ∨ ph.1 (P i).2.1 = 0 then 1 else 0) := by
      unfold f_X0_findsEmpty g_X0_findsEmpty_0
      rw [if_pos (vin_nI h2 (by omega)), nc _ (by omega), show (2 : Int32) = nI 2 from rfl, kK hk hK h2 (by omega), hf _ h2, show (0 : Int32) = nI 0 from rfl, ite_eq (by omega) (by omega)]
      by_cases k2 : K (P i).2.1 = 2
      · rw [if_pos k2, if_pos (Or.inl k2)]
      · rw [if_neg k2]
        by_cases m0 : ph.1 (P i).2.1 = 0
        · rw [if_pos m0, if_pos (Or.inr m0)]
        · rw [if_neg m0, if_neg (fun h => h.elim k2 m0)]
    rw [ef, Option.bind_some]
    by_cases he : K (P i).2.1 = 2 ∨ ph.1 (P i).2.1 = 0
    · simp only [if_pos he, if_neg (show ¬ (1 : Int32) = 0 by decide)]
      exact x_135 hk hK hb hrs hf hs _ _ _ _ _ _ _ _ _
    · simp only [if_neg he, if_true]
      exact x_135 hk hK hb hrs hf hs _ _ _ _ _ _ _ _ _
  · rw [if_neg (show ¬ (P i).1 = 4 from h4)]
    by_cases h6 : (P i).1 = 6
    · rw [if_pos h6, h6, if_neg (by decide), if_pos (by decide)]
      exact x_135 hk hK hb hrs hf hs _ _ _ _ _ _ _ _ _
    · have h3 : (P i).1 < 4 := by omega
      have exo : xop (P i).1 = (P i).1 := by unfold xop; rw [if_neg hno5, if_neg h6]
      rw [if_neg h6, exo, show (4 : Int32) = nI 4 from rfl, ite_eq (by omega) (by omega), if_neg h4, show (5 : Int32) = nI 5 from rfl, ite_eq (by omega) (by omega), if_neg hno5]
      obtain ⟨f1, q1, q2⟩ := x_rep (kf := kf) (rs := rs) (c := c) (nx := nx) (ot := ot) (sz := nI n) hb h3 (w2 (by omega)) (w3 (by omega)) (i := i) (by omega) (r2 (by omega)) (r3 (by omega)) (nI (st + 1)) (nI (chf n P n (i + 1))) (nI en) t ht FU t f ph (Nat.le_refl _) (by unfold FU; omega) hf hs
      rw [Nat.sub_self] at q2
      have q2' : g_X0_step_105 FU (nI t) (nI i) (nI (P i).1) 0 f (nI ph.2.1) (nI ph.2.2.1) (nI ph.2.2.2) (nI (st + 1)) (nI (chf n P n (i + 1))) (nI en) c fi se nx ot (nI n) kf b rs = _ := q2
      rw [q2']
      exact x_135 hk hK hb hrs q1 (aRep_ok (w2 (by omega)) (w3 (by omega)) t ph hs).1 _ _ _ _ _ _ _ _ _
end STEP
