section MSTEP
variable {w n : Nat} {P : PG} {K B : Nat → Nat} {kf b : Nat → Int32} {op a bb lo : Nat → Int32}
theorem m_rep (hb : R6 b B) {o x y : Nat} (ho : o < 4) (hx : x < 6) (hy : y < 6) {q : Nat} (hq : q < 480) (ha : a q = nI x) (hbb : bb q = nI y) (pc st en : Int32) (t : Nat) (ht : t < 1000) : ∀ (fu d : Nat) (f : Nat → Int32) (s : PH), d ≤ t → d < fu → R6 f s.1 → PHb B s →
    ∃ f', R6 f' (aRep B o x y d s).1 ∧ g_X12_steps_105 fu (nI w) (nI t) (nI q) (nI o) (nI (t - d)) kf b op a bb lo f pc st (nI s.2.1) (nI s.2.2.1) (nI s.2.2.2) en = g_X12_steps_135 (nI w) kf b op a bb lo f' pc st (nI (aRep B o x y d s).2.1) (nI (aRep B o x y d s).2.2.1) (nI (aRep B o x y d s).2.2.2) en := by
  intro fu
  induction fu with
  | zero => intro d f s h1 h2; omega
  | succ fu ih =>
    intro d f s h1 h2 hf hs
    simp only [g_X12_steps_105]
    rw [ite_le (by omega) (by omega)]
    cases d with
    | zero => rw [if_pos (by omega)]; exact ⟨f, hf, rfl⟩
    | succ d =>
      obtain ⟨f1, e1, r1⟩ := m_act hb hf hs ho hx hy
      obtain ⟨-, -, n3⟩ := aAct_n (B := B) hs.2.2.2 o x y
      rw [if_neg (by omega), if_pos (vin_nI hq (by omega)), nc q (by omega), ha, hbb, e1, Option.bind_some, nI_s, show t - (d + 1) + 1 = t - d by omega]
      exact ih d f1 _ (by omega) (by omega) r1 ⟨aAct_MB hs.1 hx hy, Nat.zero_le _, Nat.zero_le _, n3⟩
theorem m_goesF (hw3 : w < 3) (hn : n ≤ 120) (hlo : lo w = nI n) (hw : PWf n P) (hm : RMo w n P op a bb) {i : Nat} (hi : i ≤ n) : f_X12_goesOn (nI w) op bb lo (nI i) = some (nI (chf n P n i)) :=
  m_goes hw3 hn hlo hw hm FU n i (by unfold FU; omega) hi (by omega)
theorem m_135 (hw3 : w < 3) (hn : n ≤ 120) (hlo : lo w = nI n) (hw : PWf n P) (hm : RMo w n P op a bb) (hk : R6 kf K) (hK : ∀ j, j < 6 → K j ≤ 3) (hb : R6 b B) {f : Nat → Int32} {s : PH} (hf : R6 f s.1) (hs : PHb B s) {i : Nat} (hi : i ≤ n) (st en : Int32) : ∃ f', g_X12_steps_135 (nI w) kf b op a bb lo f (nI i) st (nI s.2.1) (nI s.2.2.1) (nI s.2.2.2) en = some (f', nI (chf n P n i), st, nI (kindsPH K B s).2.1, nI (kindsPH K B s).2.2.1, nI (kindsPH K B s).2.2.2, en) ∧ R6 f' (kindsPH K B s).1 := by
  obtain ⟨f1, e1, r1⟩ := m_kinds hk hK hb (s := (s.1, s.2.1)) hf hs.1
  refine ⟨f1, ?_, r1⟩
  unfold g_X12_steps_135
  have e1' : f_X12_kindsWork kf b f (nI s.2.1) = _ := e1
  rw [e1', Option.bind_some, m_goesF hw3 hn hlo hw hm hi, Option.bind_some]
  rfl
/-- the reference's step -/
theorem m_step (hw3 : w < 3) (hn : n ≤ 120) (hlo : lo w = nI n) (hw : PWf n P) (hm : RMo w n P op a bb) (hk : R6 kf K) (hK : ∀ j, j < 6 → K j ≤ 3) (hb : R6 b B) {f : Nat → Int32} {s : AS} (hf : R6 f s.1.1) (hs : PHb B s.1) (hpl : s.2.2.1 < n) (hno : stopd n P s.2.2.1) (t : Nat) (ht : t < 1000) :
    ∃ f' p', f_X12_steps (nI w) (nI t) kf b op a bb lo f (nI s.2.2.1) (nI s.2.1) (nI s.1.2.1) (nI s.1.2.2.1) (nI s.1.2.2.2) (nI s.2.2.2) = some (f', nI p', nI (aStep n P K B t s).2.1, nI (aStep n P K B t s).1.2.1, nI (aStep n P K B t s).1.2.2.1, nI (aStep n P K B t s).1.2.2.2, nI (aStep n P K B t s).2.2.2) ∧ R6 f' (aStep n P K B t s).1.1 ∧ (¬ (P s.2.2.1).1 = 6 → p' = (aStep n P K B t s).2.2.1) ∧ p' ≤ n := by
  obtain ⟨ph, st, i, en⟩ := s
  replace hpl : i < n := hpl
  replace hno : stopd n P i := hno
  replace hf : R6 f ph.1 := hf
  replace hs : PHb B ph := hs
  obtain ⟨m1, m2, m3⟩ := hm i hpl
  obtain ⟨w1, w2, w3, w4, w5⟩ := hw i hpl
  have hno5 : ¬ (P i).1 = 5 := fun h => hno ⟨hpl, h⟩
  have e : (160 : Int32) * nI w + nI i = nI (160 * w + i) := by rw [show (160 : Int32) = nI 160 from rfl, pk_mul, nI_add]
  have hv := vin_nI (k := 160 * w + i) (n := 480) (by omega) (by omega)
  unfold f_X12_steps g_X12_steps_0 aStep
  dsimp only
  rw [e, if_pos hv, nc _ (by omega), m1, m2, nI_p, nI_p]
  by_cases h4 : (P i).1 = 4
  · have h2 := w2 (by omega)
    have hq := hs.1 _ h2
    have hkq := hK _ h2
    have hbn := w4 h4
    rw [h4, if_pos (show nI 4 = 4 from rfl), if_pos rfl, if_pos (vin_nI h2 (by omega)), nc _ (by omega), hf _ h2, show (0 : Int32) = nI 0 from rfl, ite_eq (by omega) (by omega), show (2 : Int32) = nI 2 from rfl, kK hk hK h2 (by omega)]
    have e74 : g_X12_steps_74 (nI w) (nI (160 * w + i)) kf b op a bb lo f (nI (i + 1)) (nI (st + 1)) (nI ph.2.1) (nI ph.2.2.1) (nI ph.2.2.2) (nI en) = g_X12_steps_135 (nI w) kf b op a bb lo f (nI (P i).2.2) (nI (st + 1)) (nI ph.2.1) (nI ph.2.2.1) (nI ph.2.2.2) (nI en) := by
      unfold g_X12_steps_74
      rw [if_pos hv, nc _ (by omega), m3]
    rw [e74]
    obtain ⟨f1, q1, q2⟩ := m_135 hw3 hn hlo hw hm hk hK hb hf hs hbn (nI (st + 1)) (nI en)
    obtain ⟨f2, p1, p2⟩ := m_135 hw3 hn hlo hw hm hk hK hb hf hs (show i + 1 ≤ n by omega) (nI (st + 1)) (nI en)
    have b1 := (chf_ok hw n _ hbn (by omega)).2
    have b2 := (chf_ok hw n (i + 1) (by omega) (by omega)).2
    by_cases m0 : ph.1 (P i).2.1 = 0
    · simp only [if_pos m0, if_pos (show K (P i).2.1 = 2 ∨ ph.1 (P i).2.1 = 0 from Or.inr m0)]
      exact ⟨f1, _, q1, q2, fun _ => rfl, b1⟩
    · by_cases k2 : K (P i).2.1 = 2
      · simp only [if_neg m0, if_pos k2, if_pos (show K (P i).2.1 = 2 ∨ ph.1 (P i).2.1 = 0 from Or.inl k2)]
        exact ⟨f1, _, q1, q2, fun _ => rfl, b1⟩
      · simp only [if_neg m0, if_neg k2, if_neg (show ¬ (K (P i).2.1 = 2 ∨ ph.1 (P i).2.1 = 0) from fun h => h.elim k2 m0)]
        exact ⟨f2, _, p1, p2, fun _ => rfl, b2⟩
  · rw [if_neg (show ¬ (P i).1 = 4 from h4), show (4 : Int32) = nI 4 from rfl, ite_eq (by omega) (by omega), if_neg h4, show (6 : Int32) = nI 6 from rfl, ite_eq (by omega) (by omega)]
    have b2 := (chf_ok hw n (i + 1) (by omega) (by omega)).2
    by_cases h6 : (P i).1 = 6
    · rw [if_pos h6, if_pos h6]
      obtain ⟨f2, p1, p2⟩ := m_135 hw3 hn hlo hw hm hk hK hb hf hs (show i + 1 ≤ n by omega) (nI (st + 1)) 2
      exact ⟨f2, _, p1, p2, fun h => absurd h6 h, b2⟩
    · have h3 : (P i).1 < 4 := by omega
      rw [if_neg h6, if_neg h6]
      obtain ⟨f1, q1, q2⟩ := m_rep (w := w) (kf := kf) (op := op) (lo := lo) hb h3 (w2 (by omega)) (w3 (by omega)) (q := 160 * w + i) (by omega) m2 m3 (nI (i + 1)) (nI (st + 1)) (nI en) t ht FU t f ph (Nat.le_refl _) (by unfold FU; omega) hf hs
      rw [Nat.sub_self] at q2
      have q2' : g_X12_steps_105 FU (nI w) (nI t) (nI (160 * w + i)) (nI (P i).1) 0 kf b op a bb lo f (nI (i + 1)) (nI (st + 1)) (nI ph.2.1) (nI ph.2.2.1) (nI ph.2.2.2) (nI en) = _ := q2
      rw [q2']
      obtain ⟨f2, p1, p2⟩ := m_135 hw3 hn hlo hw hm hk hK hb q1 (aRep_ok (w2 (by omega)) (w3 (by omega)) t ph hs).1 (show i + 1 ≤ n by omega) (nI (st + 1)) (nI en)
      exact ⟨f2, _, p1, p2, fun _ => rfl, b2⟩
end MSTEP
/-! what a step keeps -/
theorem aStep_ok {n : Nat} {P : PG} {K B : Nat → Nat} (hw : PWf n P) {s : AS} (hs : PHb B s.1) (hpl : s.2.2.1 < n) (hno : stopd n P s.2.2.1) (t : Nat) : PHb B (aStep n P K B t s).1 ∧ (aStep n P K B t s).2.1 = s.2.1 + 1 ∧ (aStep n P K B t s).2.2.1 ≤ n ∧ stopd n P (aStep n P K B t s).2.2.1 ∧ (aStep n P K B t s).1.2.1 ≤ s.1.2.1 + t + 6 ∧ (aStep n P K B t s).1.2.2.1 ≤ s.1.2.2.1 + t := by
  obtain ⟨ph, st, i, en⟩ := s
  replace hpl : i < n := hpl
  replace hs : PHb B ph := hs
  obtain ⟨w1, w2, w3, w4, w5⟩ := hw i hpl
  have c1 := chf_ok hw n (i + 1) (by omega) (by omega)
  unfold aStep
  dsimp only
  by_cases h4 : (P i).1 = 4
  · rw [if_pos h4]
    obtain ⟨k1, k2, k3, k4, k5⟩ := kindsPH_ok (K := K) hs
    have c2 := chf_ok hw n _ (w4 h4) (by omega)
    refine ⟨k1, rfl, ?_, ?_, by show (kindsPH K B ph).2.1 ≤ _; omega, by show (kindsPH K B ph).2.2.1 ≤ _; omega⟩
    · show (if _ then _ else _) ≤ n
      split
      · exact c2.2
      · exact c1.2
    · show stopd n P (if _ then _ else _)
      split
      · exact c2.1
      · exact c1.1
  · rw [if_neg h4]
    by_cases h6 : (P i).1 = 6
    · rw [if_pos h6]
      obtain ⟨k1, k2, k3, k4, k5⟩ := kindsPH_ok (K := K) hs
      exact ⟨k1, rfl, Nat.le_refl n, fun h => absurd h.1 (Nat.lt_irrefl n), by show (kindsPH K B ph).2.1 ≤ _; omega, by show (kindsPH K B ph).2.2.1 ≤ _; omega⟩
    · rw [if_neg h6]
      by_cases h5 : (P i).1 = 5
      · exact absurd ⟨hpl, h5⟩ hno
      · obtain ⟨q1, q2, q3⟩ := aRep_ok (o := (P i).1) (w2 (by omega)) (w3 (by omega)) t ph hs
        obtain ⟨k1, k2, k3, k4, k5⟩ := kindsPH_ok (K := K) q1
        exact ⟨k1, rfl, c1.2, c1.1, by show (kindsPH K B _).2.1 ≤ _; omega, by show (kindsPH K B _).2.2.1 ≤ _; omega⟩
