/-! the recipe as it is kept -/
section STRAIGHT
variable {n : Nat} {yc y1 y2 yo op a b : Nat → Int32}
theorem P_of (hn : n ≤ 120) (h : ∀ i, i < n → GIt 0 n i yc y1 y2 yo op a b) : ∃ P : PG, PWf n P ∧ ∀ i, i < n → op i = nI (P i).1 ∧ a i = nI (P i).2.1 ∧ b i = nI (P i).2.2 ∧ yc i = nI (xop (P i).1) ∧ ((P i).1 ≤ 4 → y1 i = nI (P i).2.1) ∧ ((P i).1 ≤ 3 → y2 i = nI (P i).2.2) ∧ ((P i).1 = 4 ∨ (P i).1 = 5 → yo i = nI (P i).2.2) ∧ (P i).2.2 ≤ 120 := by
  have hex : ∀ i : Nat, ∃ q : Nat × Nat × Nat, i < n → op i = nI q.1 ∧ a i = nI q.2.1 ∧ b i = nI q.2.2 ∧ yc i = nI (xop q.1) ∧ q.1 ≤ 6 ∧ q.2.2 ≤ 120 ∧ (q.1 ≤ 4 → q.2.1 < 6 ∧ y1 i = nI q.2.1) ∧ (q.1 ≤ 3 → q.2.2 < 6 ∧ y2 i = nI q.2.2) ∧ (q.1 = 4 → q.2.2 ≤ n ∧ yo i = nI q.2.2) ∧ (q.1 = 5 → yo i = nI q.2.2 ∧ ((0 ≤ q.2.2 ∧ q.2.2 < n ∧ op q.2.2 = nI 4) ∨ (i < q.2.2 ∧ q.2.2 ≤ n))) := by
    intro i
    by_cases hi : i < n
    · obtain ⟨o, x, y, hh⟩ := h i hi
      exact ⟨(o, x, y), fun _ => hh⟩
    · exact ⟨(0, 0, 0), fun z => absurd z hi⟩
  obtain ⟨P, hP⟩ := Classical.axiomOfChoice hex
  refine ⟨P, fun i hi => ?_, fun i hi => ?_⟩
  · obtain ⟨q1, q2, q3, q4, q5, q6, q7, q8, q9, q10⟩ := hP i hi
    refine ⟨q5, fun h => (q7 h).1, fun h => (q8 h).1, fun h => (q9 h).1, fun h => ?_⟩
    rcases (q10 h).2 with ⟨z1, z2, z3⟩ | z
    · left
      obtain ⟨r1, -, -, -, r5, -⟩ := hP _ z2
      refine ⟨z2, ?_⟩
      rw [r1] at z3
      exact (nI_eq (by omega) (by omega)).mp z3
    · exact Or.inr z
  · obtain ⟨q1, q2, q3, q4, q5, q6, q7, q8, q9, q10⟩ := hP i hi
    exact ⟨q1, q2, q3, q4, fun h => (q7 h).2, fun h => (q8 h).2, fun h => h.elim (fun h => (q9 h).2) (fun h => (q10 h).1), q6⟩
theorem xop6 {o : Nat} (ho : o ≤ 6) : nI (xop o) = 6 ↔ o = 5 := by
  constructor
  · intro h
    have hx : xop o ≤ 6 := by unfold xop; (repeat' split) <;> omega
    have := (nI_eq (b := 6) (by omega) (by omega)).mp h
    unfold xop at this
    by_cases h5 : o = 5
    · exact h5
    · rw [if_neg h5] at this
      by_cases h6 : o = 6
      · rw [if_pos h6] at this; omega
      · rw [if_neg h6] at this; omega
  · intro h; subst h; rfl
theorem xop4 {o : Nat} (ho : o ≤ 6) : nI (xop o) = 4 ↔ o = 4 := by
  constructor
  · intro h
    have hx : xop o ≤ 6 := by unfold xop; (repeat' split) <;> omega
    have := (nI_eq (b := 4) (by omega) (by omega)).mp h
    unfold xop at this
    by_cases h5 : o = 5
    · rw [if_pos h5] at this; omega
    · rw [if_neg h5] at this
      by_cases h6 : o = 6
      · rw [if_pos h6] at this; omega
      · rw [if_neg h6] at this; exact this
  · intro h; subst h; rfl
theorem x_behind (hn : n ≤ 120) {P : PG} (hw : PWf n P) (hc : ∀ i, i < n → yc i = nI (xop (P i).1)) (ho : ∀ i, i < n → (P i).1 = 5 → yo i = nI (P i).2.2) : ∀ (fu k i : Nat), k ≤ n → n - k < fu → i ≤ n → g_X4_behindJumps_4 fu (nI i) (nI k) yc yo (nI n) = some (nI (chf n P (n - k) i)) := by
  intro fu
  induction fu with
  | zero => intro k i h1 h2; omega
  | succ fu ih =>
    intro k i h1 h2 h3
    simp only [g_X4_behindJumps_4]
    rw [ite_le (by omega) (by omega)]
    by_cases hk : n ≤ k
    · rw [if_pos hk, show n - k = 0 by omega]; rfl
    · rw [if_neg hk, ite_le (by omega) (by omega)]
      by_cases hi : n ≤ i
      · rw [if_pos hi, chf_stop (fun z => by omega)]
      · have h6 := (hw i (by omega)).1
        rw [if_neg hi, if_pos (vin_nI (by omega) (by omega)), nc i (by omega), hc i (by omega), nI_s]
        by_cases h5 : (P i).1 = 5
        · rw [if_pos ((xop6 h6).mpr h5), ho i (by omega) h5]
          have e : chf n P (n - k) i = chf n P (n - (k + 1)) (P i).2.2 := by
            rw [show n - k = (n - (k + 1)) + 1 by omega]
            exact if_pos ⟨by omega, h5⟩
          rw [e]
          have hle : (P i).2.2 ≤ n := by
            rcases (hw i (by omega)).2.2.2.2 h5 with z | z <;> omega
          exact ih (k + 1) _ (by omega) (by omega) hle
        · rw [if_neg (fun z => h5 ((xop6 h6).mp z)), chf_stop (fun z => h5 z.2)]
theorem x_behindF (hn : n ≤ 120) {P : PG} (hw : PWf n P) (hc : ∀ i, i < n → yc i = nI (xop (P i).1)) (ho : ∀ i, i < n → (P i).1 = 5 → yo i = nI (P i).2.2) {i : Nat} (hi : i ≤ n) : f_X4_behindJumps (nI i) yc yo (nI n) = some (nI (chf n P n i)) := x_behind hn hw hc ho FU 0 i (Nat.zero_le _) (by unfold FU; omega) hi
theorem x_str31 (hn : n ≤ 120) {P : PG} (hw : PWf n P) (hc : ∀ i, i < n → yc i = nI (xop (P i).1)) (y3 : Nat → Int32) : ∀ (fu i : Nat) (yo : Nat → Int32), i ≤ n → n - i < fu → (∀ j, j < n → (P j).1 = 5 → yo j = nI (P j).2.2) → (∀ j, i ≤ j → j < n → (P j).1 = 4 → yo j = nI (P j).2.2) → (∀ j, j < i → (P j).1 = 4 → yo j = nI (chf n P n (P j).2.2)) → ∃ yo', g_X4_straighten_31 fu (nI i) yc y3 yo (nI n) = some (y3, yo') ∧ ∀ j, j < n → (P j).1 = 4 → yo' j = nI (chf n P n (P j).2.2) := by
  intro fu
  induction fu with
  | zero => intro i yo h1 h2; omega
  | succ fu ih =>
    intro i yo h1 h2 h5 h4 hd
    simp only [g_X4_straighten_31]
    rw [ite_le (by omega) (by omega)]
    by_cases hi : n ≤ i
    · rw [if_pos hi]; exact ⟨yo, rfl, fun j hj => hd j (by omega)⟩
    · have h6 := (hw i (by omega)).1
      rw [if_neg hi, if_pos (vin_nI (by omega) (by omega)), nc i (by omega), hc i (by omega), nI_s]
      by_cases hP : (P i).1 = 4
      · rw [if_pos ((xop4 h6).mpr hP), h4 i (Nat.le_refl _) (by omega) hP, x_behindF hn hw hc h5 ((hw i (by omega)).2.2.2.1 hP), Option.bind_some]
        refine ih (i + 1) _ (by omega) (by omega) (fun j hj hj5 => ?_) (fun j hj1 hj2 hj4 => ?_) (fun j hj hj4 => ?_)
        · rw [upd_ne (fun z => by rw [z] at hj5; omega)]; exact h5 j hj hj5
        · rw [upd_ne (by omega)]; exact h4 j (by omega) hj2 hj4
        · by_cases hji : j = i
          · subst hji; rw [upd_same]
          · rw [upd_ne hji]; exact hd j (by omega) hj4
      · rw [if_neg (fun z => hP ((xop4 h6).mp z))]
        refine ih (i + 1) yo (by omega) (by omega) h5 (fun j hj1 hj2 hj4 => h4 j (by omega) hj2 hj4) (fun j hj hj4 => ?_)
        by_cases hji : j = i
        · subst hji; exact absurd hj4 hP
        · exact hd j (by omega) hj4
theorem x_str2 (hn : n ≤ 120) {P : PG} (hw : PWf n P) (hc : ∀ i, i < n → yc i = nI (xop (P i).1)) (h5 : ∀ j, j < n → (P j).1 = 5 → yo j = nI (P j).2.2) (h4 : ∀ j, j < n → (P j).1 = 4 → yo j = nI (P j).2.2) : ∀ (fu i : Nat) (y3 : Nat → Int32), i ≤ n → n - i < fu → (∀ j, j < i → y3 j = nI (chf n P n (j + 1))) → ∃ y3' yo', g_X4_straighten_2 fu (nI i) yc y3 yo (nI n) = some (y3', yo') ∧ (∀ j, j < n → y3' j = nI (chf n P n (j + 1))) ∧ ∀ j, j < n → (P j).1 = 4 → yo' j = nI (chf n P n (P j).2.2) := by
  intro fu
  induction fu with
  | zero => intro i y3 h1 h2; omega
  | succ fu ih =>
    intro i y3 h1 h2 hd
    simp only [g_X4_straighten_2]
    rw [ite_le (by omega) (by omega)]
    by_cases hi : n ≤ i
    · rw [if_pos hi]
      obtain ⟨yo', e1, e2⟩ := x_str31 hn hw hc y3 FU 0 yo (Nat.zero_le _) (by unfold FU; omega) h5 (fun j _ hj => h4 j hj) (fun j hj => absurd hj (by omega))
      exact ⟨y3, yo', e1, fun j hj => hd j (by omega), e2⟩
    · rw [if_neg hi, nI_p, x_behindF hn hw hc h5 (by omega), Option.bind_some, if_pos (vin_nI (by omega) (by omega)), nc i (by omega)]
      refine ih (i + 1) _ (by omega) (by omega) (fun j hj => ?_)
      by_cases hji : j = i
      · subst hji; rw [upd_same]
      · rw [upd_ne hji]; exact hd j (by omega)
end STRAIGHT
theorem m_copyR {w n : Nat} (hw3 : w < 3) (hn : n ≤ 120) {t op a b lo ai fk fa : Nat → Int32} {x8 x9 x10 x11 x32 x33 x34 : Int32} : ∀ (fu k : Nat) (y25 y26 y27 : Nat → Int32), k ≤ n → n - k < fu → ∃ y25' y26' y27', g_X12_recipe_66 fu (nI w) (nI k) t x8 x9 x10 x11 (nI n) op a b y25 y26 y27 lo ai fk fa x32 x33 x34 = some (x33, x8, x9, x10, x11, nI n, op, a, b, y25', y26', y27', lo, ai, fk, fa, x32, x33, x34) ∧ (∀ i, k ≤ i → i < n → y25' (160 * w + i) = op i ∧ y26' (160 * w + i) = a i ∧ y27' (160 * w + i) = b i) ∧ (∀ j, ¬ (160 * w + k ≤ j ∧ j < 160 * w + n) → y25' j = y25 j ∧ y26' j = y26 j ∧ y27' j = y27 j) := by
  intro fu
  induction fu with
  | zero => intro k y25 y26 y27 h1 h2; omega
  | succ fu ih =>
    intro k y25 y26 y27 h1 h2
    simp only [g_X12_recipe_66]
    rw [ite_le (by omega) (by omega)]
    by_cases hk : n ≤ k
    · rw [if_pos hk]
      exact ⟨y25, y26, y27, rfl, fun i h3 h4 => by omega, fun _ _ => ⟨rfl, rfl, rfl⟩⟩
    · have e : (160 : Int32) * nI w + nI k = nI (160 * w + k) := by rw [show (160 : Int32) = nI 160 from rfl, pk_mul, nI_add]
      rw [if_neg hk, if_pos (vin_nI (by omega) (by omega)), e, if_pos (vin_nI (by omega) (by omega)), nc k (by omega), nc _ (by omega), nI_s]
      obtain ⟨y25', y26', y27', q1, q2, q3⟩ := ih (k + 1) (upd y25 (160 * w + k) (op k)) (upd y26 (160 * w + k) (a k)) (upd y27 (160 * w + k) (b k)) (by omega) (by omega)
      refine ⟨y25', y26', y27', q1, fun i hi1 hi2 => ?_, fun j hj => ?_⟩
      · by_cases hik : i = k
        · subst hik
          obtain ⟨g1, g2, g3⟩ := q3 (160 * w + i) (by omega)
          rw [g1, g2, g3, upd_same, upd_same, upd_same]
          exact ⟨rfl, rfl, rfl⟩
        · exact q2 i (by omega) hi2
      · obtain ⟨g1, g2, g3⟩ := q3 j (by omega)
        rw [g1, g2, g3, upd_ne (by omega), upd_ne (by omega), upd_ne (by omega)]
        exact ⟨rfl, rfl, rfl⟩
theorem RR_keep {w w' n : Nat} (hw : w < 3) (hw' : w' < 3) (hne : w' ≠ w) (hn : n ≤ 120) {c f s nx ot op a b lo ai op' a' b' : Nat → Int32} {sz ac v1 v2 : Int32} (h : RR w' c f s nx ot sz ac op a b lo ai) (hk : ∀ j, ¬ (160 * w + 0 ≤ j ∧ j < 160 * w + n) → op' j = op j ∧ a' j = a j ∧ b' j = b j) : RR w' c f s nx ot sz ac op' a' b' (upd lo w v1) (upd ai w v2) := by
  obtain ⟨m, P, q1, q2, q3, q4, q5, q6, q7, q8⟩ := h
  refine ⟨m, P, q1, q2, ?_, ?_, q5, q6, q7, fun i hi => ?_⟩
  · rw [upd_ne hne]; exact q3
  · rw [upd_ne hne]; exact q4
  · obtain ⟨g1, g2, g3⟩ := hk (160 * w' + i) (by omega)
    rw [g1, g2, g3]
    exact q8 i hi
/-- both readers of a recipe -/
theorem read_both {t z0 z1 z2 z3 z4 y22 y23 y24 y30 y31 : Nat → Int32} {x5 x6 x12 x13 x14 x11 x32 x33 x34 : Int32} {N : Nat} (hN : N ≤ 120) :
    (∃ u w, f_X4_read (nI N) z0 z1 z2 z3 z4 x5 x6 t x12 x13 x14 = some u ∧ u.1 = 0 ∧ f_X12_readsRecipe t 0 (nI N) x11 0 y22 y23 y24 y30 y31 x32 x33 x34 = some w ∧ w.1 = 0 ∧ u.2.2.2.2.2.2.2.2.2.2 = w.2.2.1) ∨
    (∃ (n : Nat) (P : PG) (u : Int32 × (Nat → Int32) × (Nat → Int32) × (Nat → Int32) × (Nat → Int32) × (Nat → Int32) × Int32 × Int32 × Int32 × Int32 × Int32) (w : Int32 × Int32 × Int32 × Int32 × (Nat → Int32) × (Nat → Int32) × (Nat → Int32) × (Nat → Int32) × (Nat → Int32) × Int32 × Int32 × Int32), n ≤ 120 ∧ PWf n P ∧ stp0 n P ∧ f_X4_read (nI N) z0 z1 z2 z3 z4 x5 x6 t x12 x13 x14 = some u ∧ u.1 = 1 ∧ f_X12_readsRecipe t 0 (nI N) x11 0 y22 y23 y24 y30 y31 x32 x33 x34 = some w ∧ w.1 = 1 ∧ RX n P u.2.1 u.2.2.1 u.2.2.2.1 u.2.2.2.2.1 u.2.2.2.2.2.1 ∧ u.2.2.2.2.2.2.1 = nI n ∧ w.2.2.2.1 = nI n ∧ u.2.2.2.2.2.2.2.1 = w.2.2.2.2.2.2.2.2.2.2.1 ∧ ∀ i, i < n → w.2.2.2.2.1 i = nI (P i).1 ∧ w.2.2.2.2.2.1 i = nI (P i).2.1 ∧ w.2.2.2.2.2.2.1 i = nI (P i).2.2) := by
  have hCA := acts_CA (t := t) hN DP 0 (by omega) (by unfold DP; omega) FU 999999 0 0 z0 z1 z2 z4 y22 y23 y24 y30 y31 0 0 x11 x34 (Nat.le_refl _) (Nat.zero_le _) (by unfold FU; omega) (by omega)
  have eM : f_X12_readsRecipe t 0 (nI N) x11 0 y22 y23 y24 y30 y31 x32 x33 x34 = MA FU 999999 t (nI 0) (nI N) x11 (nI 0) y22 y23 y24 y30 y31 (nI 0) 0 x34 := MA_10 999999 t 0 (nI N) x11 0 y22 y23 y24 y30 y31 0 0 x34
  rw [eM]
  unfold f_X4_read g_X4_read_0
  have e0 : f_X9_open (nI N) x12 x13 x14 = some (0, nI N, 0) := rfl
  rw [e0, Option.bind_some]
  dsimp only
  rcases hCA with ⟨u, w, u1, u2, w1, w2, w3⟩ | ⟨c', p', n', m', yc', y1', y2', yo', op', a', b', fk', fa', ac', fx', fm', lt', q1, q2, q3, q4, q5, q6, q7, q8, q9, q10, q11, q12, q13⟩
  · left
    have u1' : f_X4_readActs DP 0 z0 z1 z2 z4 0 0 t 0 (nI N) 0 = some u := u1
    rw [u1', Option.bind_some, if_pos u2]
    exact ⟨_, w, rfl, rfl, w1, w2, w3⟩
  · have q1' : f_X4_readActs DP 0 z0 z1 z2 z4 0 0 t 0 (nI N) 0 = _ := q1
    rw [q1', Option.bind_some, if_neg (show ¬ (1 : Int32) = 0 by decide), q2]
    dsimp only
    unfold f_X9_isRead g_X9_isRead_0
    rw [ite_le (by omega) (by omega)]
    obtain ⟨n', rfl⟩ : ∃ k, n' = k + 1 := ⟨n' - 1, by omega⟩
    obtain ⟨m', rfl⟩ : ∃ k, m' = k + 1 := ⟨m' - 1, by omega⟩
    by_cases hpN : N ≤ p'
    · right
      have hpe : p' = N := by omega
      obtain ⟨P, P1, P2⟩ := P_of (n := c') (by omega) (fun i hi => q11 i (Nat.zero_le _) hi)
      obtain ⟨y3', yo'', s1, s2, s3⟩ := x_str2 (n := c') (by omega) P1 (fun i hi => (P2 i hi).2.2.2.1) (fun i hi h5 => (P2 i hi).2.2.2.2.2.2.1 (Or.inr h5)) (fun i hi h4 => (P2 i hi).2.2.2.2.2.2.1 (Or.inl h4)) FU 0 z3 (Nat.zero_le _) (by unfold FU; omega) (fun j hj => absurd hj (by omega))
      have s1' : f_X4_straighten yc' z3 yo' (nI c') = some (y3', yo'') := s1
      have hM : g_X12_readsRecipe_19 (g_X12_readsRecipe_10 (n' + 1)) (m' + 1) t (nI p') (nI N) fm' (nI c') op' a' b' fk' fa' (nI 0) ac' lt' = some (1, nI p', fm', nI c', op', a', b', fk', fa', nI 0, ac', lt') := by
        simp only [g_X12_readsRecipe_19]
        have hsg : sgn t N p' = -1 := if_pos hpN
        rw [m_sgn hN (by omega), Option.bind_some, if_neg (by rw [hsg]; decide)]
        unfold g_X12_readsRecipe_53
        rw [if_pos (show nI p' = nI N by rw [hpe]), if_pos (show nI 0 = 0 from rfl)]
      rw [if_pos hpN, Option.bind_some, if_neg (show ¬ (1 : Int32) = 0 by decide), s1', Option.bind_some, hM]
      refine ⟨c', P, _, _, by omega, P1, ?_, rfl, rfl, rfl, rfl, ?_, rfl, rfl, rfl, fun i hi => ⟨(P2 i hi).1, (P2 i hi).2.1, (P2 i hi).2.2.1⟩⟩
      · intro hst
        apply q12
        rw [(P2 0 hst.1).1, hst.2]
        rfl
      · intro i hi
        obtain ⟨g1, g2, g3, g4, g5, g6, g7, g8⟩ := P2 i hi
        exact ⟨g4, g5, g6, s2 i hi, s3 i hi⟩
    · left
      rw [if_neg hpN]
      have hRa := R19_on (t := t) (N := N) (p := p') (c := c') (fr := 0) (fl := fm') (ac := ac') (lt := lt') (op := op') (a := a') (b := b') (fk := fk') (fa := fa') hN q7 (by omega) n' m' (Or.inl (by omega)) (fun _ => ⟨by rw [if_pos rfl]; decide, by rw [if_pos rfl]; decide⟩) (fun _ => by rw [if_pos rfl]; decide)
      rw [hRa]
      obtain ⟨w, w1, w2, w3⟩ := MA_wrong (t := t) (N := N) (p := p') (c := c') (fr := 0) (fl := fm') (ac := ac') (lt := lt') (op := op') (a := a') (b := b') (fk := fk') (fa := fa') hN (by omega) q3 999999 n'
      have w1' : MA FU n' t (nI p') (nI N) fm' (nI c') op' a' b' fk' fa' (nI 0) ac' lt' = some w := w1
      refine ⟨_, w, rfl, rfl, w1', w2, ?_⟩
      rw [w3]
      rfl
theorem ok_recipe : Ok_recipe Rel := by
  intro h S T s1 s2 hR
  obtain ⟨⟨t1, t2, ⟨tn, tn1, tn2⟩, t4⟩, hv, ⟨r0, r1, r2⟩, hs, hp, hm, hb, hk⟩ := hR
  unfold f_X11_recipe g_X11_recipe_0 f_X12_recipe g_X12_recipe_0
  rw [x_isRecipe, m_in, Option.bind_some, Option.bind_some, t1, t2]
  by_cases h1 : (0 : Int32) ≤ s1 ∧ s1 ≤ 2
  · simp only [if_pos h1, if_neg (show ¬ (1 : Int32) = 0 by decide)]
    unfold f_X11_hasText g_X11_hasText_0 f_X12_isText g_X12_isText_0
    simp only [w_in, m_in, Option.bind_some]
    by_cases h2 : (1 : Int32) ≤ s2 ∧ s2 ≤ 120
    · simp only [if_pos h2, if_neg (show ¬ (1 : Int32) = 0 by decide)]
      by_cases h3 : T.1 8 < s2
      · simp only [if_pos h3, Option.bind_some, if_true]
        exact ⟨_, _, rfl, rfl, rfl, Or.inl ⟨rfl, rfl, rfl, rfl, ⟨t1, rfl, ⟨tn, tn1, tn2⟩, t4⟩, hv, ⟨r0, r1, r2⟩, hs, hp, hm, hb, hk⟩⟩
      · simp only [if_neg h3, Option.bind_some, if_neg (show ¬ (1 : Int32) = 0 by decide)]
        obtain ⟨w, hw, rfl⟩ := of_rng (x := s1) (n := 2) (by omega) h1.1 h1.2
        obtain ⟨N, hN, rfl⟩ := of_rng (x := s2) (n := 120) (by omega) (le_trans32 (by decide) h2.1) h2.2
        have hcl : f_X9_clear (T.1 8) = some 0 := rfl
        have hbe : f_X12_begins (nI N) (T.1 9) (T.1 10) (T.1 13) = some (0, nI N, 0) := rfl
        rw [hcl, hbe, Option.bind_some]
        rcases read_both (t := T.2.1 7) (z0 := (S 6).2 0) (z1 := (S 6).2 1) (z2 := (S 6).2 2) (z3 := (S 6).2 3) (z4 := (S 6).2 4) (y22 := T.2.1 22) (y23 := T.2.1 23) (y24 := T.2.1 24) (y30 := T.2.1 30) (y31 := T.2.1 31) (x5 := (S 6).1 5) (x6 := (S 6).1 6) (x12 := (S 1).1 2) (x13 := (S 1).1 3) (x14 := (S 1).1 4) (x11 := T.1 11) (x32 := T.1 32) (x33 := T.1 33) (x34 := T.1 34) hN with ⟨u, v, q1, q2, q3, q4, q5⟩ | ⟨n, P, u, v, q0, P1, P2, q1, q2, q3, q4, q5, q6, q7, q8, q9⟩
        · rw [q1, Option.bind_some, Option.bind_some, if_pos q2, q3, Option.bind_some, if_pos q4]
          exact ⟨_, _, rfl, rfl, q5, Or.inl ⟨rfl, rfl, rfl, rfl, ⟨t1, rfl, ⟨0, by omega, rfl⟩, t4⟩, hv, ⟨r0, r1, r2⟩, hs, hp, hm, hb, hk⟩⟩
        · rw [q1, Option.bind_some, Option.bind_some, if_neg (show ¬ u.1 = 0 by rw [q2]; decide), q3, Option.bind_some, if_neg (show ¬ v.1 = 0 by rw [q4]; decide), if_pos (vin_nI (show w < 3 by omega) (by omega)), nc w (by omega), q7]
          obtain ⟨y25', y26', y27', c1, c2, c3⟩ := m_copyR (w := w) (n := n) (show w < 3 by omega) q0 (t := T.2.1 7) (op := v.2.2.2.2.1) (a := v.2.2.2.2.2.1) (b := v.2.2.2.2.2.2.1) (lo := upd (T.2.1 28) w (nI n)) (ai := upd (T.2.1 29) w v.2.2.2.2.2.2.2.2.2.2.1) (fk := v.2.2.2.2.2.2.2.1) (fa := v.2.2.2.2.2.2.2.2.1) (x8 := 0) (x9 := v.2.1) (x10 := nI N) (x11 := v.2.2.1) (x32 := v.2.2.2.2.2.2.2.2.2.1) (x33 := v.2.2.2.2.2.2.2.2.2.2.1) (x34 := v.2.2.2.2.2.2.2.2.2.2.2) FU 0 (T.2.1 25) (T.2.1 26) (T.2.1 27) (Nat.zero_le _) (by unfold FU; omega)
          have c1' : g_X12_recipe_66 FU (nI w) 0 (T.2.1 7) 0 v.2.1 (nI N) v.2.2.1 (nI n) v.2.2.2.2.1 v.2.2.2.2.2.1 v.2.2.2.2.2.2.1 (T.2.1 25) (T.2.1 26) (T.2.1 27) (upd (T.2.1 28) w (nI n)) (upd (T.2.1 29) w v.2.2.2.2.2.2.2.2.2.2.1) v.2.2.2.2.2.2.2.1 v.2.2.2.2.2.2.2.2.1 v.2.2.2.2.2.2.2.2.2.1 v.2.2.2.2.2.2.2.2.2.2.1 v.2.2.2.2.2.2.2.2.2.2.2 = _ := c1
          rw [c1']
          have hnew : RR w u.2.1 u.2.2.1 u.2.2.2.1 u.2.2.2.2.1 u.2.2.2.2.2.1 u.2.2.2.2.2.2.1 u.2.2.2.2.2.2.2.1 y25' y26' y27' (upd (T.2.1 28) w (nI n)) (upd (T.2.1 29) w v.2.2.2.2.2.2.2.2.2.2.1) := by
            refine ⟨n, P, q0, q6, upd_same _ _ _, ?_, P1, P2, q5, fun i hi => ?_⟩
            · rw [upd_same]; exact q8
            · obtain ⟨g1, g2, g3⟩ := c2 i (Nat.zero_le _) hi
              obtain ⟨k1, k2, k3⟩ := q9 i hi
              rw [g1, g2, g3]
              exact ⟨k1, k2, k3⟩
          have htape : ((S 1).2 0 = T.2.1 7 ∧ (0 : Int32) = 0 ∧ (∃ k : Nat, k ≤ 160 ∧ (0 : Int32) = nI k) ∧ ∀ j, inR (-128) 127 (T.2.1 7 j)) := ⟨t1, rfl, ⟨0, by omega, rfl⟩, t4⟩
          rcases (show w = 0 ∨ w = 1 ∨ w = 2 by omega) with rfl | rfl | rfl
          · rw [if_pos (show nI 0 = 0 from rfl)]
            exact ⟨_, _, rfl, rfl, q8, Or.inr (Or.inl ⟨rfl, rfl, rfl, rfl, htape, hv, ⟨hnew, RR_keep (by omega) (by omega) (by omega) q0 r1 c3, RR_keep (by omega) (by omega) (by omega) q0 r2 c3⟩, hs, hp, hm, hb, hk⟩)⟩
          · rw [if_neg (show ¬ nI 1 = 0 by decide), if_pos (show nI 1 = 1 from rfl)]
            exact ⟨_, _, rfl, rfl, q8, Or.inr (Or.inr (Or.inl ⟨rfl, rfl, rfl, rfl, htape, hv, ⟨RR_keep (by omega) (by omega) (by omega) q0 r0 c3, hnew, RR_keep (by omega) (by omega) (by omega) q0 r2 c3⟩, hs, hp, hm, hb, hk⟩))⟩
          · rw [if_neg (show ¬ nI 2 = 0 by decide), if_neg (show ¬ nI 2 = 1 by decide), if_pos (show nI 2 = 2 from rfl)]
            exact ⟨_, _, rfl, rfl, q8, Or.inr (Or.inr (Or.inr ⟨rfl, rfl, rfl, rfl, htape, hv, ⟨RR_keep (by omega) (by omega) (by omega) q0 r0 c3, RR_keep (by omega) (by omega) (by omega) q0 r1 c3, hnew⟩, hs, hp, hm, hb, hk⟩))⟩
    · simp only [if_neg h2, if_true, Option.bind_some]
      exact ⟨_, _, rfl, rfl, rfl, Or.inl ⟨rfl, rfl, rfl, rfl, ⟨t1, rfl, ⟨tn, tn1, tn2⟩, t4⟩, hv, ⟨r0, r1, r2⟩, hs, hp, hm, hb, hk⟩⟩
  · simp only [if_neg h1, if_true]
    exact ⟨_, _, rfl, rfl, rfl, Or.inl ⟨rfl, rfl, rfl, rfl, ⟨t1, rfl, ⟨tn, tn1, tn2⟩, t4⟩, hv, ⟨r0, r1, r2⟩, hs, hp, hm, hb, hk⟩⟩
