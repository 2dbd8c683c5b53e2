/-! tests of both -/
def CAt (t : Nat → Int32) (N fr : Nat) (K : Int32 → (Nat → Int32) → (Nat → Int32) → (Nat → Int32) → (Nat → Int32) → Int32 → Int32 → (Nat → Int32) → Int32 → Int32 → Int32 → Option (Int32 × (Nat → Int32) × (Nat → Int32) × (Nat → Int32) × (Nat → Int32) × Int32 × Int32 × Int32 × Int32)) : Prop := ∀ (f n c p : Nat) (yc y1 y2 yo op a b fk fa : Nat → Int32) (ac fx fl lt : Int32), c ≤ p → p ≤ N → N - p < f → N - p + 1 < n → RA (fun s => ¬ bg s) t N fr c p yc y1 y2 yo op a b fk fa (K (nI fr) yc y1 y2 yo (nI c) ac t (nI p) (nI N) fx) (MA f n t (nI p) (nI N) fl (nI c) op a b fk fa (nI fr) ac lt)
section TEST
variable {t : Nat → Int32} {N fr c p : Nat} {yc y1 y2 yo op a b fk fa : Nat → Int32} {ac fx fl lt : Int32}
theorem test_both (hN : N ≤ 120) (hfr : fr ≤ 6) (hc : c ≤ p) (hp : p < N) (k0 : (Nat → Int32) → Int32 → Int32 → Int32 → Int32 → (Nat → Int32) → (Nat → Int32) → (Nat → Int32) → (Nat → Int32) → (Nat → Int32) → Int32 → Int32 → Int32 → Option (Int32 × Int32 × Int32 × Int32 × (Nat → Int32) × (Nat → Int32) × (Nat → Int32) × (Nat → Int32) × (Nat → Int32) × Int32 × Int32 × Int32)) : (∃ z, (∃ u, f_X4_readTest (nI fr) yc y1 y2 (nI c) ac t (nI (p + 1)) (nI N) fx = some u ∧ u.1 = -1 ∧ u.2.2.2.2.2.2.2 = z) ∧ ∃ w, g_X12_readsAct_18 k0 t (nI p) (nI N) fl (nI c) op a b fk fa (nI fr) ac lt = some w ∧ w.1 = 0 ∧ w.2.2.1 = z) ∨ (∃ v, v < 6 ∧ p + 3 ≤ N ∧ fr < 6 ∧ f_X4_readTest (nI fr) yc y1 y2 (nI c) ac t (nI (p + 1)) (nI N) fx = some (nI c, upd yc c 4, upd y1 c (nI v), upd y2 c 0, nI (c + 1), ac + 1, nI (p + 3), fx) ∧ g_X12_readsAct_18 k0 t (nI p) (nI N) fl (nI c) op a b fk fa (nI fr) ac lt = k0 t (nI (p + 3)) (nI N) fl (nI (c + 1)) (upd op c 4) (upd a c (nI v)) (upd b c 0) (upd fk fr (sgn t N p)) (upd fa fr (nI c)) (nI (fr + 1)) (ac + 1) (nI v)) := by
  unfold f_X4_readTest g_X4_readTest_0 g_X12_readsAct_18 f_X12_opensActs g_X12_opensActs_0
  rw [m_sgn hN (by omega), Option.bind_some, nI_p]
  rcases vat_both (t := t) (N := N) (p := p + 1) hN (by omega) fx fl lt with ⟨v, hv, hvN, e1, e2⟩ | ⟨e1, l, e2⟩
  · rw [e1, e2, Option.bind_some, Option.bind_some, if_neg (show ¬ nI v = -1 from fun z => by
        rw [i_eq, nI_toInt (by omega)] at z
        have e2 : (-1 : Int32).toInt = -1 := rfl
        omega), if_neg (show ¬ (1 : Int32) = 0 by decide)]
    dsimp only
    rw [x_sgn hN (by omega), m_sgn hN (by omega), Option.bind_some, Option.bind_some]
    unfold g_X4_readTest_27 f_X9_canOpen g_X9_canOpen_0
    simp only [x_pass hN (show p + 1 + 1 ≤ 1000 by omega)]
    by_cases h40 : sgn t N (p + 1 + 1) = 40
    · have hlt : p + 1 + 1 < N := sgn_lt (by rw [h40]; decide)
      simp only [if_pos h40]
      by_cases h6 : fr = 6
      · left
        refine ⟨ft 5 (p + 1 + 1), ?_, ?_⟩
        · rw [if_neg (show ¬ nI fr < 6 by rw [h6]; decide)]
          exact ⟨_, rfl, rfl, rfl⟩
        · rw [if_pos (show nI fr = 6 by rw [h6]; rfl)]
          exact ⟨_, rfl, rfl, rfl⟩
      · right
        refine ⟨v, hv, by omega, by omega, ?_, ?_⟩
        · rw [if_pos (show nI fr < 6 from (nI_ltI (b := 6) (by omega) (by omega)).mpr (by omega)), Option.bind_some, if_neg (show ¬ (1 : Int32) = 0 by decide), Option.bind_some, if_neg (show ¬ (1 : Int32) = 0 by decide), xr_add (by omega) (by decide), Option.bind_some]
        · rw [if_neg (show ¬ nI fr = 6 from fun z => h6 ((nI_eq (b := 6) (by omega) (by omega)).mp z)), if_pos (vin_nI (by omega) (by omega)), m_puts (by omega), Option.bind_some, Option.bind_some, if_neg (show ¬ (1 : Int32) = 0 by decide), nc fr (by omega), nI_p, nI_p]
    · left
      simp only [if_neg h40]
      refine ⟨ft 1 (p + 1 + 1), ?_, ?_⟩
      · rw [Option.bind_some, if_pos (show (0 : Int32) = 0 from rfl)]
        exact ⟨_, rfl, rfl, rfl⟩
      · exact ⟨_, rfl, rfl, rfl⟩
  · left
    refine ⟨ft 1 (p + 1), ?_, ?_⟩
    · rw [e1, Option.bind_some, if_pos rfl]
      exact ⟨_, rfl, rfl, rfl⟩
    · rw [e2, Option.bind_some, if_pos rfl]
      exact ⟨_, rfl, rfl, rfl⟩
end TEST
section WHILE
variable {t : Nat → Int32} {N fr c p : Nat} {yc y1 y2 yo op a b fk fa : Nat → Int32} {ac fx fl lt : Int32} {K : Int32 → (Nat → Int32) → (Nat → Int32) → (Nat → Int32) → (Nat → Int32) → Int32 → Int32 → (Nat → Int32) → Int32 → Int32 → Int32 → Option (Int32 × (Nat → Int32) × (Nat → Int32) × (Nat → Int32) × (Nat → Int32) × Int32 × Int32 × Int32 × Int32)}
theorem while_both (hN : N ≤ 120) (hfr : fr ≤ 6) (hc : c ≤ p) (hp : p < N) {f n : Nat} (hf : N - p < f + 1) (hn : N - p + 1 < n) (hs : sgn t N p = 119) (hK : fr < 6 → CAt t N (fr + 1) K) : RA (fun _ => True) t N fr c p yc y1 y2 yo op a b fk fa (f_X4_readWhile K (nI fr) yc y1 y2 yo (nI c) ac t (nI (p + 1)) (nI N) fx) (MA (f + 1) n t (nI p) (nI N) fl (nI c) op a b fk fa (nI fr) ac lt) := by
  have eM : MA (f + 1) n t (nI p) (nI N) fl (nI c) op a b fk fa (nI fr) ac lt = (g_X12_readsAct_18 (g_X12_readsAct_0 f) t (nI p) (nI N) fl (nI c) op a b fk fa (nI fr) ac lt).bind (fun u1 => (if u1.1 = 0 then some (0, u1.2.1, u1.2.2.1, u1.2.2.2.1, u1.2.2.2.2.1, u1.2.2.2.2.2.1, u1.2.2.2.2.2.2.1, u1.2.2.2.2.2.2.2.1, u1.2.2.2.2.2.2.2.2.1, u1.2.2.2.2.2.2.2.2.2.1, u1.2.2.2.2.2.2.2.2.2.2.1, u1.2.2.2.2.2.2.2.2.2.2.2) else g_X12_readsRecipe_19 (g_X12_readsRecipe_10 n) FU t u1.2.1 (nI N) u1.2.2.1 u1.2.2.2.1 u1.2.2.2.2.1 u1.2.2.2.2.2.1 u1.2.2.2.2.2.2.1 u1.2.2.2.2.2.2.2.1 u1.2.2.2.2.2.2.2.2.1 u1.2.2.2.2.2.2.2.2.2.1 u1.2.2.2.2.2.2.2.2.2.2.1 u1.2.2.2.2.2.2.2.2.2.2.2)) := by
    unfold MA
    simp only [g_X12_readsAct_0]
    rw [m_sgn hN (by omega), Option.bind_some, if_pos hs]
  unfold f_X4_readWhile g_X4_readWhile_0
  rw [eM]
  rcases test_both (yc := yc) (y1 := y1) (y2 := y2) (op := op) (a := a) (b := b) (fk := fk) (fa := fa) (ac := ac) (fx := fx) (fl := fl) (lt := lt) hN hfr hc hp (g_X12_readsAct_0 f) with ⟨z, ⟨u, u1, u2, u3⟩, w, w1, w2, w3⟩ | ⟨v, hv, hp3, hfr6, e1, e2⟩
  · rw [u1, Option.bind_some, if_pos u2, w1, Option.bind_some, if_pos w2]
    exact RA_fault z ⟨_, rfl, rfl, u3⟩ ⟨_, rfl, rfl, w3⟩
  · rw [e1, Option.bind_some, if_neg (show ¬ nI c = -1 from fun z => by
        rw [i_eq, nI_toInt (by omega)] at z
        have e2 : (-1 : Int32).toInt = -1 := rfl
        omega), e2]
    dsimp only
    rw [nI_p]
    have ih := hK hfr6 f n (c + 1) (p + 3) (upd yc c 4) (upd y1 c (nI v)) (upd y2 c 0) yo (upd op c 4) (upd a c (nI v)) (upd b c 0) (upd fk fr (sgn t N p)) (upd fa fr (nI c)) (ac + 1) fx fl (nI v) (by omega) hp3 (by omega) (by omega)
    rcases ih with ⟨u, w, u1, u2, w1, w2, w3⟩ | ⟨c', p', n', m', yc', y1', y2', yo', op', a', b', fk', fa', ac', fx', fm', lt', x1, x2, x3, x4, x5, x6, x7, x8, x9, x10, x11, x12, x13⟩
    · rw [u1, Option.bind_some, if_pos u2]
      exact RA_fault u.2.2.2.2.2.2.2.2 ⟨_, rfl, rfl, rfl⟩ ⟨w, w1, w2, w3.symm⟩
    · rw [x1, Option.bind_some, if_neg (show ¬ (1 : Int32) = 0 by decide)]
      dsimp only
      have x2' : (g_X12_readsAct_0 f t (nI (p + 3)) (nI N) fl (nI (c + 1)) (upd op c 4) (upd a c (nI v)) (upd b c 0) (upd fk fr (sgn t N p)) (upd fa fr (nI c)) (nI (fr + 1)) (ac + 1) (nI v)).bind (fun u1 => (if u1.1 = 0 then some (0, u1.2.1, u1.2.2.1, u1.2.2.2.1, u1.2.2.2.2.1, u1.2.2.2.2.2.1, u1.2.2.2.2.2.2.1, u1.2.2.2.2.2.2.2.1, u1.2.2.2.2.2.2.2.2.1, u1.2.2.2.2.2.2.2.2.2.1, u1.2.2.2.2.2.2.2.2.2.2.1, u1.2.2.2.2.2.2.2.2.2.2.2) else g_X12_readsRecipe_19 (g_X12_readsRecipe_10 n) FU t u1.2.1 (nI N) u1.2.2.1 u1.2.2.2.1 u1.2.2.2.2.1 u1.2.2.2.2.2.1 u1.2.2.2.2.2.2.1 u1.2.2.2.2.2.2.2.1 u1.2.2.2.2.2.2.2.2.1 u1.2.2.2.2.2.2.2.2.2.1 u1.2.2.2.2.2.2.2.2.2.2.1 u1.2.2.2.2.2.2.2.2.2.2.2)) = _ := x2
      rw [x2', x_pass hN (by omega)]
      obtain ⟨n', rfl⟩ : ∃ k, n' = k + 1 := ⟨n' - 1, by omega⟩
      obtain ⟨m', rfl⟩ : ∃ k, m' = k + 1 := ⟨m' - 1, by omega⟩
      have hfkr : fk' fr = 119 := by rw [(x13 fr (by omega)).1, upd_same, hs]
      have hfar : fa' fr = nI c := by rw [(x13 fr (by omega)).2, upd_same]
      by_cases h41 : sgn t N p' = 41
      · have hlt : p' < N := sgn_lt (by rw [h41]; decide)
        rw [if_pos h41, Option.bind_some, if_neg (show ¬ (1 : Int32) = 0 by decide), xr_add6 (by omega), Option.bind_some]
        dsimp only
        rw [x_lead (by omega), Option.bind_some, x_lead (by omega), Option.bind_some]
        refine Or.inr ⟨c' + 1, p' + 1, n' + 1, m', upd yc' c' 6, upd y1' c' 0, upd y2' c' 0, upd (upd yo' c' (nI c)) c (nI (c' + 1)), upd op' c' 5, upd a' c' 0, upd (upd b' c' (nI c)) c (nI (c' + 1)), fk', fa', ac', fx', fm', lt', rfl, ?_, trivial, by omega, by omega, by omega, by omega, by omega, by omega, fun i hi => ?_, fun i hi1 hi2 => ?_, ?_, fun i hi => ?_⟩
        · simp only [g_X12_readsRecipe_19]
          rw [m_sgn hN (by omega), Option.bind_some, if_pos h41, m_frameN (by omega), Option.bind_some, if_neg (show ¬ fr + 1 = 0 by omega), show fr + 1 - 1 = fr by omega, if_pos hfkr]
          unfold g_X12_readsRecipe_46 f_X12_closes g_X12_closes_0 g_X12_closes_35
          rw [show nI (fr + 1) - 1 = nI fr from nI_m (by omega), if_pos (vin_nI (by omega) (by omega)), nc fr (by omega), if_pos hfkr, hfar, m_puts (by omega), Option.bind_some]
          dsimp only
          rw [if_pos (vin_nI (by omega) (by omega)), nc c (by omega), Option.bind_some, nI_p]
        · obtain ⟨g1, g2, g3, g4, g5, g6, g7⟩ := x10 i (by omega)
          rw [upd_ne (by omega), upd_ne (by omega), upd_ne (by omega), upd_ne (by omega), upd_ne (by omega), upd_ne (by omega), upd_ne (by omega), upd_ne (by omega), upd_ne (by omega), g1, g2, g3, g4, g5, g6, g7, upd_ne (by omega), upd_ne (by omega), upd_ne (by omega), upd_ne (by omega), upd_ne (by omega), upd_ne (by omega)]
          exact ⟨rfl, rfl, rfl, rfl, rfl, rfl, rfl⟩
        · obtain ⟨g1, g2, g3, g4, g5, g6, g7⟩ := x10 c (by omega)
          rw [upd_same] at g1 g2 g3 g5 g6 g7
          by_cases hic : i = c
          · subst hic
            refine ⟨4, v, c' + 1, ?_, ?_, ?_, ?_, by omega, by omega, fun _ => ⟨hv, ?_⟩, fun h => by omega, fun _ => ⟨Nat.le_refl _, ?_⟩, fun h => by omega⟩
            · rw [upd_ne (by omega)]; exact g5
            · rw [upd_ne (by omega)]; exact g6
            · rw [upd_same]
            · rw [upd_ne (by omega)]; exact g1
            · rw [upd_ne (by omega)]; exact g2
            · rw [upd_same]
          · by_cases hic' : i = c'
            · subst hic'
              refine ⟨5, 0, c, upd_same _ _ _, upd_same _ _ _, ?_, upd_same _ _ _, by omega, by omega, fun h => by omega, fun h => by omega, fun h => by omega, fun _ => ⟨?_, Or.inl ⟨Nat.le_refl _, by omega, ?_⟩⟩⟩
              · rw [upd_ne (by omega), upd_same]
              · rw [upd_ne (by omega), upd_same]
              · rw [upd_ne (by omega)]; exact g5
            · refine GIt_mono (x11 i (by omega) (by omega)) (by omega) (by omega) (by omega) (by omega) (fun j hj1 hj2 => ?_)
              rw [upd_ne (by omega), upd_ne (by omega), upd_ne (by omega), upd_ne (by omega), upd_ne (by omega), upd_ne (by omega), upd_ne (by omega), upd_ne (by omega), upd_ne (by omega)]
              exact ⟨rfl, rfl, rfl, rfl, rfl, rfl, rfl⟩
        · obtain ⟨-, -, -, -, g5, -, -⟩ := x10 c (by omega)
          rw [upd_ne (by omega), g5, upd_same]
          decide
        · obtain ⟨g1, g2⟩ := x13 i (by omega)
          rw [upd_ne (by omega)] at g1 g2
          exact ⟨g1, g2⟩
      · rw [if_neg h41, Option.bind_some, if_pos (show (0 : Int32) = 0 from rfl), R19_on hN x7 (by omega) n' m' (Or.inr (by omega)) (fun h => absurd h h41) (fun _ => by
          rw [if_neg (by omega), show fr + 1 - 1 = fr by omega, hfkr]; decide)]
        exact RA_fault (ft 1 p') ⟨_, rfl, rfl, rfl⟩ (MA_wrong hN (by omega) x3 999999 n')
theorem if_both (hN : N ≤ 120) (hfr : fr ≤ 6) (hc : c ≤ p) (hp : p < N) {f n : Nat} (hf : N - p < f + 1) (hn : N - p + 1 < n) (hs : sgn t N p = 105) (hK : fr < 6 → CAt t N (fr + 1) K) : RA (fun _ => True) t N fr c p yc y1 y2 yo op a b fk fa (f_X4_readIf K (nI fr) yc y1 y2 yo (nI c) ac t (nI (p + 1)) (nI N) fx) (MA (f + 1) n t (nI p) (nI N) fl (nI c) op a b fk fa (nI fr) ac lt) := by
  have eM : MA (f + 1) n t (nI p) (nI N) fl (nI c) op a b fk fa (nI fr) ac lt = (g_X12_readsAct_18 (g_X12_readsAct_0 f) t (nI p) (nI N) fl (nI c) op a b fk fa (nI fr) ac lt).bind (fun u1 => (if u1.1 = 0 then some (0, u1.2.1, u1.2.2.1, u1.2.2.2.1, u1.2.2.2.2.1, u1.2.2.2.2.2.1, u1.2.2.2.2.2.2.1, u1.2.2.2.2.2.2.2.1, u1.2.2.2.2.2.2.2.2.1, u1.2.2.2.2.2.2.2.2.2.1, u1.2.2.2.2.2.2.2.2.2.2.1, u1.2.2.2.2.2.2.2.2.2.2.2) else g_X12_readsRecipe_19 (g_X12_readsRecipe_10 n) FU t u1.2.1 (nI N) u1.2.2.1 u1.2.2.2.1 u1.2.2.2.2.1 u1.2.2.2.2.2.1 u1.2.2.2.2.2.2.1 u1.2.2.2.2.2.2.2.1 u1.2.2.2.2.2.2.2.2.1 u1.2.2.2.2.2.2.2.2.2.1 u1.2.2.2.2.2.2.2.2.2.2.1 u1.2.2.2.2.2.2.2.2.2.2.2)) := by
    unfold MA
    simp only [g_X12_readsAct_0]
    rw [m_sgn hN (by omega), Option.bind_some, if_neg (by rw [hs]; decide), Option.bind_some, if_pos hs]
  unfold f_X4_readIf g_X4_readIf_0
  rw [eM]
  rcases test_both (yc := yc) (y1 := y1) (y2 := y2) (op := op) (a := a) (b := b) (fk := fk) (fa := fa) (ac := ac) (fx := fx) (fl := fl) (lt := lt) hN hfr hc hp (g_X12_readsAct_0 f) with ⟨z, ⟨u, u1, u2, u3⟩, w, w1, w2, w3⟩ | ⟨v, hv, hp3, hfr6, e1, e2⟩
  · rw [u1, Option.bind_some, if_pos u2, w1, Option.bind_some, if_pos w2]
    exact RA_fault z ⟨_, rfl, rfl, u3⟩ ⟨_, rfl, rfl, w3⟩
  · rw [e1, Option.bind_some, if_neg (show ¬ nI c = -1 from fun z => by
        rw [i_eq, nI_toInt (by omega)] at z
        have e2 : (-1 : Int32).toInt = -1 := rfl
        omega), e2]
    dsimp only
    rw [nI_p]
    have ih := hK hfr6 f n (c + 1) (p + 3) (upd yc c 4) (upd y1 c (nI v)) (upd y2 c 0) yo (upd op c 4) (upd a c (nI v)) (upd b c 0) (upd fk fr (sgn t N p)) (upd fa fr (nI c)) (ac + 1) fx fl (nI v) (by omega) hp3 (by omega) (by omega)
    rcases ih with ⟨u, w, u1, u2, w1, w2, w3⟩ | ⟨c', p', n', m', yc', y1', y2', yo', op', a', b', fk', fa', ac', fx', fm', lt', x1, x2, x3, x4, x5, x6, x7, x8, x9, x10, x11, x12, x13⟩
    · rw [u1, Option.bind_some, if_pos u2]
      exact RA_fault u.2.2.2.2.2.2.2.2 ⟨_, rfl, rfl, rfl⟩ ⟨w, w1, w2, w3.symm⟩
    · rw [x1, Option.bind_some, if_neg (show ¬ (1 : Int32) = 0 by decide)]
      dsimp only
      have x2' : (g_X12_readsAct_0 f t (nI (p + 3)) (nI N) fl (nI (c + 1)) (upd op c 4) (upd a c (nI v)) (upd b c 0) (upd fk fr (sgn t N p)) (upd fa fr (nI c)) (nI (fr + 1)) (ac + 1) (nI v)).bind (fun u1 => (if u1.1 = 0 then some (0, u1.2.1, u1.2.2.1, u1.2.2.2.1, u1.2.2.2.2.1, u1.2.2.2.2.2.1, u1.2.2.2.2.2.2.1, u1.2.2.2.2.2.2.2.1, u1.2.2.2.2.2.2.2.2.1, u1.2.2.2.2.2.2.2.2.2.1, u1.2.2.2.2.2.2.2.2.2.2.1, u1.2.2.2.2.2.2.2.2.2.2.2) else g_X12_readsRecipe_19 (g_X12_readsRecipe_10 n) FU t u1.2.1 (nI N) u1.2.2.1 u1.2.2.2.1 u1.2.2.2.2.1 u1.2.2.2.2.2.1 u1.2.2.2.2.2.2.1 u1.2.2.2.2.2.2.2.1 u1.2.2.2.2.2.2.2.2.1 u1.2.2.2.2.2.2.2.2.2.1 u1.2.2.2.2.2.2.2.2.2.2.1 u1.2.2.2.2.2.2.2.2.2.2.2)) = _ := x2
      rw [x2', x_pass hN (by omega)]
      obtain ⟨n', rfl⟩ : ∃ k, n' = k + 1 := ⟨n' - 1, by omega⟩
      obtain ⟨m', rfl⟩ : ∃ k, m' = k + 1 := ⟨m' - 1, by omega⟩
      have hfkr : fk' fr = 105 := by rw [(x13 fr (by omega)).1, upd_same, hs]
      have hfar : fa' fr = nI c := by rw [(x13 fr (by omega)).2, upd_same]
      by_cases h58 : sgn t N p' = 58
      · have hlt : p' < N := sgn_lt (by rw [h58]; decide)
        rw [if_pos h58, Option.bind_some, if_neg (show ¬ (1 : Int32) = 0 by decide), xr_add6 (by omega), Option.bind_some]
        dsimp only
        rw [x_lead (by omega), Option.bind_some]
        have eM2 : g_X12_readsRecipe_19 (g_X12_readsRecipe_10 (n' + 1)) (m' + 1) t (nI p') (nI N) fm' (nI c') op' a' b' fk' fa' (nI (fr + 1)) ac' lt' = MA FU n' t (nI (p' + 1)) (nI N) fm' (nI (c' + 1)) (upd op' c' 5) (upd a' c' 0) (upd (upd b' c' 0) c (nI (c' + 1))) (upd fk' fr 58) (upd fa' fr (nI c')) (nI (fr + 1)) ac' lt' := by
          simp only [g_X12_readsRecipe_19]
          rw [m_sgn hN (by omega), Option.bind_some, if_neg (by rw [h58]; decide)]
          unfold g_X12_readsRecipe_53 g_X12_readsRecipe_73
          rw [if_neg (show ¬ nI p' = nI N from fun z => by have := (nI_eq (by omega) (by omega)).mp z; omega), m_sgn hN (by omega), Option.bind_some, if_pos h58, m_frameN (by omega), Option.bind_some, if_neg (show ¬ fr + 1 = 0 by omega), show fr + 1 - 1 = fr by omega, if_pos hfkr]
          unfold f_X12_turns g_X12_turns_0
          rw [show nI (fr + 1) - 1 = nI fr from nI_m (by omega), if_pos (vin_nI (by omega) (by omega)), nc fr (by omega), hfar, m_puts (by omega), Option.bind_some]
          dsimp only
          rw [if_pos (vin_nI (by omega) (by omega)), nc c (by omega), Option.bind_some, nI_p, MA_10]
        rw [eM2]
        have ih2 := hK hfr6 FU n' (c' + 1) (p' + 1) (upd yc' c' 6) (upd y1' c' 0) (upd y2' c' 0) (upd yo' c (nI (c' + 1))) (upd op' c' 5) (upd a' c' 0) (upd (upd b' c' 0) c (nI (c' + 1))) (upd fk' fr 58) (upd fa' fr (nI c')) ac' fx' fm' lt' (by omega) (by omega) (by unfold FU; omega) (by omega)
        rcases ih2 with ⟨u, w, u1, u2, w1, w2, w3⟩ | ⟨c2, p2, n2, m2, yc2, y12, y22, yo2, op2, a2, b2, fk2, fa2, ac2, fx2, fm2, lt2, z1, z2, z3, z4, z5, z6, z7, z8, z9, z10, z11, z12, z13⟩
        · rw [u1, Option.bind_some, if_pos u2]
          exact RA_fault u.2.2.2.2.2.2.2.2 ⟨_, rfl, rfl, rfl⟩ ⟨w, w1, w2, w3.symm⟩
        · rw [z1, Option.bind_some, if_neg (show ¬ (1 : Int32) = 0 by decide), z2]
          dsimp only
          rw [x_pass hN (by omega)]
          obtain ⟨n2, rfl⟩ : ∃ k, n2 = k + 1 := ⟨n2 - 1, by omega⟩
          obtain ⟨m2, rfl⟩ : ∃ k, m2 = k + 1 := ⟨m2 - 1, by omega⟩
          have hfkr2 : fk2 fr = 58 := by rw [(z13 fr (by omega)).1, upd_same]
          have hfar2 : fa2 fr = nI c' := by rw [(z13 fr (by omega)).2, upd_same]
          by_cases h41 : sgn t N p2 = 41
          · have hlt2 : p2 < N := sgn_lt (by rw [h41]; decide)
            rw [if_pos h41, Option.bind_some, if_neg (show ¬ (1 : Int32) = 0 by decide), x_lead (by omega), Option.bind_some]
            refine Or.inr ⟨c2, p2 + 1, n2 + 1, m2, yc2, y12, y22, upd yo2 c' (nI c2), op2, a2, upd b2 c' (nI c2), fk2, fa2, ac2, fx2, fm2, lt2, rfl, ?_, trivial, by omega, by omega, by omega, by omega, by omega, by omega, fun i hi => ?_, fun i hi1 hi2 => ?_, ?_, fun i hi => ?_⟩
            · simp only [g_X12_readsRecipe_19]
              rw [m_sgn hN (by omega), Option.bind_some, if_pos h41, m_frameN (by omega), Option.bind_some, if_neg (show ¬ fr + 1 = 0 by omega), show fr + 1 - 1 = fr by omega, hfkr2, if_neg (by decide), Option.bind_some, if_pos rfl]
              unfold g_X12_readsRecipe_46 f_X12_closes g_X12_closes_0 g_X12_closes_35
              rw [show nI (fr + 1) - 1 = nI fr from nI_m (by omega), if_pos (vin_nI (by omega) (by omega)), nc fr (by omega), if_neg (by rw [hfkr2]; decide), hfar2, if_pos (vin_nI (by omega) (by omega)), nc c' (by omega), Option.bind_some, nI_p]
            · obtain ⟨g1, g2, g3, g4, g5, g6, g7⟩ := x10 i (by omega)
              obtain ⟨q1, q2, q3, q4, q5, q6, q7⟩ := z10 i (by omega)
              rw [upd_ne (by omega), upd_ne (by omega), q1, q2, q3, q4, q5, q6, q7, upd_ne (by omega), upd_ne (by omega), upd_ne (by omega), upd_ne (by omega), upd_ne (by omega), upd_ne (by omega), upd_ne (by omega), upd_ne (by omega), g1, g2, g3, g4, g5, g6, g7, upd_ne (by omega), upd_ne (by omega), upd_ne (by omega), upd_ne (by omega), upd_ne (by omega), upd_ne (by omega)]
              exact ⟨rfl, rfl, rfl, rfl, rfl, rfl, rfl⟩
            · by_cases hic : i = c
              · subst hic
                obtain ⟨g1, g2, g3, g4, g5, g6, g7⟩ := x10 i (by omega)
                rw [upd_same] at g1 g2 g3 g5 g6 g7
                obtain ⟨q1, q2, q3, q4, q5, q6, q7⟩ := z10 i (by omega)
                rw [upd_ne (by omega)] at q1 q2 q3 q5 q6
                rw [upd_same] at q4 q7
                refine ⟨4, v, c' + 1, q5.trans g5, q6.trans g6, ?_, q1.trans g1, by omega, by omega, fun _ => ⟨hv, q2.trans g2⟩, fun h => by omega, fun _ => ⟨by omega, ?_⟩, fun h => by omega⟩
                · rw [upd_ne (by omega)]; exact q7
                · rw [upd_ne (by omega)]; exact q4
              · by_cases hic' : i = c'
                · subst hic'
                  obtain ⟨q1, q2, q3, q4, q5, q6, q7⟩ := z10 i (by omega)
                  rw [upd_same] at q1 q2 q3 q5 q6
                  refine ⟨5, 0, c2, q5, q6, upd_same _ _ _, q1, by omega, by omega, fun h => by omega, fun h => by omega, fun h => by omega, fun _ => ⟨upd_same _ _ _, Or.inr ⟨by omega, Nat.le_refl _⟩⟩⟩
                · rcases Nat.lt_or_ge i c' with zc | zc
                  · refine GIt_mono (x11 i (by omega) zc) (by omega) (by omega) (by omega) zc (fun j hj1 hj2 => ?_)
                    obtain ⟨q1, q2, q3, q4, q5, q6, q7⟩ := z10 j (by omega)
                    rw [upd_ne (by omega), upd_ne (by omega), q1, q2, q3, q4, q5, q6, q7, upd_ne (by omega), upd_ne (by omega), upd_ne (by omega), upd_ne (by omega), upd_ne (by omega), upd_ne (by omega), upd_ne (by omega), upd_ne (by omega)]
                    exact ⟨rfl, rfl, rfl, rfl, rfl, rfl, rfl⟩
                  · refine GIt_mono (z11 i (by omega) (by omega)) (by omega) (Nat.le_refl _) (by omega) (by omega) (fun j hj1 hj2 => ?_)
                    rw [upd_ne (by omega), upd_ne (by omega)]
                    exact ⟨rfl, rfl, rfl, rfl, rfl, rfl, rfl⟩
            · obtain ⟨-, -, -, -, g5, -, -⟩ := x10 c (by omega)
              obtain ⟨-, -, -, -, q5, -, -⟩ := z10 c (by omega)
              rw [q5, upd_ne (by omega), g5, upd_same]
              decide
            · obtain ⟨g1, g2⟩ := x13 i (by omega)
              rw [upd_ne (by omega)] at g1 g2
              obtain ⟨q1, q2⟩ := z13 i (by omega)
              rw [upd_ne (by omega)] at q1 q2
              exact ⟨q1.trans g1, q2.trans g2⟩
          · rw [if_neg h41, Option.bind_some, if_pos (show (0 : Int32) = 0 from rfl), R19_on hN z7 (by omega) n2 m2 (Or.inr (by omega)) (fun h => absurd h h41) (fun _ => by
              rw [if_neg (by omega), show fr + 1 - 1 = fr by omega, hfkr2]; decide)]
            exact RA_fault (ft 1 p2) ⟨_, rfl, rfl, rfl⟩ (MA_wrong hN (by omega) z3 999999 n2)
      · rw [if_neg h58, Option.bind_some, if_pos (show (0 : Int32) = 0 from rfl), R19_on hN x7 (by omega) n' m' (Or.inr (by omega)) (fun _ => by
          rw [if_neg (show ¬ fr + 1 = 0 by omega), show fr + 1 - 1 = fr by omega, hfkr]; decide) (fun h => absurd h h58)]
        exact RA_fault (ft 1 p') ⟨_, rfl, rfl, rfl⟩ (MA_wrong hN (by omega) x3 999999 n')
end WHILE
