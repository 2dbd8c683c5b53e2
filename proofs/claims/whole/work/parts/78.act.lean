/-! one act of both -/
section ACTR
variable {t : Nat → Int32} {N : Nat} {K : Int32 → (Nat → Int32) → (Nat → Int32) → (Nat → Int32) → (Nat → Int32) → Int32 → Int32 → (Nat → Int32) → Int32 → Int32 → Int32 → Option (Int32 × (Nat → Int32) × (Nat → Int32) × (Nat → Int32) × (Nat → Int32) × Int32 × Int32 × Int32 × Int32)}
theorem GIt_one {c o x y : Nat} (ho : o ≤ 3 ∨ o = 6) (hx : x < 6) (hy : y < 6) (yc y1 y2 yo op a b : Nat → Int32) : GIt c (c + 1) c (upd yc c (nI (xop o))) (upd y1 c (nI x)) (upd y2 c (nI y)) yo (upd op c (nI o)) (upd a c (nI x)) (upd b c (nI y)) := by
  refine ⟨o, x, y, upd_same _ _ _, upd_same _ _ _, upd_same _ _ _, upd_same _ _ _, by omega, by omega, fun _ => ⟨hx, upd_same _ _ _⟩, fun _ => ⟨hy, upd_same _ _ _⟩, fun h => by omega, fun h => by omega⟩
/-- an act of one item was read -/
theorem RA_one {q : Int32 → Prop} {n fr c p p' o x y : Nat} {yc y1 y2 yo op a b fk fa : Nat → Int32} {ac fx fl lt : Int32} {X : Option (Int32 × (Nat → Int32) × (Nat → Int32) × (Nat → Int32) × (Nat → Int32) × Int32 × Int32 × Int32 × Int32)} {M} (ho : o ≤ 3 ∨ o = 6) (hx : x < 6) (hy : y < 6) (hc : c + 1 ≤ p') (hp : p < p') (hpN : p' ≤ N) (hn : N - p + 1 < n) (hfr : fr ≤ 6) (hq : q (sgn t N p')) (eX : X = some (1, upd yc c (nI (xop o)), upd y1 c (nI x), upd y2 c (nI y), yo, nI (c + 1), ac, nI p', fx)) (eM : M = g_X12_readsRecipe_19 (g_X12_readsRecipe_10 n) FU t (nI p') (nI N) fl (nI (c + 1)) (upd op c (nI o)) (upd a c (nI x)) (upd b c (nI y)) fk fa (nI fr) ac lt) : RA q t N fr c p yc y1 y2 yo op a b fk fa X M := by
  refine Or.inr ⟨c + 1, p', n, FU, _, _, _, yo, _, _, _, fk, fa, ac, fx, fl, lt, eX, eM, hq, by omega, hc, hp, hpN, by omega, by unfold FU; omega, fun i hi => ?_, fun i hi1 hi2 => ?_, ?_, fun _ _ => ⟨rfl, rfl⟩⟩
  · rw [upd_ne (by omega), upd_ne (by omega), upd_ne (by omega), upd_ne (by omega), upd_ne (by omega), upd_ne (by omega)]
    exact ⟨rfl, rfl, rfl, rfl, rfl, rfl, rfl⟩
  · rw [show i = c by omega]
    exact GIt_one ho hx hy yc y1 y2 yo op a b
  · rw [upd_same]
    intro h
    have := (nI_eq (b := 5) (by omega) (by omega)).mp h
    omega
theorem RA_fault {q : Int32 → Prop} {fr c p : Nat} {yc y1 y2 yo op a b fk fa : Nat → Int32} {X : Option (Int32 × (Nat → Int32) × (Nat → Int32) × (Nat → Int32) × (Nat → Int32) × Int32 × Int32 × Int32 × Int32)} {M} (z : Int32) (hX : ∃ u, X = some u ∧ u.1 = 0 ∧ u.2.2.2.2.2.2.2.2 = z) (hM : ∃ w, M = some w ∧ w.1 = 0 ∧ w.2.2.1 = z) : RA q t N fr c p yc y1 y2 yo op a b fk fa X M := by
  obtain ⟨u, u1, u2, u3⟩ := hX
  obtain ⟨w, w1, w2, w3⟩ := hM
  exact Or.inl ⟨u, w, u1, u2, w1, w2, u3.trans w3.symm⟩
theorem act_simple (hN : N ≤ 120) {f n fr c p : Nat} {yc y1 y2 yo op a b fk fa : Nat → Int32} {ac fx fl lt : Int32} (hfr : fr ≤ 6) (hc : c ≤ p) (hp : p ≤ N) (hn : N - p + 1 < n) (s5 : ¬ sgn t N p = 119) (s6 : ¬ sgn t N p = 105) : RA (fun _ => True) t N fr c p yc y1 y2 yo op a b fk fa (f_X4_readAct K (nI fr) yc y1 y2 yo (nI c) ac t (nI p) (nI N) fx) (MA (f + 1) n t (nI p) (nI N) fl (nI c) op a b fk fa (nI fr) ac lt) := by
  by_cases hbg : bg (sgn t N p)
  · have hlt : p < N := sgn_lt (fun z => by rw [z] at hbg; exact absurd hbg (by decide))
    have hXc : f_X4_readAct K (nI fr) yc y1 y2 yo (nI c) ac t (nI p) (nI N) fx = (if sgn t N p = 100 then (f_X4_readSingle 0 yc y1 y2 (nI c) ac t (nI (p + 1)) (nI N) fx).bind (fun u4 => (if zB u4.1 = true then some (u4.1, u4.2.1, u4.2.2.1, u4.2.2.2.1, yo, u4.2.2.2.2.1, u4.2.2.2.2.2.1, u4.2.2.2.2.2.2.1, u4.2.2.2.2.2.2.2) else none)) else (if sgn t N p = 104 then (f_X4_readDouble 3 yc y1 y2 (nI c) ac t (nI (p + 1)) (nI N) fx).bind (fun u4 => (if zB u4.1 = true then some (u4.1, u4.2.1, u4.2.2.1, u4.2.2.2.1, yo, u4.2.2.2.2.1, u4.2.2.2.2.2.1, u4.2.2.2.2.2.2.1, u4.2.2.2.2.2.2.2) else none)) else (if sgn t N p = 112 then (f_X4_readDouble 2 yc y1 y2 (nI c) ac t (nI (p + 1)) (nI N) fx).bind (fun u4 => (if zB u4.1 = true then some (u4.1, u4.2.1, u4.2.2.1, u4.2.2.2.1, yo, u4.2.2.2.2.1, u4.2.2.2.2.2.1, u4.2.2.2.2.2.2.1, u4.2.2.2.2.2.2.2) else none)) else (if sgn t N p = 116 then (f_X4_readSingle 1 yc y1 y2 (nI c) ac t (nI (p + 1)) (nI N) fx).bind (fun u4 => (if zB u4.1 = true then some (u4.1, u4.2.1, u4.2.2.1, u4.2.2.2.1, yo, u4.2.2.2.2.1, u4.2.2.2.2.2.1, u4.2.2.2.2.2.2.1, u4.2.2.2.2.2.2.2) else none)) else (f_X4_add 5 0 0 yc y1 y2 (nI c) ac).bind (fun u22 => some (1, u22.2.1, u22.2.2.1, u22.2.2.2.1, yo, u22.2.2.2.2.1, u22.2.2.2.2.2, nI (p + 1), fx)))))) := by
      unfold f_X4_readAct g_X4_readAct_0
      rw [x_sgn hN (by omega), Option.bind_some, x_bg, if_pos hbg, Option.bind_some, if_neg (by decide)]
      show (some (nI p + 1)).bind _ = _
      rw [Option.bind_some, nI_p]
      simp only [if_neg s5, if_neg s6]
    have hMc : MA (f + 1) n t (nI p) (nI N) fl (nI c) op a b fk fa (nI fr) ac lt = (g_X12_readsAct_101 (sgn t N p) t (nI p) (nI N) fl (nI c) op a b fk fa (nI fr) ac lt).bind (fun u1 => (if u1.1 = 0 then some (0, u1.2.1, u1.2.2.1, u1.2.2.2.1, u1.2.2.2.2.1, u1.2.2.2.2.2.1, u1.2.2.2.2.2.2.1, u1.2.2.2.2.2.2.2.1, u1.2.2.2.2.2.2.2.2.1, u1.2.2.2.2.2.2.2.2.2.1, u1.2.2.2.2.2.2.2.2.2.2.1, u1.2.2.2.2.2.2.2.2.2.2.2) else g_X12_readsRecipe_19 (g_X12_readsRecipe_10 n) FU t u1.2.1 (nI N) u1.2.2.1 u1.2.2.2.1 u1.2.2.2.2.1 u1.2.2.2.2.2.1 u1.2.2.2.2.2.2.1 u1.2.2.2.2.2.2.2.1 u1.2.2.2.2.2.2.2.2.1 u1.2.2.2.2.2.2.2.2.2.1 u1.2.2.2.2.2.2.2.2.2.2.1 u1.2.2.2.2.2.2.2.2.2.2.2)) := by
      unfold MA
      simp only [g_X12_readsAct_0, m_sgn hN (show p ≤ 1000 by omega), Option.bind_some, if_neg s5, if_neg s6]
      rcases hbg with h | h | h | h | h | h | h
      · rw [h, if_pos rfl]
      · rw [h, if_neg (by decide), if_pos rfl]
      · rw [h, if_neg (by decide), if_neg (by decide), if_pos rfl]
      · rw [h, if_neg (by decide), if_neg (by decide), if_neg (by decide), if_pos rfl]
      · exact absurd h s5
      · exact absurd h s6
      · rw [h, if_neg (by decide), if_neg (by decide), if_neg (by decide), if_neg (by decide), if_pos rfl]
    rw [hXc, hMc]
    unfold g_X12_readsAct_101
    rw [nI_p]
    have hsing : ∀ (o : Nat), o ≤ 1 → RA (fun _ => True) t N fr c p yc y1 y2 yo op a b fk fa ((f_X4_readSingle (nI o) yc y1 y2 (nI c) ac t (nI (p + 1)) (nI N) fx).bind (fun u4 => (if zB u4.1 = true then some (u4.1, u4.2.1, u4.2.2.1, u4.2.2.2.1, yo, u4.2.2.2.2.1, u4.2.2.2.2.2.1, u4.2.2.2.2.2.2.1, u4.2.2.2.2.2.2.2) else none))) (((f_X12_readsOne (nI o) t (nI (p + 1)) (nI N) fl (nI c) op a b lt).bind (fun u3 => (if zB u3.1 = true then some (u3.1, u3.2.1, u3.2.2.1, u3.2.2.2.1, u3.2.2.2.2.1, u3.2.2.2.2.2.1, u3.2.2.2.2.2.2.1, fk, fa, nI fr, (ac + 1), u3.2.2.2.2.2.2.2) else none))).bind (fun u1 => (if u1.1 = 0 then some (0, u1.2.1, u1.2.2.1, u1.2.2.2.1, u1.2.2.2.2.1, u1.2.2.2.2.2.1, u1.2.2.2.2.2.2.1, u1.2.2.2.2.2.2.2.1, u1.2.2.2.2.2.2.2.2.1, u1.2.2.2.2.2.2.2.2.2.1, u1.2.2.2.2.2.2.2.2.2.2.1, u1.2.2.2.2.2.2.2.2.2.2.2) else g_X12_readsRecipe_19 (g_X12_readsRecipe_10 n) FU t u1.2.1 (nI N) u1.2.2.1 u1.2.2.2.1 u1.2.2.2.2.1 u1.2.2.2.2.2.1 u1.2.2.2.2.2.2.1 u1.2.2.2.2.2.2.2.1 u1.2.2.2.2.2.2.2.2.1 u1.2.2.2.2.2.2.2.2.2.1 u1.2.2.2.2.2.2.2.2.2.2.1 u1.2.2.2.2.2.2.2.2.2.2.2))) := by
      intro o ho
      unfold f_X4_readSingle g_X4_readSingle_0 f_X12_readsOne g_X12_readsOne_0
      rcases vat_both (t := t) (N := N) (p := p + 1) hN (by omega) fx fl lt with ⟨v, hv, hvN, e1, e2⟩ | ⟨e1, l, e2⟩
      · rw [e1, e2, Option.bind_some, Option.bind_some, if_neg (show ¬ nI v = -1 from fun z => by
          rw [i_eq, nI_toInt (by omega)] at z
          have e2 : (-1 : Int32).toInt = -1 := rfl
          omega), if_neg (show ¬ (1 : Int32) = 0 by decide)]
        dsimp only
        rw [xr_add (by omega) (show ¬ nI o = 6 from fun z => by have := (nI_eq (b := 6) (by omega) (by omega)).mp z; omega), m_puts (by omega), Option.bind_some, Option.bind_some, Option.bind_some, Option.bind_some]
        dsimp only
        rw [if_pos (by decide), if_pos (by decide), Option.bind_some, if_neg (show ¬ (1 : Int32) = 0 by decide)]
        have ex : xop o = o := by unfold xop; rw [if_neg (by omega), if_neg (by omega)]
        exact RA_one (o := o) (x := v) (y := 0) (by omega) hv (by omega) (show c + 1 ≤ p + 1 + 1 by omega) (by omega) (by omega) hn hfr trivial (by rw [ex]; rfl) rfl
      · rw [e1, e2, Option.bind_some, Option.bind_some, if_pos rfl, if_pos rfl]
        exact RA_fault (ft 1 (p + 1)) ⟨_, rfl, rfl, rfl⟩ ⟨_, rfl, rfl, rfl⟩
    have hdoub : ∀ (o : Nat), o = 2 ∨ o = 3 → RA (fun _ => True) t N fr c p yc y1 y2 yo op a b fk fa ((f_X4_readDouble (nI o) yc y1 y2 (nI c) ac t (nI (p + 1)) (nI N) fx).bind (fun u4 => (if zB u4.1 = true then some (u4.1, u4.2.1, u4.2.2.1, u4.2.2.2.1, yo, u4.2.2.2.2.1, u4.2.2.2.2.2.1, u4.2.2.2.2.2.2.1, u4.2.2.2.2.2.2.2) else none))) ((g_X12_readsAct_177 (nI o) t (nI (p + 1)) (nI N) fl (nI c) op a b fk fa (nI fr) (ac + 1) lt).bind (fun u1 => (if u1.1 = 0 then some (0, u1.2.1, u1.2.2.1, u1.2.2.2.1, u1.2.2.2.2.1, u1.2.2.2.2.2.1, u1.2.2.2.2.2.2.1, u1.2.2.2.2.2.2.2.1, u1.2.2.2.2.2.2.2.2.1, u1.2.2.2.2.2.2.2.2.2.1, u1.2.2.2.2.2.2.2.2.2.2.1, u1.2.2.2.2.2.2.2.2.2.2.2) else g_X12_readsRecipe_19 (g_X12_readsRecipe_10 n) FU t u1.2.1 (nI N) u1.2.2.1 u1.2.2.2.1 u1.2.2.2.2.1 u1.2.2.2.2.2.1 u1.2.2.2.2.2.2.1 u1.2.2.2.2.2.2.2.1 u1.2.2.2.2.2.2.2.2.1 u1.2.2.2.2.2.2.2.2.2.1 u1.2.2.2.2.2.2.2.2.2.2.1 u1.2.2.2.2.2.2.2.2.2.2.2))) := by
      intro o ho
      unfold f_X4_readDouble g_X4_readDouble_0 g_X12_readsAct_177 f_X12_readsTwo g_X12_readsTwo_0
      rcases vat_both (t := t) (N := N) (p := p + 1) hN (by omega) fx fl lt with ⟨v, hv, hvN, e1, e2⟩ | ⟨e1, l, e2⟩
      · rw [e1, e2, Option.bind_some, Option.bind_some, if_neg (show ¬ nI v = -1 from fun z => by
          rw [i_eq, nI_toInt (by omega)] at z
          have e2 : (-1 : Int32).toInt = -1 := rfl
          omega), if_neg (show ¬ (1 : Int32) = 0 by decide)]
        dsimp only
        rcases vat_both (t := t) (N := N) (p := p + 1 + 1) hN (by omega) fx fl (nI v) with ⟨v', hv', hvN', e1', e2'⟩ | ⟨e1', l', e2'⟩
        · rw [e1', e2', Option.bind_some, Option.bind_some, if_neg (show ¬ (1 : Int32) = 0 by decide)]
          unfold g_X4_readDouble_18
          dsimp only
          rw [if_neg (show ¬ nI v' = -1 from fun z => by
            rw [i_eq, nI_toInt (by omega)] at z
            have e2 : (-1 : Int32).toInt = -1 := rfl
            omega), xr_add (by omega) (show ¬ nI o = 6 from fun z => by have := (nI_eq (b := 6) (by omega) (by omega)).mp z; omega), m_puts (by omega), Option.bind_some, Option.bind_some, Option.bind_some, Option.bind_some]
          dsimp only
          rw [if_pos (by decide), if_pos (by decide), Option.bind_some, if_neg (show ¬ (1 : Int32) = 0 by decide)]
          have ex : xop o = o := by unfold xop; rw [if_neg (by omega), if_neg (by omega)]
          exact RA_one (o := o) (x := v) (y := v') (by omega) hv hv' (show c + 1 ≤ p + 1 + 1 + 1 by omega) (by omega) (by omega) hn hfr trivial (by rw [ex]) rfl
        · rw [e1', e2', Option.bind_some, Option.bind_some, if_pos rfl]
          unfold g_X4_readDouble_18
          dsimp only
          rw [if_pos rfl]
          exact RA_fault (ft 1 (p + 1 + 1)) ⟨_, rfl, rfl, rfl⟩ ⟨_, rfl, rfl, rfl⟩
      · rw [e1, e2, Option.bind_some, Option.bind_some, if_pos rfl, if_pos rfl]
        unfold g_X4_readDouble_18
        rw [if_pos rfl]
        exact RA_fault (ft 1 (p + 1)) ⟨_, rfl, rfl, rfl⟩ ⟨_, rfl, rfl, rfl⟩
    rcases hbg with h | h | h | h | h | h | h
    · rw [h, if_pos rfl, if_neg (by decide), if_pos rfl]
      exact hsing 0 (by omega)
    · rw [h, if_neg (by decide), if_neg (by decide), if_neg (by decide), if_pos rfl, if_neg (by decide), if_neg (by decide), if_pos rfl]
      exact hsing 1 (by omega)
    · rw [h, if_neg (by decide), if_neg (by decide), if_pos rfl, if_neg (by decide), if_neg (by decide), if_neg (by decide), if_pos rfl]
      exact hdoub 2 (by omega)
    · rw [h, if_neg (by decide), if_pos rfl, if_neg (by decide), if_neg (by decide), if_neg (by decide), if_neg (by decide)]
      exact hdoub 3 (by omega)
    · exact absurd h s5
    · exact absurd h s6
    · rw [h, if_neg (by decide), if_neg (by decide), if_neg (by decide), if_neg (by decide), if_pos rfl, xr_add (by omega) (by decide), m_puts (by omega), Option.bind_some, Option.bind_some, Option.bind_some, if_neg (show ¬ (1 : Int32) = 0 by decide)]
      exact RA_one (o := 6) (x := 0) (y := 0) (by omega) (by omega) (by omega) (show c + 1 ≤ p + 1 by omega) (by omega) (by omega) hn hfr trivial rfl rfl
  · have hX : f_X4_readAct K (nI fr) yc y1 y2 yo (nI c) ac t (nI p) (nI N) fx = some (0, yc, y1, y2, yo, nI c, ac, nI p, ft 1 p) := by
      unfold f_X4_readAct g_X4_readAct_0
      rw [x_sgn hN (by omega), Option.bind_some, x_bg, if_neg hbg, Option.bind_some, if_pos rfl]
      rfl
    exact RA_fault (ft 1 p) ⟨_, hX, rfl, rfl⟩ (MA_wrong hN (by omega) hbg f n)
end ACTR
