/-! specs: products and sums of both -/
section LOOPS
variable {t : Nat → Int32} {N : Nat}
theorem SpS_up {L N w c p : Nat} {yc yw cs ws : Nat → Int32} {c' p' n' cm wm : Nat} {yc' yw' csm cs' ws' : Nat → Int32} (h : SpS L N w c p yc yw cs ws c' p' n' cm wm yc' yw' csm cs' ws') (hL : L ≤ 1) : SpS (L + 1) N w c p yc yw cs ws c' p' n' cm wm yc' yw' csm cs' ws' := by
  obtain ⟨⟨e, e1, e2⟩, g1, g2, g3⟩ := h
  exact ⟨⟨e, by omega, fun s _ fu => e2 s (Or.inl hL) fu⟩, g1, by omega, g3⟩

theorem fs_loop (hN : N ≤ 120) {op : Nat} (hop : op ≤ 6) {K : KX} (hK : op < 6 → KT t N (op + 1) K) {b w c p : Nat} {yc yw cs ws : Nat → Int32} (hc : c ≤ p) (hw : w ≤ p) (hb : b ≤ w) (ht : sTp ws w < 4 ∨ 6 < sTp ws w) : ∀ (fu j c1 p1 n1 cm wm : Nat) (yc1 yw1 csm cs1 ws1 : Nat → Int32) (fx1 fm1 lt1 : Int32), N < fu + p1 → j < p1 → SpS 1 N w c p yc yw cs ws c1 p1 n1 cm wm yc1 yw1 csm cs1 ws1 → (fun _ => True) (sgn t N p1) → SpQ 1 (fun x => ¬ isP x) t N b op w c p yc yw cs ws (g_X7_readFactors_8 K fu (nI op) 1 (nI j) yc1 yw1 (nI c1) t (nI p1) (nI N) fx1) (g_X12_readsSum_14 n1 (nI b) t (nI p1) (nI N) fm1 (nI op) (nI cm) (nI wm) lt1 csm ws1) := by
  intro fu
  induction fu with
  | zero =>
    intro j c1 p1 n1 cm wm yc1 yw1 csm cs1 ws1 fx1 fm1 lt1 h1 h2 h3
    obtain ⟨-, -, -, -, ⟨-, -, -, h4, -⟩, -⟩ := h3
    omega
  | succ fu ih =>
    intro j c1 p1 n1 cm wm yc1 yw1 csm cs1 ws1 fx1 fm1 lt1 h1 h2 h3 h4
    have h3' := h3
    obtain ⟨⟨e, e1, e2⟩, g1, g2, g3, g4, g5, g6, g7⟩ := h3
    have gF := g4
    obtain ⟨a1, a2, a3, a4, a5, a6, a7⟩ := gF
    have h10 : ¬ (1 : Int32) = 0 := by decide
    have hpk : p1 ≤ 1000 := by omega
    have hj : ¬ (120 : Int32) ≤ nI j := fun z => by have := (nI_leI (a := 120) (by omega) (by omega)).mp z; omega
    simp only [g_X7_readFactors_8, if_neg hj, if_neg h10, x_sgn hN hpk, Option.bind_some, x_isP]
    by_cases hx : isP (sgn t N p1)
    · obtain ⟨o, ho, eo, em⟩ : ∃ o, (4 ≤ o ∧ o ≤ 6) ∧ sgn t N p1 = nI (xsp o) ∧ f_X12_sumSign (sgn t N p1) = some (nI o) := by
        rcases m_sumS (sgn t N p1) with ⟨z, -⟩ | ⟨-, o, z1, z2, z3, z4⟩ | ⟨-, z, -⟩
        · exact absurd hx (by rcases z with z | z <;> rw [z] <;> decide)
        · exact ⟨o, ⟨z1, z2⟩, z3, z4⟩
        · exact absurd hx z
      have hlt : p1 < N := sgn_lt (fun z => by rw [z] at hx; exact absurd hx (by decide))
      obtain ⟨k, rfl⟩ : ∃ q, n1 = q + 1 := ⟨n1 - 1, by omega⟩
      have hcl : f_X12_closesSums 0 (nI cm) (nI wm) csm ws1 = some (nI c1, nI w, cs1) := by
        have e3 := e2 0 (by first | exact Or.inr rfl | exact Or.inl (by omega)) (999997 + (2 - e) + 1)
        rw [show 999997 + (2 - e) + 1 + e = FU by unfold FU; omega] at e3
        unfold f_X12_closesSums
        rw [e3]
        exact cl_stop0 (by omega) (by rw [sTp_eq a5]; exact ht)
      have em1 : ¬ nI o = -1 := fun z => by
        rw [i_eq, nI_toInt (by omega)] at z
        have e5 : (-1 : Int32).toInt = -1 := rfl
        omega
      have hv : vin (nI w) 180 = true := vin_nI (by omega) (by omega)
      have hmul : (1048576 : Int32) * nI o = nI (1048576 * o + 0) := by rw [show (1048576 : Int32) = nI 1048576 from rfl, pk_mul]; rfl
      have eM : g_X12_readsSum_14 (k + 1) (nI b) t (nI p1) (nI N) fm1 (nI op) (nI cm) (nI wm) lt1 csm ws1 = MF FU k (nI b) t (nI (p1 + 1)) (nI N) fm1 (nI op) (nI c1) (nI (w + 1)) lt1 cs1 (upd ws1 w (nI (1048576 * o + 0))) := by
        have h4o : (4 : Int32) ≤ nI o := (nI_leI (a := 4) (by omega) (by omega)).mpr ho.1
        simp only [g_X12_readsSum_14, m_sgn hN hpk, Option.bind_some, em, if_neg em1, if_pos h4o, g_X12_readsSum_38, hcl, hv, if_true, nc w (show w < 2 ^ 31 by omega), hmul, nI_p]
        rfl
      rw [eM]
      simp only [if_pos hx, if_neg h10, xs_skip, Option.bind_some]
      have hD1 : spB yc1 c1 = false := g7
      rcases factor_Q (t := t) (b := b) (w := w + 1) (c := c1) (p := p1 + 1) (yc := yc1) (yw := yw1) (cs := cs1) (ws := upd ws1 w (nI (1048576 * o + 0))) (f := FU) (n := k) hN hop hK fx1 fm1 lt1 (by unfold FU; omega) (by omega) (by omega) (by omega) (by omega) (by omega) hD1 with ⟨u, v, u1, u2, v1, v2, u3, k', k1, k2⟩ | ⟨c2, p2, n2, cm2, wm2, yc2, yw2, csm2, cs2, ws2, fx2, fm2, lt2, q1, q2, q3, q4⟩
      · left
        obtain ⟨i', yc', yw', kk, r1, r2⟩ := xs_any k1 (sgn t N p1) 0 u.2.1 u.2.2.1
        have hfu : 0 < fu := by omega
        obtain ⟨fu, rfl⟩ : ∃ q, fu = q + 1 := ⟨fu - 1, by omega⟩
        rw [u1, Option.bind_some, k2, r1, Option.bind_some, u2, v1]
        simp only [g_X7_readFactors_8, if_true, show zB 0 = true by decide]
        by_cases hj2 : (120 : Int32) ≤ nI j + 1
        · rw [if_pos hj2]
          exact ⟨_, v, rfl, rfl, rfl, v2, u3, kk, r2, rfl⟩
        · rw [if_neg hj2]
          exact ⟨_, v, rfl, rfl, rfl, v2, u3, kk, r2, rfl⟩
      · obtain ⟨⟨e', e1', e2'⟩, g1', g2', g3', g4', g5', g6', g7'⟩ := q4
        have gF' := g4'
        obtain ⟨b1, b2, b3, b4, b5, b6, b7⟩ := gF'
        have hwo : ws2 w = nI (1048576 * o + 0) := by rw [b5 w (by omega), upd_same]
        have hdiv : ws2 w / 1048576 = nI o := by rw [hwo]; exact (row14 (by omega) (by omega)).1
        rw [q1, q2, Option.bind_some]
        dsimp only
        rw [xs_add (by omega), Option.bind_some, nI_p]
        dsimp only
        rw [eo]
        have hDc : spD yc2 c2 = spD yc c + 2 := by rw [g6', g6]
        refine ih (j + 1) (c2 + 1) p2 n2 cm2 wm2 (upd yc2 c2 (nI (xsp o))) (upd yw2 c2 0) csm2 (upd cs2 c2 (nI (1048576 * o + 0))) ws2 fx2 fm2 lt2 (by omega) (by omega) ⟨⟨e' + 1, by omega, fun s hs fu => ?_⟩, by omega, by omega, fun i hi1 hi2 => ?_, SpF_op g4 g4' ⟨o, 0, upd_same _ _ _, upd_same _ _ _, fun _ => by rw [upd_same]; rfl, by omega, fun h => by omega, fun h => by omega, fun _ => rfl, fun _ => ?_, fun _ => ?_, fun h => by omega, fun h => by omega, fun h => by omega⟩, by omega, ?_, ?_⟩ trivial
        · rw [show fu + (e' + 1) = fu + 1 + e' by omega, e2' s (Or.inl (by omega)) (fu + 1)]
          exact cl_pop (by omega) (by omega) (by omega) (Or.inl (by omega)) hwo
        · by_cases hiw : i = w
          · rw [hiw, hdiv]
            intro z
            have := (nI_eq (b := 14) (by omega) (by omega)).mp z
            omega
          · exact g3' i (by omega) hi2
        · rw [(spD_upd (Nat.le_refl c2) _).2]; exact g7'
        · rw [(spD_upd (Nat.le_refl c2) _).1, hDc]; omega
        · rw [(spD_next _).1, hDc]
          rcases (show o = 2 ∨ o = 3 ∨ o = 4 ∨ o = 5 ∨ o = 6 by omega) with rfl | rfl | rfl | rfl | rfl <;> rfl
        · rw [(spD_next _).2]
          rcases (show o = 2 ∨ o = 3 ∨ o = 4 ∨ o = 5 ∨ o = 6 by omega) with rfl | rfl | rfl | rfl | rfl <;> rfl
    · right
      refine ⟨c1, p1, n1, cm, wm, yc1, yw1, csm, cs1, ws1, fx1, fm1, lt1, ?_, rfl, hx, h3'⟩
      rw [if_neg hx, if_pos rfl, if_pos (show zB 1 = true by decide)]

theorem factors_Q (hN : N ≤ 120) {op : Nat} (hop : op ≤ 6) {K : KX} (hK : op < 6 → KT t N (op + 1) K) {f n b w c p : Nat} {yc yw cs ws : Nat → Int32} (fx fl lt : Int32) (hf : 7 - op ≤ f) (hn : N < n + p) (hc : c ≤ p) (hw : w ≤ p) (hp : p ≤ N) (hb : b ≤ w) (hB : spB yc c = false) (ht : sTp ws w < 4 ∨ 6 < sTp ws w) : SpQ 1 (fun x => ¬ isP x) t N b op w c p yc yw cs ws (f_X7_readFactors K (nI op) yc yw (nI c) t (nI p) (nI N) fx) (MF f n (nI b) t (nI p) (nI N) fl (nI op) (nI c) (nI w) lt cs ws) := by
  unfold f_X7_readFactors g_X7_readFactors_0
  rcases factor_Q hN hop hK fx fl lt hf hn hc hw hp hb hB (cs := cs) (ws := ws) (yw := yw) with ⟨u, v, u1, u2, v1, v2, u3, k', k1, k2⟩ | ⟨c', p', n', cm, wm, yc', yw', csm, cs', ws', fx', fm', lt', q1, q2, q3, q4⟩
  · left
    have e0 : ∀ fu, g_X7_readFactors_8 K (fu + 1) (nI op) 0 0 u.2.1 u.2.2.1 u.2.2.2.1 t u.2.2.2.2.1 (nI N) u.2.2.2.2.2 = some (0, u.2.1, u.2.2.1, u.2.2.2.1, u.2.2.2.2.1, u.2.2.2.2.2) := by
      intro fu
      simp only [g_X7_readFactors_8, if_neg (show ¬ (120 : Int32) ≤ 0 by decide), if_true, show zB 0 = true by decide]
    have e1 : g_X7_readFactors_8 K FU (nI op) 0 0 u.2.1 u.2.2.1 u.2.2.2.1 t u.2.2.2.2.1 (nI N) u.2.2.2.2.2 = _ := e0 999999
    rw [u1, v1, Option.bind_some, u2, e1]
    exact ⟨_, v, rfl, rfl, rfl, v2, u3, k', k1, k2⟩
  · rw [q1, q2, Option.bind_some]
    exact fs_loop hN hop hK hc hw hb ht FU 0 c' p' n' cm wm yc' yw' csm cs' ws' fx' fm' lt' (by unfold FU; omega) (by have := q4.2.2.2.2.1.2.2.1; omega) (SpS_up q4 (by omega)) trivial

theorem ts_loop (hN : N ≤ 120) {op : Nat} (hop : op ≤ 6) {K : KX} (hK : op < 6 → KT t N (op + 1) K) {b w c p : Nat} {yc yw cs ws : Nat → Int32} (hc : c ≤ p) (hw : w ≤ p) (hb : b ≤ w) (ht : sTp ws w < 2 ∨ 6 < sTp ws w) : ∀ (fu j c1 p1 n1 cm wm : Nat) (yc1 yw1 csm cs1 ws1 : Nat → Int32) (fx1 fm1 lt1 : Int32), N < fu + p1 → j < p1 → SpS 2 N w c p yc yw cs ws c1 p1 n1 cm wm yc1 yw1 csm cs1 ws1 → (fun x => ¬ isP x) (sgn t N p1) → SpQ 2 (fun x => ¬ isS x ∧ ¬ isP x) t N b op w c p yc yw cs ws (g_X7_readTerms_8 K fu (nI op) 1 (nI j) yc1 yw1 (nI c1) t (nI p1) (nI N) fx1) (g_X12_readsSum_14 n1 (nI b) t (nI p1) (nI N) fm1 (nI op) (nI cm) (nI wm) lt1 csm ws1) := by
  intro fu
  induction fu with
  | zero =>
    intro j c1 p1 n1 cm wm yc1 yw1 csm cs1 ws1 fx1 fm1 lt1 h1 h2 h3
    obtain ⟨-, -, -, -, ⟨-, -, -, h4, -⟩, -⟩ := h3
    omega
  | succ fu ih =>
    intro j c1 p1 n1 cm wm yc1 yw1 csm cs1 ws1 fx1 fm1 lt1 h1 h2 h3 h4
    have h3' := h3
    obtain ⟨⟨e, e1, e2⟩, g1, g2, g3, g4, g5, g6, g7⟩ := h3
    have gF := g4
    obtain ⟨a1, a2, a3, a4, a5, a6, a7⟩ := gF
    have h10 : ¬ (1 : Int32) = 0 := by decide
    have hpk : p1 ≤ 1000 := by omega
    have hj : ¬ (120 : Int32) ≤ nI j := fun z => by have := (nI_leI (a := 120) (by omega) (by omega)).mp z; omega
    simp only [g_X7_readTerms_8, if_neg hj, if_neg h10, x_sgn hN hpk, Option.bind_some, x_isS]
    by_cases hx : isS (sgn t N p1)
    · obtain ⟨o, ho, eo, em⟩ : ∃ o, (o = 2 ∨ o = 3) ∧ sgn t N p1 = nI (xsp o) ∧ f_X12_sumSign (sgn t N p1) = some (nI o) := by
        rcases m_sumS (sgn t N p1) with ⟨-, o, z1, z3, z4⟩ | ⟨z, -⟩ | ⟨z, -⟩
        · exact ⟨o, z1, z3, z4⟩
        · exact absurd z h4
        · exact absurd hx z
      have hlt : p1 < N := sgn_lt (fun z => by rw [z] at hx; exact absurd hx (by decide))
      obtain ⟨k, rfl⟩ : ∃ q, n1 = q + 1 := ⟨n1 - 1, by omega⟩
      have hcl : f_X12_closesSums 1 (nI cm) (nI wm) csm ws1 = some (nI c1, nI w, cs1) := by
        have e3 := e2 1 (by first | exact Or.inr rfl | exact Or.inl (by omega)) (999997 + (2 - e) + 1)
        rw [show 999997 + (2 - e) + 1 + e = FU by unfold FU; omega] at e3
        unfold f_X12_closesSums
        rw [e3]
        exact cl_stop (by omega) (by rw [sTp_eq a5]; exact ht)
      have em1 : ¬ nI o = -1 := fun z => by
        rw [i_eq, nI_toInt (by omega)] at z
        have e5 : (-1 : Int32).toInt = -1 := rfl
        omega
      have hv : vin (nI w) 180 = true := vin_nI (by omega) (by omega)
      have hmul : (1048576 : Int32) * nI o = nI (1048576 * o + 0) := by rw [show (1048576 : Int32) = nI 1048576 from rfl, pk_mul]; rfl
      have eM : g_X12_readsSum_14 (k + 1) (nI b) t (nI p1) (nI N) fm1 (nI op) (nI cm) (nI wm) lt1 csm ws1 = MF FU k (nI b) t (nI (p1 + 1)) (nI N) fm1 (nI op) (nI c1) (nI (w + 1)) lt1 cs1 (upd ws1 w (nI (1048576 * o + 0))) := by
        have h4o : ¬ (4 : Int32) ≤ nI o := fun z => by have := (nI_leI (a := 4) (by omega) (by omega)).mp z; omega
        simp only [g_X12_readsSum_14, m_sgn hN hpk, Option.bind_some, em, if_neg em1, if_neg h4o, g_X12_readsSum_38, hcl, hv, if_true, nc w (show w < 2 ^ 31 by omega), hmul, nI_p]
        rfl
      rw [eM]
      simp only [if_pos hx, if_neg h10, xs_skip, Option.bind_some]
      have hD1 : spB yc1 c1 = false := g7
      rcases factors_Q (t := t) (b := b) (w := w + 1) (c := c1) (p := p1 + 1) (yc := yc1) (yw := yw1) (cs := cs1) (ws := upd ws1 w (nI (1048576 * o + 0))) (f := FU) (n := k) hN hop hK fx1 fm1 lt1 (by unfold FU; omega) (by omega) (by omega) (by omega) (by omega) (by omega) hD1 (by rw [sTp_s (o := o) (v := 0) (by omega) (by omega) (upd_same _ _ _)]; exact Or.inl ((nI_ltI (b := 4) (by omega) (by omega)).mpr (by omega))) with ⟨u, v, u1, u2, v1, v2, u3, k', k1, k2⟩ | ⟨c2, p2, n2, cm2, wm2, yc2, yw2, csm2, cs2, ws2, fx2, fm2, lt2, q1, q2, q3, q4⟩
      · left
        obtain ⟨i', yc', yw', kk, r1, r2⟩ := xs_any k1 (sgn t N p1) 0 u.2.1 u.2.2.1
        have hfu : 0 < fu := by omega
        obtain ⟨fu, rfl⟩ : ∃ q, fu = q + 1 := ⟨fu - 1, by omega⟩
        rw [u1, Option.bind_some, k2, r1, Option.bind_some, u2, v1]
        simp only [g_X7_readTerms_8, if_true, show zB 0 = true by decide]
        by_cases hj2 : (120 : Int32) ≤ nI j + 1
        · rw [if_pos hj2]
          exact ⟨_, v, rfl, rfl, rfl, v2, u3, kk, r2, rfl⟩
        · rw [if_neg hj2]
          exact ⟨_, v, rfl, rfl, rfl, v2, u3, kk, r2, rfl⟩
      · obtain ⟨⟨e', e1', e2'⟩, g1', g2', g3', g4', g5', g6', g7'⟩ := q4
        have gF' := g4'
        obtain ⟨b1, b2, b3, b4, b5, b6, b7⟩ := gF'
        have hwo : ws2 w = nI (1048576 * o + 0) := by rw [b5 w (by omega), upd_same]
        have hdiv : ws2 w / 1048576 = nI o := by rw [hwo]; exact (row14 (by omega) (by omega)).1
        rw [q1, q2, Option.bind_some]
        dsimp only
        rw [xs_add (by omega), Option.bind_some, nI_p]
        dsimp only
        rw [eo]
        have hDc : spD yc2 c2 = spD yc c + 2 := by rw [g6', g6]
        refine ih (j + 1) (c2 + 1) p2 n2 cm2 wm2 (upd yc2 c2 (nI (xsp o))) (upd yw2 c2 0) csm2 (upd cs2 c2 (nI (1048576 * o + 0))) ws2 fx2 fm2 lt2 (by omega) (by omega) ⟨⟨e' + 1, by omega, fun s hs fu => ?_⟩, by omega, by omega, fun i hi1 hi2 => ?_, SpF_op g4 g4' ⟨o, 0, upd_same _ _ _, upd_same _ _ _, fun _ => by rw [upd_same]; rfl, by omega, fun h => by omega, fun h => by omega, fun _ => rfl, fun _ => ?_, fun _ => ?_, fun h => by omega, fun h => by omega, fun h => by omega⟩, by omega, ?_, ?_⟩ q3
        · rw [show fu + (e' + 1) = fu + 1 + e' by omega, e2' s (Or.inl (by omega)) (fu + 1)]
          exact cl_pop (by omega) (by omega) (by omega) (Or.inr (by rcases hs with z | z; omega; exact z)) hwo
        · by_cases hiw : i = w
          · rw [hiw, hdiv]
            intro z
            have := (nI_eq (b := 14) (by omega) (by omega)).mp z
            omega
          · exact g3' i (by omega) hi2
        · rw [(spD_upd (Nat.le_refl c2) _).2]; exact g7'
        · rw [(spD_upd (Nat.le_refl c2) _).1, hDc]; omega
        · rw [(spD_next _).1, hDc]
          rcases (show o = 2 ∨ o = 3 ∨ o = 4 ∨ o = 5 ∨ o = 6 by omega) with rfl | rfl | rfl | rfl | rfl <;> rfl
        · rw [(spD_next _).2]
          rcases (show o = 2 ∨ o = 3 ∨ o = 4 ∨ o = 5 ∨ o = 6 by omega) with rfl | rfl | rfl | rfl | rfl <;> rfl
    · right
      refine ⟨c1, p1, n1, cm, wm, yc1, yw1, csm, cs1, ws1, fx1, fm1, lt1, ?_, rfl, ⟨hx, h4⟩, h3'⟩
      rw [if_neg hx, if_pos rfl, if_pos (show zB 1 = true by decide)]

theorem terms_Q (hN : N ≤ 120) {op : Nat} (hop : op ≤ 6) {K : KX} (hK : op < 6 → KT t N (op + 1) K) : KT t N op (g_X7_readTerms_0 K) := by
  intro f n b w c p yc yw cs ws fx fl lt hf hn hc hw hp hb hB ht
  unfold g_X7_readTerms_0
  have ht' : sTp ws w < 4 ∨ 6 < sTp ws w := by
    rcases ht with z | z
    · exact Or.inl (by rw [Int32.lt_iff_toInt_lt] at *; have e2 : (2 : Int32).toInt = 2 := rfl; have e4 : (4 : Int32).toInt = 4 := rfl; omega)
    · exact Or.inr z
  rcases factors_Q hN hop hK fx fl lt hf hn hc hw hp hb hB ht' (cs := cs) (yw := yw) with ⟨u, v, u1, u2, v1, v2, u3, k', k1, k2⟩ | ⟨c', p', n', cm, wm, yc', yw', csm, cs', ws', fx', fm', lt', q1, q2, q3, q4⟩
  · left
    have e0 : ∀ fu, g_X7_readTerms_8 K (fu + 1) (nI op) 0 0 u.2.1 u.2.2.1 u.2.2.2.1 t u.2.2.2.2.1 (nI N) u.2.2.2.2.2 = some (0, u.2.1, u.2.2.1, u.2.2.2.1, u.2.2.2.2.1, u.2.2.2.2.2) := by
      intro fu
      simp only [g_X7_readTerms_8, if_neg (show ¬ (120 : Int32) ≤ 0 by decide), if_true, show zB 0 = true by decide]
    have e1 : g_X7_readTerms_8 K FU (nI op) 0 0 u.2.1 u.2.2.1 u.2.2.2.1 t u.2.2.2.2.1 (nI N) u.2.2.2.2.2 = _ := e0 999999
    rw [u1, v1, Option.bind_some, u2, e1]
    exact ⟨_, v, rfl, rfl, rfl, v2, u3, k', k1, k2⟩
  · rw [q1, q2, Option.bind_some]
    exact ts_loop hN hop hK hc hw hb ht FU 0 c' p' n' cm wm yc' yw' csm cs' ws' fx' fm' lt' (by unfold FU; omega) (by have := q4.2.2.2.2.1.2.2.1; omega) (SpS_up q4 (by omega)) q3
theorem terms_all (hN : N ≤ 120) : ∀ (d op : Nat), op ≤ 6 → 7 - op ≤ d → KT t N op (f_X7_readTerms d) := by
  intro d
  induction d with
  | zero => intro op h1 h2; omega
  | succ d ih =>
    intro op h1 h2
    exact terms_Q hN h1 (fun h6 => ih (op + 1) (by omega) (by omega))
end LOOPS
