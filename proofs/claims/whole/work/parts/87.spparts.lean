/-! specs: parts and choices of both -/
section LAND
variable {c w fu : Nat} {cs ws : Nat → Int32} {s : Int32}
theorem ld_stop0 (hw : w ≤ 180) (h : ¬ sTp ws w = 11) : g_X12_lands_0 (fu + 1) 0 (nI c) (nI w) cs ws = some (nI w, cs) := by
  simp only [g_X12_lands_0, ms_top hw, Option.bind_some, if_neg h, if_true]
theorem ld_stop (hw : w ≤ 180) (h : ¬ sTp ws w = 11) (h' : ¬ sTp ws w = 12) : g_X12_lands_0 (fu + 1) 1 (nI c) (nI w) cs ws = some (nI w, cs) := by
  simp only [g_X12_lands_0, ms_top hw, Option.bind_some, if_neg h, if_neg (show ¬ (1 : Int32) = 0 by decide), if_neg h']
theorem ld_pop {o i : Nat} (hw : w < 180) (hc : c ≤ 120) (hi : i < 120) (ho : o = 11 ∨ (o = 12 ∧ s = 1)) (h : ws w = nI (1048576 * o + i)) (hcs : cs i = nI (1048576 * o + 0)) : g_X12_lands_0 (fu + 1) s (nI c) (nI (w + 1)) cs ws = g_X12_lands_0 fu s (nI c) (nI w) (upd cs i (nI (1048576 * o + c))) ws := by
  have ho14 : o ≤ 14 := by omega
  have ht := sTp_s (w := w) (ws := ws) (o := o) (v := i) ho14 (by omega) h
  have hr := row14 (o := o) (v := i) ho14 (by omega)
  have hr' := row14 (o := o) (v := 0) ho14 (by omega)
  have e22 : g_X12_lands_22 (g_X12_lands_0 fu) s (nI c) (nI (w + 1)) cs ws = g_X12_lands_0 fu s (nI c) (nI w) (upd cs i (nI (1048576 * o + c))) ws := by
    unfold g_X12_lands_22
    rw [show nI (w + 1) - 1 = nI w from nI_m (by omega), if_pos (vin_nI hw (by omega)), nc w (by omega), h, hr.2, if_pos (vin_nI (by omega) (by omega)), nc i (by omega), hcs, hr'.1, show (1048576 : Int32) * nI o = nI (1048576 * o) by rw [show (1048576 : Int32) = nI 1048576 from rfl, pk_mul], nI_add]
  simp only [g_X12_lands_0, ms_top (show w + 1 ≤ 180 by omega), Option.bind_some, ht]
  rcases ho with rfl | ⟨rfl, rfl⟩
  · rw [if_pos (show nI 11 = 11 from rfl), e22]
  · rw [if_neg (show ¬ nI 12 = 11 by decide), if_neg (show ¬ (1 : Int32) = 0 by decide), if_pos (show nI 12 = 12 from rfl), e22]
theorem ms_jumps (hw : w < 180) (hc : c < 180) (o p : Nat) : f_X12_jumps (nI o) (nI p) (nI c) (nI w) cs ws = some (nI (p + 1), nI (c + 1), nI (w + 1), upd cs c (nI (1048576 * o + 0)), upd ws w (nI (1048576 * o + c))) := by
  unfold f_X12_jumps g_X12_jumps_0
  have hn : f_X12_notes (nI o) 0 (nI c) cs = _ := ms_note hc o 0
  rw [if_pos (vin_nI hw (by omega)), hn, Option.bind_some, nc w (by omega), nI_p, nI_p, show (1048576 : Int32) = nI 1048576 from rfl, pk_mul, nI_add]
end LAND
/-- what stands when both have read on; the reference's waiting leaps are led to here -/
def SpL (L N w c p : Nat) (yc yw cs ws : Nat → Int32) (c' p' n' m' wm : Nat) (yc' yw' csm cs' ws' : Nat → Int32) : Prop := (∃ e, e ≤ L ∧ ∀ s : Int32, (L ≤ 1 ∨ s = 1) → ∀ fu, g_X12_lands_0 (fu + e) s (nI c') (nI wm) csm ws' = g_X12_lands_0 fu s (nI c') (nI w) cs' ws') ∧ w ≤ wm ∧ wm ≤ w + L ∧ (∀ i, w ≤ i → i < wm → ¬ ws' i / 1048576 = 13) ∧ SpF N w c p yc yw cs ws c' p' yc' yw' cs' ws' ∧ N < n' + p' ∧ N < m' + p' ∧ spD yc' c' = 1 ∧ spB yc' c' = true
def SpC (L : Nat) (q : Int32 → Prop) (t : Nat → Int32) (N op w c p : Nat) (yc yw cs ws : Nat → Int32) (X : Option XT) (M : Option MT) : Prop := Flt X M ∨ ∃ (c' p' n' m' wm : Nat) (yc' yw' csm cs' ws' : Nat → Int32) (fx' fm' lt' : Int32), X = some (1, yc', yw', nI c', nI p', fx') ∧ M = g_X12_readsSpec_62 (g_X12_readsSpec_10 n') m' t (nI p') (nI N) fm' (nI op) (nI c') (nI wm) lt' csm ws' ∧ q (sgn t N p') ∧ SpL L N w c p yc yw cs ws c' p' n' m' wm yc' yw' csm cs' ws'
theorem SpL_up {L N w c p : Nat} {yc yw cs ws : Nat → Int32} {c' p' n' m' wm : Nat} {yc' yw' csm cs' ws' : Nat → Int32} (h : SpL L N w c p yc yw cs ws c' p' n' m' wm yc' yw' csm cs' ws') (hL : L ≤ 1) : SpL (L + 1) N w c p yc yw cs ws c' p' n' m' wm yc' yw' csm cs' ws' := by
  obtain ⟨⟨e, e1, e2⟩, g1, g2, g3⟩ := h
  exact ⟨⟨e, by omega, fun s _ fu => e2 s (Or.inl hL) fu⟩, g1, by omega, g3⟩
section PARTS
variable {t : Nat → Int32} {N : Nat}
/-- a piece, where nothing waits to be turned round -/
theorem piece_C {op : Nat} {K : KX} (hK : KP t N op K) (hN : N ≤ 120) {n w c p : Nat} {yc yw cs ws : Nat → Int32} (fx fl lt : Int32) (hn : N < n + p) (hc : c ≤ p) (hw : w ≤ p) (hp : p ≤ N) (hD : spD yc c = 0) (hB : spB yc c = false) (ht : sTp ws w < 2 ∨ 6 < sTp ws w) (h10 : ¬ sTp ws w = 10) : SpC 0 (fun _ => True) t N op w c p yc yw cs ws (K (nI op) yc yw (nI c) t (nI p) (nI N) fx) (g_X12_readsSpec_10 n t (nI p) (nI N) fl (nI op) (nI c) (nI w) lt cs ws) := by
  rcases hK n w c p yc yw cs ws fx fl lt hn hc hw hp hD hB ht with z | ⟨c', p', e', n', m', yc', yw', cs', ws', fx', fm', lt', q1, q2, q3, q4, q5, q6, q7, q8⟩
  · exact Or.inl z
  · right
    refine ⟨c', p', n', m', w, yc', yw', cs', cs', ws', fx', fm', lt', q1, ?_, trivial, ⟨0, by omega, fun s _ fu => rfl⟩, by omega, by omega, fun i h1 h2 => by omega, q3, q4, q5, q7, q8⟩
    rw [q2]
    exact PE_stop (by omega) (by omega) (by rw [sTp_eq q3.2.2.2.2.1]; exact h10)

theorem ps_loop (hN : N ≤ 120) {op : Nat} {K : KX} (hK : KP t N op K) {w c p : Nat} {yc yw cs ws : Nat → Int32} (hc : c ≤ p) (hw : w ≤ p) (ht : sTp ws w = -1 ∨ sTp ws w = 12 ∨ sTp ws w = 13) : ∀ (fu j c1 p1 n1 m1 wm : Nat) (lp : Int32) (yc1 yw1 ywp csm cs1 ws1 : Nat → Int32) (fx1 fm1 lt1 : Int32), N < fu + p1 → j < p1 → f_X7_lead lp yw1 (nI c1) = some ywp → SpL 1 N w c p yc yw cs ws c1 p1 n1 m1 wm yc1 ywp csm cs1 ws1 → (fun _ => True) (sgn t N p1) → SpC 1 (fun x => ¬ x = 38) t N op w c p yc yw cs ws (g_X7_readPart_11 K fu (nI op) lp 1 (nI j) yc1 yw1 (nI c1) t (nI p1) (nI N) fx1) (g_X12_readsSpec_62 (g_X12_readsSpec_10 n1) m1 t (nI p1) (nI N) fm1 (nI op) (nI c1) (nI wm) lt1 csm ws1) := by
  intro fu
  induction fu with
  | zero =>
    intro j c1 p1 n1 m1 wm lp yc1 yw1 ywp csm cs1 ws1 fx1 fm1 lt1 h1 h2 hl h3
    obtain ⟨-, -, -, -, ⟨-, -, -, h4, -⟩, -⟩ := h3
    omega
  | succ fu ih =>
    intro j c1 p1 n1 m1 wm lp yc1 yw1 ywp csm cs1 ws1 fx1 fm1 lt1 h1 h2 hl h3 h4
    have h3' := h3
    obtain ⟨⟨e, e1, e2⟩, g1, g2, g3, g4, g5, g5', g6, g7⟩ := h3
    have gF := g4
    obtain ⟨a1, a2, a3, a4, a5, a6, a7⟩ := gF
    have h10 : ¬ (1 : Int32) = 0 := by decide
    have hpk : p1 ≤ 1000 := by omega
    have hj : ¬ (120 : Int32) ≤ nI j := fun z => by have := (nI_leI (a := 120) (by omega) (by omega)).mp z; omega
    simp only [g_X7_readPart_11, if_neg hj, if_neg h10, x_sgn hN hpk, Option.bind_some]
    by_cases hx : sgn t N p1 = 38
    · have hlt : p1 < N := sgn_lt (fun z => by rw [z] at hx; exact absurd hx (by decide))
      obtain ⟨k, rfl⟩ : ∃ q, m1 = q + 1 := ⟨m1 - 1, by omega⟩
      have hcl : f_X12_lands 0 (nI c1) (nI wm) csm ws1 = some (nI w, cs1) := by
        have e3 := e2 0 (by first | exact Or.inr rfl | exact Or.inl (by omega)) (999997 + (2 - e) + 1)
        rw [show 999997 + (2 - e) + 1 + e = FU by unfold FU; omega] at e3
        unfold f_X12_lands
        rw [e3]
        exact ld_stop0 (by omega) (by rw [sTp_eq a5]; exact fun z => by rw [z] at ht; exact absurd ht (by decide))
      have hne : ¬ nI p1 = nI N := fun z => by have := (nI_eq (by omega) (by omega)).mp z; omega
      have hjm : f_X12_jumps 11 (nI p1) (nI c1) (nI w) cs1 ws1 = _ := ms_jumps (by omega) (by omega) 11 p1
      have x41 : ¬ sgn t N p1 = 41 := by rw [hx]; decide
      have xo : ¬ sgn t N p1 = 124 := by rw [hx]; decide
      have eM : g_X12_readsSpec_62 (g_X12_readsSpec_10 n1) (k + 1) t (nI p1) (nI N) fm1 (nI op) (nI c1) (nI wm) lt1 csm ws1 = g_X12_readsSpec_10 n1 t (nI (p1 + 1)) (nI N) fm1 (nI op) (nI (c1 + 1)) (nI (w + 1)) lt1 (upd cs1 c1 (nI (1048576 * 11 + 0))) (upd ws1 w (nI (1048576 * 11 + c1))) := by
        simp only [g_X12_readsSpec_62, m_sgn hN hpk, Option.bind_some, if_neg x41, g_X12_readsSpec_120, if_neg hne, g_X12_readsSpec_145, if_pos hx, if_neg xo, g_X12_readsSpec_173, g_X12_readsSpec_188, hcl, g_X12_readsSpec_208, hjm]
      rw [eM]
      simp only [if_pos hx, hl, Option.bind_some, xs_add (show c1 < 120 by omega), xs_skip]
      have hDB := spD_next (yc := yc1) (c := c1) 3
      have hTp : sTp (upd ws1 w (nI (1048576 * 11 + c1))) (w + 1) = 11 := sTp_s (o := 11) (v := c1) (by omega) (by omega) (upd_same _ _ _)
      rcases piece_C (t := t) hK hN (n := n1) (w := w + 1) (c := c1 + 1) (p := p1 + 1) (yc := upd yc1 c1 3) (yw := upd ywp c1 0) (cs := upd cs1 c1 (nI (1048576 * 11 + 0))) (ws := upd ws1 w (nI (1048576 * 11 + c1))) fx1 fm1 lt1 (by omega) (by omega) (by omega) (by omega) hDB.1 hDB.2 (by rw [hTp]; decide) (by rw [hTp]; decide) with ⟨u, v, u1, u2, v1, v2, u3, k', k1, k2⟩ | ⟨c2, p2, n2, m2, wm2, yc2, yw2, csm2, cs2, ws2, fx2, fm2, lt2, q1, q2, q3, q4⟩
      · left
        have hfu : 0 < fu := by omega
        obtain ⟨fu, rfl⟩ : ∃ q, fu = q + 1 := ⟨fu - 1, by omega⟩
        rw [u1, Option.bind_some, u2, v1]
        simp only [g_X7_readPart_11, if_true, g_X7_readPart_68, xs_lead (show c1 < 120 by omega), Option.bind_some, show zB 0 = true by decide]
        by_cases hj2 : (120 : Int32) ≤ nI j + 1
        · rw [if_pos hj2]
          exact ⟨_, v, rfl, rfl, rfl, v2, u3, k', k1, k2⟩
        · rw [if_neg hj2]
          exact ⟨_, v, rfl, rfl, rfl, v2, u3, k', k1, k2⟩
      · obtain ⟨⟨e', e1', e2'⟩, g1', g2', g3', g4', g5a, g5b, g6', g7'⟩ := q4
        have gF' := g4'
        obtain ⟨b1, b2, b3, b4, b5, b6, b7⟩ := gF'
        have hwo : ws2 w = nI (1048576 * 11 + c1) := by rw [b5 w (by omega), upd_same]
        have hdiv : ws2 w / 1048576 = nI 11 := by rw [hwo]; exact (row14 (by omega) (by omega)).1
        obtain ⟨r1, r2, r3⟩ := b6 c1 (by omega)
        rw [upd_same] at r1 r2 r3
        rw [q1, q2, Option.bind_some, nI_p]
        dsimp only
        have hDc : spD yc2 c1 = 1 ∧ spB yc2 c1 = true := by
          obtain ⟨z1, z2⟩ := SpF_D g4' (i := c1) (by omega)
          obtain ⟨z3, z4⟩ := spD_upd (yc := yc1) (Nat.le_refl c1) 3
          exact ⟨z1.trans (z3.trans g6), z2.trans (z4.trans g7)⟩
        refine ih (j + 1) c2 p2 n2 m2 wm2 (nI c1) yc2 yw2 (upd yw2 c1 (nI c2)) csm2 (upd cs2 c1 (nI (1048576 * 11 + c2))) ws2 fx2 fm2 lt2 (by omega) (by omega) (xs_lead (by omega) _) ⟨⟨e' + 1, by omega, fun s hs fu => ?_⟩, by omega, by omega, fun i hi1 hi2 => ?_, SpF_jump g4 g4' ⟨11, c2, upd_same _ _ _, r1, fun _ => upd_same _ _ _, by omega, fun h => by omega, fun h => by omega, fun h => by omega, fun h => by omega, fun h => by omega, fun h => by omega, fun _ => hDc, fun _ => ⟨by omega, by omega, g6', g7'⟩⟩, g5a, g5b, g6', g7'⟩ trivial
        · rw [show fu + (e' + 1) = fu + 1 + e' by omega, e2' s (Or.inl (by omega)) (fu + 1)]
          exact ld_pop (by omega) (by omega) (by omega) (Or.inl rfl) hwo r3
        · by_cases hiw : i = w
          · rw [hiw, hdiv]
            decide
          · exact g3' i (by omega) hi2
    · right
      refine ⟨c1, p1, n1, m1, wm, yc1, ywp, csm, cs1, ws1, fx1, fm1, lt1, ?_, rfl, hx, h3'⟩
      rw [if_neg hx]
      unfold g_X7_readPart_68
      rw [hl, Option.bind_some, if_pos (show zB 1 = true by decide)]

theorem part_C (hN : N ≤ 120) {op : Nat} {K : KX} (hK : KP t N op K) {n w c p : Nat} {yc yw cs ws : Nat → Int32} (fx fl lt : Int32) (hn : N < n + p) (hc : c ≤ p) (hw : w ≤ p) (hp : p ≤ N) (hD : spD yc c = 0) (hB : spB yc c = false) (ht : sTp ws w = -1 ∨ sTp ws w = 12 ∨ sTp ws w = 13) : SpC 1 (fun x => ¬ x = 38) t N op w c p yc yw cs ws (f_X7_readPart K (nI op) yc yw (nI c) t (nI p) (nI N) fx) (g_X12_readsSpec_10 n t (nI p) (nI N) fl (nI op) (nI c) (nI w) lt cs ws) := by
  unfold f_X7_readPart g_X7_readPart_0
  rcases piece_C (t := t) hK hN (yw := yw) (cs := cs) fx fl lt hn hc hw hp hD hB (by rcases ht with z | z | z <;> rw [z] <;> decide) (fun z => by rw [z] at ht; exact absurd ht (by decide)) with ⟨u, v, u1, u2, v1, v2, u3, k', k1, k2⟩ | ⟨c', p', n', m', wm, yc', yw', csm, cs', ws', fx', fm', lt', q1, q2, q3, q4⟩
  · left
    have e0 : ∀ fu, g_X7_readPart_11 K (fu + 1) (nI op) (-1) 0 0 u.2.1 u.2.2.1 u.2.2.2.1 t u.2.2.2.2.1 (nI N) u.2.2.2.2.2 = some (0, u.2.1, u.2.2.1, u.2.2.2.1, u.2.2.2.2.1, u.2.2.2.2.2) := by
      intro fu
      simp only [g_X7_readPart_11, if_neg (show ¬ (120 : Int32) ≤ 0 by decide), if_true, g_X7_readPart_68, xs_lead0, Option.bind_some, show zB 0 = true by decide]
    have e1 : g_X7_readPart_11 K FU (nI op) (-1) 0 0 u.2.1 u.2.2.1 u.2.2.2.1 t u.2.2.2.2.1 (nI N) u.2.2.2.2.2 = _ := e0 999999
    rw [u1, v1, Option.bind_some, u2, e1]
    exact ⟨_, v, rfl, rfl, rfl, v2, u3, k', k1, k2⟩
  · rw [q1, q2, Option.bind_some]
    exact ps_loop hN hK hc hw ht FU 0 c' p' n' m' wm (-1) yc' yw' yw' csm cs' ws' fx' fm' lt' (by unfold FU; omega) (by have := q4.2.2.2.2.1.2.2.1; omega) (xs_lead0 _) (SpL_up q4 (by omega)) trivial

theorem cs_loop (hN : N ≤ 120) {op : Nat} {K : KX} (hK : KP t N op K) {w c p : Nat} {yc yw cs ws : Nat → Int32} (hc : c ≤ p) (hw : w ≤ p) (ht : sTp ws w = -1 ∨ sTp ws w = 13) : ∀ (fu j c1 p1 n1 m1 wm : Nat) (lp : Int32) (yc1 yw1 ywp csm cs1 ws1 : Nat → Int32) (fx1 fm1 lt1 : Int32), N < fu + p1 → j < p1 → f_X7_lead lp yw1 (nI c1) = some ywp → SpL 2 N w c p yc yw cs ws c1 p1 n1 m1 wm yc1 ywp csm cs1 ws1 → (fun x => ¬ x = 38) (sgn t N p1) → SpC 2 (fun x => ¬ x = 124 ∧ ¬ x = 38) t N op w c p yc yw cs ws (g_X7_readChoice_11 K fu (nI op) lp 1 (nI j) yc1 yw1 (nI c1) t (nI p1) (nI N) fx1) (g_X12_readsSpec_62 (g_X12_readsSpec_10 n1) m1 t (nI p1) (nI N) fm1 (nI op) (nI c1) (nI wm) lt1 csm ws1) := by
  intro fu
  induction fu with
  | zero =>
    intro j c1 p1 n1 m1 wm lp yc1 yw1 ywp csm cs1 ws1 fx1 fm1 lt1 h1 h2 hl h3
    obtain ⟨-, -, -, -, ⟨-, -, -, h4, -⟩, -⟩ := h3
    omega
  | succ fu ih =>
    intro j c1 p1 n1 m1 wm lp yc1 yw1 ywp csm cs1 ws1 fx1 fm1 lt1 h1 h2 hl h3 h4
    have h3' := h3
    obtain ⟨⟨e, e1, e2⟩, g1, g2, g3, g4, g5, g5', g6, g7⟩ := h3
    have gF := g4
    obtain ⟨a1, a2, a3, a4, a5, a6, a7⟩ := gF
    have h10 : ¬ (1 : Int32) = 0 := by decide
    have hpk : p1 ≤ 1000 := by omega
    have hj : ¬ (120 : Int32) ≤ nI j := fun z => by have := (nI_leI (a := 120) (by omega) (by omega)).mp z; omega
    simp only [g_X7_readChoice_11, if_neg hj, if_neg h10, x_sgn hN hpk, Option.bind_some]
    by_cases hx : sgn t N p1 = 124
    · have hlt : p1 < N := sgn_lt (fun z => by rw [z] at hx; exact absurd hx (by decide))
      obtain ⟨k, rfl⟩ : ∃ q, m1 = q + 1 := ⟨m1 - 1, by omega⟩
      have hcl : f_X12_lands 1 (nI c1) (nI wm) csm ws1 = some (nI w, cs1) := by
        have e3 := e2 1 (by first | exact Or.inr rfl | exact Or.inl (by omega)) (999997 + (2 - e) + 1)
        rw [show 999997 + (2 - e) + 1 + e = FU by unfold FU; omega] at e3
        unfold f_X12_lands
        rw [e3]
        exact ld_stop (by omega) (by rw [sTp_eq a5]; exact fun z => by rw [z] at ht; exact absurd ht (by decide)) (by rw [sTp_eq a5]; exact fun z => by rw [z] at ht; exact absurd ht (by decide))
      have hne : ¬ nI p1 = nI N := fun z => by have := (nI_eq (by omega) (by omega)).mp z; omega
      have hjm : f_X12_jumps 12 (nI p1) (nI c1) (nI w) cs1 ws1 = _ := ms_jumps (by omega) (by omega) 12 p1
      have x41 : ¬ sgn t N p1 = 41 := by rw [hx]; decide
      have xo : ¬ sgn t N p1 = 38 := by rw [hx]; decide
      have eM : g_X12_readsSpec_62 (g_X12_readsSpec_10 n1) (k + 1) t (nI p1) (nI N) fm1 (nI op) (nI c1) (nI wm) lt1 csm ws1 = g_X12_readsSpec_10 n1 t (nI (p1 + 1)) (nI N) fm1 (nI op) (nI (c1 + 1)) (nI (w + 1)) lt1 (upd cs1 c1 (nI (1048576 * 12 + 0))) (upd ws1 w (nI (1048576 * 12 + c1))) := by
        simp only [g_X12_readsSpec_62, m_sgn hN hpk, Option.bind_some, if_neg x41, g_X12_readsSpec_120, if_neg hne, g_X12_readsSpec_145, if_pos hx, if_neg xo, g_X12_readsSpec_173, g_X12_readsSpec_188, hcl, g_X12_readsSpec_208, hjm]
      rw [eM]
      simp only [if_pos hx, hl, Option.bind_some, xs_add (show c1 < 120 by omega), xs_skip]
      have hDB := spD_next (yc := yc1) (c := c1) 4
      have hTp : sTp (upd ws1 w (nI (1048576 * 12 + c1))) (w + 1) = 12 := sTp_s (o := 12) (v := c1) (by omega) (by omega) (upd_same _ _ _)
      rcases part_C (t := t) hN hK (n := n1) (w := w + 1) (c := c1 + 1) (p := p1 + 1) (yc := upd yc1 c1 4) (yw := upd ywp c1 0) (cs := upd cs1 c1 (nI (1048576 * 12 + 0))) (ws := upd ws1 w (nI (1048576 * 12 + c1))) fx1 fm1 lt1 (by omega) (by omega) (by omega) (by omega) hDB.1 hDB.2 (Or.inr (Or.inl hTp)) with ⟨u, v, u1, u2, v1, v2, u3, k', k1, k2⟩ | ⟨c2, p2, n2, m2, wm2, yc2, yw2, csm2, cs2, ws2, fx2, fm2, lt2, q1, q2, q3, q4⟩
      · left
        have hfu : 0 < fu := by omega
        obtain ⟨fu, rfl⟩ : ∃ q, fu = q + 1 := ⟨fu - 1, by omega⟩
        rw [u1, Option.bind_some, u2, v1]
        simp only [g_X7_readChoice_11, if_true, g_X7_readChoice_68, xs_lead (show c1 < 120 by omega), Option.bind_some, show zB 0 = true by decide]
        by_cases hj2 : (120 : Int32) ≤ nI j + 1
        · rw [if_pos hj2]
          exact ⟨_, v, rfl, rfl, rfl, v2, u3, k', k1, k2⟩
        · rw [if_neg hj2]
          exact ⟨_, v, rfl, rfl, rfl, v2, u3, k', k1, k2⟩
      · obtain ⟨⟨e', e1', e2'⟩, g1', g2', g3', g4', g5a, g5b, g6', g7'⟩ := q4
        have gF' := g4'
        obtain ⟨b1, b2, b3, b4, b5, b6, b7⟩ := gF'
        have hwo : ws2 w = nI (1048576 * 12 + c1) := by rw [b5 w (by omega), upd_same]
        have hdiv : ws2 w / 1048576 = nI 12 := by rw [hwo]; exact (row14 (by omega) (by omega)).1
        obtain ⟨r1, r2, r3⟩ := b6 c1 (by omega)
        rw [upd_same] at r1 r2 r3
        rw [q1, q2, Option.bind_some, nI_p]
        dsimp only
        have hDc : spD yc2 c1 = 1 ∧ spB yc2 c1 = true := by
          obtain ⟨z1, z2⟩ := SpF_D g4' (i := c1) (by omega)
          obtain ⟨z3, z4⟩ := spD_upd (yc := yc1) (Nat.le_refl c1) 4
          exact ⟨z1.trans (z3.trans g6), z2.trans (z4.trans g7)⟩
        refine ih (j + 1) c2 p2 n2 m2 wm2 (nI c1) yc2 yw2 (upd yw2 c1 (nI c2)) csm2 (upd cs2 c1 (nI (1048576 * 12 + c2))) ws2 fx2 fm2 lt2 (by omega) (by omega) (xs_lead (by omega) _) ⟨⟨e' + 1, by omega, fun s hs fu => ?_⟩, by omega, by omega, fun i hi1 hi2 => ?_, SpF_jump g4 g4' ⟨12, c2, upd_same _ _ _, r1, fun _ => upd_same _ _ _, by omega, fun h => by omega, fun h => by omega, fun h => by omega, fun h => by omega, fun h => by omega, fun h => by omega, fun _ => hDc, fun _ => ⟨by omega, by omega, g6', g7'⟩⟩, g5a, g5b, g6', g7'⟩ q3
        · rw [show fu + (e' + 1) = fu + 1 + e' by omega, e2' s (Or.inl (by omega)) (fu + 1)]
          exact ld_pop (by omega) (by omega) (by omega) (Or.inr ⟨rfl, by rcases hs with z | z; omega; exact z⟩) hwo r3
        · by_cases hiw : i = w
          · rw [hiw, hdiv]
            decide
          · exact g3' i (by omega) hi2
    · right
      refine ⟨c1, p1, n1, m1, wm, yc1, ywp, csm, cs1, ws1, fx1, fm1, lt1, ?_, rfl, ⟨hx, h4⟩, h3'⟩
      rw [if_neg hx]
      unfold g_X7_readChoice_68
      rw [hl, Option.bind_some, if_pos (show zB 1 = true by decide)]

theorem choice_C (hN : N ≤ 120) {op : Nat} {K : KX} (hK : KP t N op K) {n w c p : Nat} {yc yw cs ws : Nat → Int32} (fx fl lt : Int32) (hn : N < n + p) (hc : c ≤ p) (hw : w ≤ p) (hp : p ≤ N) (hD : spD yc c = 0) (hB : spB yc c = false) (ht : sTp ws w = -1 ∨ sTp ws w = 13) : SpC 2 (fun x => ¬ x = 124 ∧ ¬ x = 38) t N op w c p yc yw cs ws (f_X7_readChoice K (nI op) yc yw (nI c) t (nI p) (nI N) fx) (g_X12_readsSpec_10 n t (nI p) (nI N) fl (nI op) (nI c) (nI w) lt cs ws) := by
  unfold f_X7_readChoice g_X7_readChoice_0
  rcases part_C (t := t) hN hK (yw := yw) (cs := cs) fx fl lt hn hc hw hp hD hB (ht.elim Or.inl (fun z => Or.inr (Or.inr z))) with ⟨u, v, u1, u2, v1, v2, u3, k', k1, k2⟩ | ⟨c', p', n', m', wm, yc', yw', csm, cs', ws', fx', fm', lt', q1, q2, q3, q4⟩
  · left
    have e0 : ∀ fu, g_X7_readChoice_11 K (fu + 1) (nI op) (-1) 0 0 u.2.1 u.2.2.1 u.2.2.2.1 t u.2.2.2.2.1 (nI N) u.2.2.2.2.2 = some (0, u.2.1, u.2.2.1, u.2.2.2.1, u.2.2.2.2.1, u.2.2.2.2.2) := by
      intro fu
      simp only [g_X7_readChoice_11, if_neg (show ¬ (120 : Int32) ≤ 0 by decide), if_true, g_X7_readChoice_68, xs_lead0, Option.bind_some, show zB 0 = true by decide]
    have e1 : g_X7_readChoice_11 K FU (nI op) (-1) 0 0 u.2.1 u.2.2.1 u.2.2.2.1 t u.2.2.2.2.1 (nI N) u.2.2.2.2.2 = _ := e0 999999
    rw [u1, v1, Option.bind_some, u2, e1]
    exact ⟨_, v, rfl, rfl, rfl, v2, u3, k', k1, k2⟩
  · rw [q1, q2, Option.bind_some]
    exact cs_loop hN hK hc hw ht FU 0 c' p' n' m' wm (-1) yc' yw' yw' csm cs' ws' fx' fm' lt' (by unfold FU; omega) (by have := q4.2.2.2.2.1.2.2.1; omega) (xs_lead0 _) (SpL_up q4 (by omega)) q3
end PARTS
