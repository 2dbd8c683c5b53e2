/-! specs: comparisons, and the end of a piece -/
def PE (e n m : Nat) (t : Nat → Int32) (p N fl op c w lt : Int32) (cs ws : Nat → Int32) : Option MT := (g_X12_endsPiece_0 e op c w cs ws).bind (fun u => g_X12_readsSpec_62 (g_X12_readsSpec_10 n) m t p N fl u.1 u.2.1 u.2.2.1 lt u.2.2.2 ws)
def SpP (t : Nat → Int32) (N op w c p : Nat) (yc yw cs ws : Nat → Int32) (X : Option XT) (M : Option MT) : Prop := Flt X M ∨ ∃ (c' p' e' n' m' : Nat) (yc' yw' cs' ws' : Nat → Int32) (fx' fm' lt' : Int32), X = some (1, yc', yw', nI c', nI p', fx') ∧ M = PE e' n' m' t (nI p') (nI N) fm' (nI op) (nI c') (nI w) lt' cs' ws' ∧ SpF N w c p yc yw cs ws c' p' yc' yw' cs' ws' ∧ N < n' + p' ∧ N < m' + p' ∧ w < e' ∧ spD yc' c' = 1 ∧ spB yc' c' = true
def KP (t : Nat → Int32) (N op : Nat) (K : KX) : Prop := ∀ (n w c p : Nat) (yc yw cs ws : Nat → Int32) (fx fl lt : Int32), N < n + p → c ≤ p → w ≤ p → p ≤ N → spD yc c = 0 → spB yc c = false → (sTp ws w < 2 ∨ 6 < sTp ws w) → SpP t N op w c p yc yw cs ws (K (nI op) yc yw (nI c) t (nI p) (nI N) fx) (g_X12_readsSpec_10 n t (nI p) (nI N) fl (nI op) (nI c) (nI w) lt cs ws)
section COMP
variable {t : Nat → Int32} {N : Nat}
theorem PE_stop {e n m op c w : Nat} {p fl lt : Int32} {cs ws : Nat → Int32} (he : 0 < e) (hw : w ≤ 180) (h : ¬ sTp ws w = 10) : PE e n m t p (nI N) fl (nI op) (nI c) (nI w) lt cs ws = g_X12_readsSpec_62 (g_X12_readsSpec_10 n) m t p (nI N) fl (nI op) (nI c) (nI w) lt cs ws := by
  obtain ⟨e, rfl⟩ : ∃ q, e = q + 1 := ⟨e - 1, by omega⟩
  unfold PE
  simp only [g_X12_endsPiece_0, ms_top hw, Option.bind_some, if_neg h]
theorem PE_not {e n m op c w : Nat} {p fl lt : Int32} {cs ws : Nat → Int32} (hw : w < 180) (hc : c < 180) (h : ws w = nI (1048576 * 10 + 0)) : PE (e + 1) n m t p (nI N) fl (nI (op + 1)) (nI c) (nI (w + 1)) lt cs ws = PE e n m t p (nI N) fl (nI op) (nI (c + 1)) (nI w) lt (upd cs c (nI (1048576 * 10 + 0))) ws := by
  have ht : sTp ws (w + 1) = 10 := sTp_s (o := 10) (v := 0) (by omega) (by omega) h
  have hn : f_X12_notes 10 0 (nI c) cs = _ := ms_note hc 10 0
  unfold PE
  simp only [g_X12_endsPiece_0, ms_top (show w + 1 ≤ 180 by omega), Option.bind_some, if_pos ht, hn]
  rw [show nI (op + 1) - 1 = nI op from nI_m (by omega), show nI (w + 1) - 1 = nI w from nI_m (by omega)]
theorem sum_both (hN : N ≤ 120) {op w c p : Nat} (hop : op ≤ 6) {yc yw cs ws : Nat → Int32} (fx fl lt : Int32) (hc : c ≤ p) (hw : w ≤ p) (hp : p ≤ N) (hB : spB yc c = false) (ht : sTp ws w < 2 ∨ 6 < sTp ws w) : Flt (f_X7_readTerms DP (nI op) yc yw (nI c) t (nI p) (nI N) fx) (f_X12_readsSum t (nI p) (nI N) fl (nI op) (nI c) (nI w) lt cs ws) ∨ ∃ (c' p' : Nat) (yc' yw' cs' ws' : Nat → Int32) (fx' fm' lt' : Int32), f_X7_readTerms DP (nI op) yc yw (nI c) t (nI p) (nI N) fx = some (1, yc', yw', nI c', nI p', fx') ∧ f_X12_readsSum t (nI p) (nI N) fl (nI op) (nI c) (nI w) lt cs ws = some (1, nI p', fm', nI op, nI c', nI w, lt', cs', ws') ∧ SpF N w c p yc yw cs ws c' p' yc' yw' cs' ws' ∧ spD yc' c' = spD yc c + 1 ∧ spB yc' c' = false := by
  have eM : f_X12_readsSum t (nI p) (nI N) fl (nI op) (nI c) (nI w) lt cs ws = MF FU FU (nI w) t (nI p) (nI N) fl (nI op) (nI c) (nI w) lt cs ws := rfl
  rw [eM]
  rcases terms_all (t := t) hN DP op hop (by unfold DP; omega) FU FU w w c p yc yw cs ws fx fl lt (by unfold FU; omega) (by unfold FU; omega) hc hw hp (Nat.le_refl _) hB ht with z | ⟨c', p', n', cm, wm, yc', yw', csm, cs', ws', fx', fm', lt', q1, q2, q3, q4⟩
  · exact Or.inl z
  · right
    have hcl := sum_close (by omega) (by omega) q4 ht
    obtain ⟨-, g1, g2, g3, g4, g5, g6, g7⟩ := q4
    have gF := g4
    obtain ⟨b1, b2, b3, b4, b5, b6, b7⟩ := gF
    obtain ⟨n', rfl⟩ : ∃ q, n' = q + 1 := ⟨n' - 1, by omega⟩
    have hpk : p' ≤ 1000 := by omega
    have hos : f_X12_hasOpenSum (nI w) (nI wm) ws' = some 0 := hos_no (by omega) FU w g1 (by unfold FU; omega) g3
    have hss : f_X12_sumSign (sgn t N p') = some (-1) := by
      rcases m_sumS (sgn t N p') with ⟨z, -⟩ | ⟨z, -⟩ | ⟨-, -, z⟩
      · exact absurd z q3.1
      · exact absurd z q3.2
      · exact z
    refine ⟨c', p', yc', yw', cs', ws', fx', fm', lt', q1, ?_, g4, g6, g7⟩
    rw [q2]
    by_cases h93 : sgn t N p' = 93
    · simp only [g_X12_readsSum_14, m_sgn hN hpk, Option.bind_some, hss, if_true, if_pos h93, hos, g_X12_readsSum_138, hcl]
    · simp only [g_X12_readsSum_14, m_sgn hN hpk, Option.bind_some, hss, if_true, if_neg h93, hos, g_X12_readsSum_138, hcl]
/-- behind a comparison's sign -/
theorem comp_two (hN : N ≤ 120) {op w c p c1 p1 o n : Nat} (hop : op ≤ 6) {yc yw cs ws yc1 yw1 cs1 ws1 : Nat → Int32} (fx fl lt : Int32) (ho : 7 ≤ o ∧ o ≤ 9) (hc : c ≤ p) (hw : w ≤ p) (hn : N < n + 1 + p) (hlt : p1 < N) (hF : SpF N w c p yc yw cs ws c1 p1 yc1 yw1 cs1 ws1) (hD : spD yc1 c1 = 1) (hB : spB yc1 c1 = false) (ht : sTp ws w < 2 ∨ 6 < sTp ws w) : SpP t N op w c p yc yw cs ws (g_X7_readComparison_45 (nI op) (nI (xsp o)) yc1 yw1 (nI c1) t (nI p1) (nI N) fx) ((g_X12_readsCompared_52 (nI o) t (nI p1) (nI N) fl (nI op) (nI c1) (nI w) lt cs1 ws1).bind (fun u3 => (if u3.1 = 0 then some (0, u3.2.1, u3.2.2.1, u3.2.2.2.1, u3.2.2.2.2.1, u3.2.2.2.2.2.1, u3.2.2.2.2.2.2.1, u3.2.2.2.2.2.2.2.1, u3.2.2.2.2.2.2.2.2) else g_X12_readsSpec_62 (g_X12_readsSpec_10 n) FU t u3.2.1 (nI N) u3.2.2.1 u3.2.2.2.1 u3.2.2.2.2.1 u3.2.2.2.2.2.1 u3.2.2.2.2.2.2.1 u3.2.2.2.2.2.2.2.1 u3.2.2.2.2.2.2.2.2))) := by
  have h10 : ¬ (1 : Int32) = 0 := by decide
  have em1 : ¬ nI o = -1 := fun z => by
    rw [i_eq, nI_toInt (by omega)] at z
    have e5 : (-1 : Int32).toInt = -1 := rfl
    omega
  have gF := hF
  obtain ⟨a1, a2, a3, a4, a5, a6, a7⟩ := gF
  unfold g_X7_readComparison_45 g_X12_readsCompared_52
  rw [xs_skip, Option.bind_some, if_neg em1, nI_p]
  rcases sum_both (t := t) hN hop (w := w) (c := c1) (p := p1 + 1) (yc := yc1) (yw := yw1) (cs := cs1) (ws := ws1) fx fl lt (by omega) (by omega) (by omega) hB (by rw [sTp_eq a5]; exact ht) with ⟨u, v, u1, u2, v1, v2, u3, k', k1, k2⟩ | ⟨c2, p2, yc2, yw2, cs2, ws2, fx2, fm2, lt2, q1, q2, q3, q4, q5⟩
  · left
    obtain ⟨i', yc', yw', kk, r1, r2⟩ := xs_any k1 (nI (xsp o)) 0 u.2.1 u.2.2.1
    rw [u1, v1, Option.bind_some, Option.bind_some, k2, r1, Option.bind_some, if_pos (show zB u.1 = true by rw [u2]; decide), if_pos v2, Option.bind_some, if_pos rfl]
    exact ⟨_, _, rfl, u2, rfl, rfl, u3, kk, r2, rfl⟩
  · right
    have gF' := q3
    obtain ⟨b1, b2, b3, b4, b5, b6, b7⟩ := gF'
    have hn2 : f_X12_notes (nI o) 0 (nI c2) cs2 = _ := ms_note (by omega) o 0
    rw [q1, q2, Option.bind_some, Option.bind_some, if_neg h10]
    dsimp only
    rw [xs_add (by omega), hn2, Option.bind_some, Option.bind_some, if_pos (show zB 1 = true by decide)]
    refine ⟨c2 + 1, p2, FU, n, FU, upd yc2 c2 (nI (xsp o)), upd yw2 c2 0, upd cs2 c2 (nI (1048576 * o + 0)), ws2, fx2, fm2, lt2, rfl, ?_, SpF_two hF q3 ⟨o, 0, upd_same _ _ _, upd_same _ _ _, fun h => by omega, by omega, fun h => by omega, fun h => by omega, fun _ => rfl, fun _ => ?_, fun h => by omega, fun _ => ?_, fun h => by omega, fun h => by omega⟩, by omega, by unfold FU; omega, by unfold FU; omega, ?_, ?_⟩
    · unfold PE f_X12_endsPiece
      cases hh : g_X12_endsPiece_0 FU (nI op) (nI (c2 + 1)) (nI w) (upd cs2 c2 (nI (1048576 * o + 0))) ws2 with
      | none => rfl
      | some z => rw [Option.bind_some, Option.bind_some, Option.bind_some, if_neg h10]
    · rw [(spD_upd (Nat.le_refl c2) _).2]; exact q5
    · rw [(spD_upd (Nat.le_refl c2) _).1, q4, hD]
    · rw [(spD_next _).1]
      rcases (show o = 7 ∨ o = 8 ∨ o = 9 by omega) with rfl | rfl | rfl <;> rfl
    · rw [(spD_next _).2]
      rcases (show o = 7 ∨ o = 8 ∨ o = 9 by omega) with rfl | rfl | rfl <;> rfl
theorem comp_both (hN : N ≤ 120) {op w c p n : Nat} (hop : op ≤ 6) {yc yw cs ws : Nat → Int32} (fx fl lt : Int32) (hc : c ≤ p) (hw : w ≤ p) (hp : p ≤ N) (hn : N < n + 1 + p) (hD : spD yc c = 0) (hB : spB yc c = false) (ht : sTp ws w < 2 ∨ 6 < sTp ws w) : SpP t N op w c p yc yw cs ws (f_X7_readComparison (nI op) yc yw (nI c) t (nI p) (nI N) fx) ((f_X12_readsCompared t (nI p) (nI N) fl (nI op) (nI c) (nI w) lt cs ws).bind (fun u3 => (if u3.1 = 0 then some (0, u3.2.1, u3.2.2.1, u3.2.2.2.1, u3.2.2.2.2.1, u3.2.2.2.2.2.1, u3.2.2.2.2.2.2.1, u3.2.2.2.2.2.2.2.1, u3.2.2.2.2.2.2.2.2) else g_X12_readsSpec_62 (g_X12_readsSpec_10 n) FU t u3.2.1 (nI N) u3.2.2.1 u3.2.2.2.1 u3.2.2.2.2.1 u3.2.2.2.2.2.1 u3.2.2.2.2.2.2.1 u3.2.2.2.2.2.2.2.1 u3.2.2.2.2.2.2.2.2))) := by
  have h10 : ¬ (1 : Int32) = 0 := by decide
  unfold f_X7_readComparison g_X7_readComparison_0 f_X12_readsCompared g_X12_readsCompared_0
  rcases sum_both (t := t) hN hop (w := w) (c := c) (p := p) (yc := yc) (yw := yw) (cs := cs) (ws := ws) fx fl lt hc hw hp hB ht with ⟨u, v, u1, u2, v1, v2, u3, k', k1, k2⟩ | ⟨c1, p1, yc1, yw1, cs1, ws1, fx1, fm1, lt1, q1, q2, q3, q4, q5⟩
  · left
    rw [u1, v1, Option.bind_some, Option.bind_some, if_pos u2, if_pos v2, Option.bind_some, if_pos rfl]
    exact ⟨_, _, rfl, rfl, rfl, rfl, u3, k', k1, k2⟩
  · have gF' := q3
    obtain ⟨b1, b2, b3, b4, b5, b6, b7⟩ := gF'
    have hpk : p1 ≤ 1000 := by omega
    have hD1 : spD yc1 c1 = 1 := by rw [q4, hD]
    rw [q1, q2]
    simp only [Option.bind_some, if_neg h10, x_sgn hN hpk, m_sgn hN hpk]
    have hlt : ∀ {x : Int32}, sgn t N p1 = x → ¬ x = -1 → p1 < N := fun e hx => sgn_lt (fun z => hx (by rw [← e, z]))
    by_cases e1 : sgn t N p1 = 60
    · rw [if_pos e1, if_pos e1, e1]
      have hlt' := hlt e1 (by decide)
      exact comp_two (o := 7) hN hop fx1 fm1 lt1 (by omega) hc hw (show N < n + 1 + p by omega) hlt' q3 hD1 q5 ht
    · by_cases e2 : sgn t N p1 = 62
      · rw [if_neg e1, if_pos e2, if_neg e1, if_pos e2, e2]
        have hlt' := hlt e2 (by decide)
        exact comp_two (o := 8) hN hop fx1 fm1 lt1 (by omega) hc hw (show N < n + 1 + p by omega) hlt' q3 hD1 q5 ht
      · by_cases e3 : sgn t N p1 = 61
        · rw [if_neg e1, if_neg e2, if_pos e3, if_neg e1, if_neg e2, if_pos e3, e3]
          have hlt' := hlt e3 (by decide)
          exact comp_two (o := 9) hN hop fx1 fm1 lt1 (by omega) hc hw (show N < n + 1 + p by omega) hlt' q3 hD1 q5 ht
        · left
          rw [if_neg e1, if_neg e2, if_neg e3, if_neg e1, if_neg e2, if_neg e3]
          exact Flt_of (ft 1 p1) (show c1 ≤ 120 by omega) ⟨_, rfl, rfl, rfl, rfl⟩ ⟨_, rfl, rfl, rfl⟩
end COMP
