/-! specs: a piece of both, and the whole -/
section PIECE
variable {t : Nat → Int32} {N : Nat}
theorem land_close {w c p : Nat} {yc yw cs ws : Nat → Int32} {c' p' n' m' wm : Nat} {yc' yw' csm cs' ws' : Nat → Int32} (hw : w ≤ 180) (h : SpL 2 N w c p yc yw cs ws c' p' n' m' wm yc' yw' csm cs' ws') (ht : sTp ws w = -1 ∨ sTp ws w = 13) : f_X12_lands 1 (nI c') (nI wm) csm ws' = some (nI w, cs') := by
  obtain ⟨⟨e, e1, e2⟩, -, -, -, hF, -⟩ := h
  have e3 := e2 1 (Or.inr rfl) (999997 + (2 - e) + 1)
  rw [show 999997 + (2 - e) + 1 + e = FU by unfold FU; omega] at e3
  unfold f_X12_lands
  rw [e3]
  refine ld_stop hw ?_ ?_
  · rw [sTp_eq hF.2.2.2.2.1]; exact fun z => by rw [z] at ht; exact absurd ht (by decide)
  · rw [sTp_eq hF.2.2.2.2.1]; exact fun z => by rw [z] at ht; exact absurd ht (by decide)
theorem piece_Q (hN : N ≤ 120) {op : Nat} (hop : op ≤ 6) {K : KX} (hK : op < 6 → KP t N (op + 1) K) : KP t N op (g_X7_readPiece_0 K) := by
  intro n w c p yc yw cs ws fx fl lt hn hc hw hp hD hB ht
  obtain ⟨n, rfl⟩ : ∃ q, n = q + 1 := ⟨n - 1, by omega⟩
  have h10 : ¬ (1 : Int32) = 0 := by decide
  have hpk : p ≤ 1000 := by omega
  have hwl : w < 180 := by omega
  unfold g_X7_readPiece_0
  by_cases h33 : sgn t N p = 33
  · have hlt : p < N := sgn_lt (fun z => by rw [z] at h33; exact absurd h33 (by decide))
    by_cases h6 : op = 6
    · subst h6
      left
      simp only [g_X12_readsSpec_10, x_sgn hN hpk, m_sgn hN hpk, Option.bind_some, if_pos h33, xs_can6, g_X12_readsSpec_28, g_X12_readsSpec_45, show (10 : Int32) = nI 10 from rfl, ms_opens6, if_true]
      exact Flt_of (ft 5 p) (show c ≤ 120 by omega) ⟨_, rfl, rfl, rfl, rfl⟩ ⟨_, rfl, rfl, rfl⟩
    · have hop' : op < 6 := by omega
      have eM : g_X12_readsSpec_10 (n + 1) t (nI p) (nI N) fl (nI op) (nI c) (nI w) lt cs ws = g_X12_readsSpec_10 n t (nI (p + 1)) (nI N) fl (nI (op + 1)) (nI c) (nI (w + 1)) lt cs (upd ws w (nI (1048576 * 10 + 0))) := by
        simp only [g_X12_readsSpec_10, m_sgn hN hpk, Option.bind_some, if_pos h33, g_X12_readsSpec_28, g_X12_readsSpec_45, show (10 : Int32) = nI 10 from rfl, ms_opens hwl _ _ hop', if_neg h10]
      rw [eM]
      simp only [x_sgn hN hpk, Option.bind_some, if_pos h33, xs_can hop', if_neg h10, xs_skip, nI_p]
      have hT : sTp (upd ws w (nI (1048576 * 10 + 0))) (w + 1) = 10 := sTp_s (o := 10) (v := 0) (by omega) (by omega) (upd_same _ _ _)
      rcases hK hop' n (w + 1) c (p + 1) yc yw cs (upd ws w (nI (1048576 * 10 + 0))) fx fl lt (by omega) (by omega) (by omega) (by omega) hD hB (by rw [hT]; decide) with ⟨u, v, u1, u2, v1, v2, u3, k', k1, k2⟩ | ⟨c', p', e', n', m', yc', yw', cs', ws', fx', fm', lt', q1, q2, q3, q4, q5, q6, q7, q8⟩
      · left
        obtain ⟨i', yc', yw', kk, r1, r2⟩ := xs_any k1 2 0 u.2.1 u.2.2.1
        rw [u1, v1, Option.bind_some, k2, r1, Option.bind_some, if_pos (show zB u.1 = true by rw [u2]; decide)]
        exact ⟨_, v, rfl, u2, rfl, v2, u3, kk, r2, rfl⟩
      · right
        have gF := q3
        obtain ⟨b1, b2, b3, b4, b5, b6, b7⟩ := gF
        obtain ⟨e', rfl⟩ : ∃ q, e' = q + 1 := ⟨e' - 1, by omega⟩
        have hw10 : ws' w = nI (1048576 * 10 + 0) := by rw [b5 w (by omega), upd_same]
        rw [q1, q2, Option.bind_some]
        dsimp only
        rw [xs_add (by omega), Option.bind_some, if_pos (show zB 1 = true by decide)]
        refine ⟨c' + 1, p', e', n', m', upd yc' c' (nI (xsp 10)), upd yw' c' 0, upd cs' c' (nI (1048576 * 10 + 0)), ws', fx', fm', lt', rfl, PE_not (by omega) (by omega) hw10, SpF_not q3 ⟨10, 0, upd_same _ _ _, upd_same _ _ _, fun h => by omega, by omega, fun h => by omega, fun h => by omega, fun _ => rfl, fun h => by omega, fun h => by omega, fun h => by omega, fun _ => ?_, fun h => by omega⟩, by omega, by omega, by omega, (spD_next _).1, (spD_next _).2⟩
        rw [(spD_upd (Nat.le_refl c') _).2, (spD_upd (Nat.le_refl c') _).1]
        exact ⟨q7, q8⟩
  · by_cases h40 : sgn t N p = 40
    · have hlt : p < N := sgn_lt (fun z => by rw [z] at h40; exact absurd h40 (by decide))
      by_cases h6 : op = 6
      · subst h6
        left
        simp only [g_X12_readsSpec_10, x_sgn hN hpk, m_sgn hN hpk, Option.bind_some, if_neg h33, if_pos h40, xs_can6, g_X12_readsSpec_28, g_X12_readsSpec_45, show (13 : Int32) = nI 13 from rfl, ms_opens6, if_true]
        exact Flt_of (ft 5 p) (show c ≤ 120 by omega) ⟨_, rfl, rfl, rfl, rfl⟩ ⟨_, rfl, rfl, rfl⟩
      · have hop' : op < 6 := by omega
        have eM : g_X12_readsSpec_10 (n + 1) t (nI p) (nI N) fl (nI op) (nI c) (nI w) lt cs ws = g_X12_readsSpec_10 n t (nI (p + 1)) (nI N) fl (nI (op + 1)) (nI c) (nI (w + 1)) lt cs (upd ws w (nI (1048576 * 13 + 0))) := by
          simp only [g_X12_readsSpec_10, m_sgn hN hpk, Option.bind_some, if_neg h33, if_pos h40, g_X12_readsSpec_28, g_X12_readsSpec_45, show (13 : Int32) = nI 13 from rfl, ms_opens hwl _ _ hop', if_neg h10]
        rw [eM]
        simp only [x_sgn hN hpk, Option.bind_some, if_neg h33, if_pos h40, xs_can hop', if_neg h10, xs_skip, nI_p]
        have hT : sTp (upd ws w (nI (1048576 * 13 + 0))) (w + 1) = 13 := sTp_s (o := 13) (v := 0) (by omega) (by omega) (upd_same _ _ _)
        rcases choice_C (t := t) hN (hK hop') (n := n) (w := w + 1) (c := c) (p := p + 1) (yc := yc) (yw := yw) (cs := cs) (ws := upd ws w (nI (1048576 * 13 + 0))) fx fl lt (by omega) (by omega) (by omega) (by omega) hD hB (Or.inr hT) with ⟨u, v, u1, u2, v1, v2, u3, k', k1, k2⟩ | ⟨c', p', n', m', wm, yc', yw', csm, cs', ws', fx', fm', lt', q1, q2, q3, q4⟩
        · left
          rw [u1, v1, Option.bind_some, if_pos u2]
          exact ⟨_, v, rfl, rfl, rfl, v2, u3, k', k1, k2⟩
        · have hcl := land_close (by omega) q4 (Or.inr hT)
          obtain ⟨-, g1, g2, g3, g4, g5, g5', g6, g7⟩ := q4
          have gF := g4
          obtain ⟨b1, b2, b3, b4, b5, b6, b7⟩ := gF
          obtain ⟨m', rfl⟩ : ∃ q, m' = q + 1 := ⟨m' - 1, by omega⟩
          have hp'k : p' ≤ 1000 := by omega
          have h13' : ws' w / 1048576 = 13 := by
            rw [b5 w (by omega), upd_same]
            exact (row14 (o := 13) (v := 0) (by omega) (by omega)).1
          have hos : f_X12_hasOpen (nI wm) ws' = some 1 := hop_yes (k := w) (by omega) FU 0 (by omega) (by omega) (by unfold FU; omega) h13'
          rw [q1, q2, Option.bind_some, if_neg h10]
          dsimp only
          rw [x_pass hN hp'k]
          by_cases h41 : sgn t N p' = 41
          · have hlt' : p' < N := sgn_lt (fun z => by rw [z] at h41; exact absurd h41 (by decide))
            right
            refine ⟨c', p' + 1, FU, n', m', yc', yw', cs', ws', fx', fm', lt', ?_, ?_, SpF_in g4 (by omega) (by omega), by omega, by omega, by unfold FU; omega, g6, g7⟩
            · rw [if_pos h41, Option.bind_some, if_neg h10]
            · simp only [g_X12_readsSpec_62, m_sgn hN hp'k, Option.bind_some, if_pos h41, hos, if_neg h10, hcl, nI_p]
              rw [show nI (op + 1) - 1 = nI op from nI_m (by omega), show nI (w + 1) - 1 = nI w from nI_m (by omega)]
              rfl
          · left
            have e145 : g_X12_readsSpec_145 (g_X12_readsSpec_10 n') t (nI p') (nI N) fm' (nI (op + 1)) (nI c') (nI wm) lt' csm ws' = some (0, nI p', ft 1 p', nI (op + 1), nI c', nI wm, lt', csm, ws') := by
              simp only [g_X12_readsSpec_145, m_sgn hN hp'k, Option.bind_some, if_neg q3.1, if_neg q3.2]
              rfl
            simp only [g_X12_readsSpec_62, m_sgn hN hp'k, Option.bind_some, if_neg h41, g_X12_readsSpec_120, hos, if_neg h10, e145, ite_self]
            exact Flt_of (ft 1 p') (show c' ≤ 120 by omega) ⟨_, rfl, rfl, rfl, rfl⟩ ⟨_, rfl, rfl, rfl⟩
    · simp only [g_X12_readsSpec_10, x_sgn hN hpk, m_sgn hN hpk, Option.bind_some, if_neg h33, if_neg h40]
      rcases comp_both (t := t) hN hop (w := w) (n := n) (yc := yc) (yw := yw) (cs := cs) (ws := ws) fx fl lt hc hw hp hn hD hB ht with ⟨u, v, u1, u2, v1, v2, u3, k', k1, k2⟩ | ⟨c', p', e', n', m', yc', yw', cs', ws', fx', fm', lt', q1, q2, q3⟩
      · left
        rw [u1, v1, Option.bind_some, if_pos (show zB u.1 = true by rw [u2]; decide)]
        exact ⟨_, v, rfl, u2, rfl, v2, u3, k', k1, k2⟩
      · right
        rw [q1, Option.bind_some, if_pos (show zB 1 = true by decide)]
        exact ⟨c', p', e', n', m', yc', yw', cs', ws', fx', fm', lt', rfl, q2, q3⟩
theorem piece_all (hN : N ≤ 120) : ∀ (d op : Nat), op ≤ 6 → 7 - op ≤ d → KP t N op (f_X7_readPiece d) := by
  intro d
  induction d with
  | zero => intro op h1 h2; omega
  | succ d ih =>
    intro op h1 h2
    exact piece_Q hN h1 (fun h6 => ih (op + 1) (by omega) (by omega))
/-- both readers of a spec -/
theorem spec_both (hN : N ≤ 120) {z0 z1 y17 y18 : Nat → Int32} {x2 x12 x13 x14 x11 x12m x14m x15 : Int32} :
    (∃ u w, f_X7_read (nI N) z0 z1 x2 t x12 x13 x14 = some u ∧ u.1 = 0 ∧ f_X12_readsSpec t 0 (nI N) x11 x12m 0 x14m x15 y17 y18 = some w ∧ w.1 = 0 ∧ u.2.2.2.2.2.2 = w.2.2.1) ∨
    (∃ (n : Nat) (u : Int32 × (Nat → Int32) × (Nat → Int32) × Int32 × Int32 × Int32 × Int32) (w : MT), n ≤ 120 ∧ 0 < n ∧ f_X7_read (nI N) z0 z1 x2 t x12 x13 x14 = some u ∧ u.1 = 1 ∧ f_X12_readsSpec t 0 (nI N) x11 x12m 0 x14m x15 y17 y18 = some w ∧ w.1 = 1 ∧ u.2.2.2.1 = nI n ∧ w.2.2.2.2.1 = nI n ∧ spD u.2.1 n = 1 ∧ spB u.2.1 n = true ∧ ∀ i, i < n → SpI n i u.2.1 u.2.2.1 w.2.2.2.2.2.2.2.1) := by
  have hC := choice_C (t := t) hN (piece_all hN DP 0 (by omega) (by unfold DP; omega)) (n := FU) (w := 0) (c := 0) (p := 0) (yc := z0) (yw := z1) (cs := y17) (ws := y18) 0 x11 x15 (by unfold FU; omega) (by omega) (by omega) (by omega) rfl rfl (Or.inl rfl)
  have eM : f_X12_readsSpec t 0 (nI N) x11 x12m 0 x14m x15 y17 y18 = g_X12_readsSpec_10 FU t (nI 0) (nI N) x11 (nI 0) (nI 0) (nI 0) x15 y17 y18 := rfl
  rw [eM]
  unfold f_X7_read g_X7_read_0
  have e0 : f_X9_open (nI N) x12 x13 x14 = some (0, nI N, 0) := rfl
  rw [e0, Option.bind_some]
  dsimp only
  rcases hC with ⟨u, v, u1, u2, v1, v2, u3, k', k1, k2⟩ | ⟨c', p', n', m', wm, yc', yw', csm, cs', ws', fx', fm', lt', q1, q2, q3, q4⟩
  · left
    have u1' : f_X7_readChoice (f_X7_readPiece DP) 0 z0 z1 0 t 0 (nI N) 0 = some u := u1
    rw [u1', Option.bind_some, if_pos u2]
    exact ⟨_, v, rfl, rfl, v1, v2, u3⟩
  · have q1' : f_X7_readChoice (f_X7_readPiece DP) 0 z0 z1 0 t 0 (nI N) 0 = _ := q1
    have hcl := land_close (by omega) q4 (Or.inl rfl)
    obtain ⟨-, g1, g2, g3, g4, g5, g5', g6, g7⟩ := q4
    obtain ⟨b1, b2, b3, b4, b5, b6, b7⟩ := g4
    obtain ⟨m', rfl⟩ : ∃ q, m' = q + 1 := ⟨m' - 1, by omega⟩
    have h10 : ¬ (1 : Int32) = 0 := by decide
    have hpk : p' ≤ 1000 := by omega
    have hos : f_X12_hasOpen (nI wm) ws' = some 0 := hop_no (by omega) FU 0 (by omega) (by unfold FU; omega) g3
    rw [q1', Option.bind_some, if_neg h10, q2]
    dsimp only
    unfold f_X9_isRead g_X9_isRead_0
    rw [ite_le (by omega) (by omega)]
    by_cases hpN : N ≤ p'
    · right
      have hpe : p' = N := by omega
      have hsg : sgn t N p' = -1 := if_pos hpN
      have x41 : ¬ sgn t N p' = 41 := by rw [hsg]; decide
      have hM : g_X12_readsSpec_62 (g_X12_readsSpec_10 n') (m' + 1) t (nI p') (nI N) fm' (nI 0) (nI c') (nI wm) lt' csm ws' = some (1, nI p', fm', nI 0, nI c', nI 0, lt', cs', ws') := by
        simp only [g_X12_readsSpec_62, m_sgn hN hpk, Option.bind_some, if_neg x41, g_X12_readsSpec_120, if_pos (show nI p' = nI N by rw [hpe]), hos, if_true, hcl]
      rw [if_pos hpN, Option.bind_some, if_neg h10, hM]
      exact ⟨c', _, _, by omega, by omega, rfl, rfl, rfl, rfl, rfl, rfl, g6, g7, fun i hi => b7 i (by omega) hi⟩
    · left
      have hne : ¬ nI p' = nI N := fun z => by have := (nI_eq (by omega) (by omega)).mp z; omega
      have e120 : g_X12_readsSpec_120 (g_X12_readsSpec_10 n') t (nI p') (nI N) fm' (nI 0) (nI c') (nI wm) lt' csm ws' = some (0, nI p', ft 1 p', nI 0, nI c', nI wm, lt', csm, ws') := by
        simp only [g_X12_readsSpec_120, if_neg hne, g_X12_readsSpec_145, m_sgn hN hpk, Option.bind_some, if_neg q3.1, if_neg q3.2]
        rfl
      rw [if_neg hpN]
      have hM : g_X12_readsSpec_62 (g_X12_readsSpec_10 n') (m' + 1) t (nI p') (nI N) fm' (nI 0) (nI c') (nI wm) lt' csm ws' = some (0, nI p', ft 1 p', nI 0, nI c', nI wm, lt', csm, ws') := by
        simp only [g_X12_readsSpec_62, m_sgn hN hpk, Option.bind_some, hos, if_true, e120, ite_self]
      rw [hM]
      exact ⟨_, _, rfl, rfl, rfl, rfl, rfl⟩
end PIECE
