theorem seek_both {kf b ms t y2 y3 y4 y5 y6 y7 y8 y9 y10 d1 d2 z36 y49 y50 y51 y52 y54 : Nat → Int32} {rs x11 e3 e4 e5 e6 e7 e8 x39 x40 x41 : Int32} (hV : RV kf b ms rs) (ht : ∀ j, inR (-128) 127 (t j)) (hc : canB (absN b) b t) (hRP : RP y6 y7 y8) :
    (∃ u w, f_X3_seek (cpI 0 (fun j => t j &&& 255) y2) y3 y4 y5 y6 y7 y8 y9 y10 x11 d1 d2 e3 e4 e5 e6 e7 e8 kf b ms rs = some u ∧ u.1 = -1 ∧ f_X12_goesThrough (nI (imN (absN b) (absN ms))) (nI (imN (absN b) (absN t))) kf b z36 x39 x40 x41 y49 y50 y51 y52 y54 = some w ∧ w.1 = -1) ∨ (∃ (c : Nat) (Q : Nat → QE) (fr qu row frow bya deep seen : Nat → Int32) (pos : Nat) (u : Int32 × (Nat → Int32) × (Nat → Int32) × (Nat → Int32) × (Nat → Int32) × (Nat → Int32) × Int32 × (Nat → Int32) × (Nat → Int32) × Int32 × Int32 × Int32 × Int32 × Int32 × Int32) (z36' : Nat → Int32) (b1 b2 b3 : Int32), JB (absN b) c Q fr qu row frow bya deep seen ∧ pos < c ∧ (Q pos).2.2.2 ≤ 100 ∧ f_X3_seek (cpI 0 (fun j => t j &&& 255) y2) y3 y4 y5 y6 y7 y8 y9 y10 x11 d1 d2 e3 e4 e5 e6 e7 e8 kf b ms rs = some u ∧ u.1 = nI (Q pos).2.2.2 ∧ (∀ i, i < (Q pos).2.2.2 → u.2.1 i = nI (trc Q (Q pos).2.2.2 pos i)) ∧ f_X12_goesThrough (nI (imN (absN b) (absN ms))) (nI (imN (absN b) (absN t))) kf b z36 x39 x40 x41 y49 y50 y51 y52 y54 = some (nI pos, z36', b1, b2, b3, row, frow, bya, deep, seen)) := by
  obtain ⟨k1, k2, k3, k4, k5, k6⟩ := RV_abs hV
  have hB : ∀ j, j < 6 → absN b j ≤ 99 := fun j hj => (k5 j hj).2
  have hN := hc.1
  have ht0 : R6 t (absN t) := abs_R6 (fun j hj => (hc.2 j hj).1)
  have hu2 : R6 (cpI 0 (fun j => t j &&& 255) y2) (absN t) := by
    intro j hj
    rw [cpI_lt hj]
    show t j &&& 255 = _
    rcases byt_cases (ht j) with q | q
    · rw [q.2]; exact ht0 j hj
    · exact absurd (hc.2 j hj).1 q.1
  have htg : okM (absN b) (absN t) := ⟨fun j hj => ⟨abs_le hj (hc.2 j hj).1 (by rw [← k3 j hj]; exact (hc.2 j hj).2) (by have := hB j hj; omega), hB j hj⟩, Z6_abs _⟩
  have hm0 : okM (absN b) (absN ms) := ⟨k5, Z6_abs _⟩
  obtain ⟨y5', s1, -, s2⟩ : ∃ y5', g_X3_standings_4 FU (nI (prB (WB (absN b)) 0)) (nI 0) y5 b = some (nI (prB (WB (absN b)) 6), y5') ∧ prB (WB (absN b)) 6 ≤ 20000 ∧ R6 y5' (prB (WB (absN b))) := by
    rcases x_stand k3 hB FU 0 y5 (by omega) (by unfold FU; omega) (show 1 ≤ 20000 by omega) (fun j hj => absurd hj (by omega)) with h | ⟨y5', -, h⟩
    · exact h
    · exact absurd hN h
  have s1' : f_X3_standings y5 b = some (nI (prB (WB (absN b)) 6), y5') := s1
  obtain ⟨y9', f1, f2⟩ := fill_F hN y9
  have hix := ixN_lt hm0.1
  have him := imN_lt hm0.1
  have hixt := ixN_lt htg.1
  have himt := imN_lt htg.1
  obtain ⟨y54', g1, g2⟩ := m_zero (nI (imN (absN b) (absN ms))) (nI (imN (absN b) (absN t))) kf b z36 x39 x40 x41 y49 y50 y51 y52 FU 0 y54 (by omega) (by unfold FU; omega) (fun j hj => absurd hj (by omega))
  have hJ := JB_0 hm0 hN f2 g1 y10 y49 y50 y51 y52
  have eX : f_X3_seek (cpI 0 (fun j => t j &&& 255) y2) y3 y4 y5 y6 y7 y8 y9 y10 x11 d1 d2 e3 e4 e5 e6 e7 e8 kf b ms rs = (if ixN (absN b) (absN ms) = ixN (absN b) (absN t) then some (0, y3, y4, y5', y9', y10, x11, d1, d2, e3, e4, e5, e6, e7, e8) else g_X3_seek_80 FU (nI (ixN (absN b) (absN t))) 0 1 (cpI 0 (fun j => t j &&& 255) y2) y3 y4 y5' y6 y7 y8 (upd y9' (ixN (absN b) (absN ms)) (-1)) (upd y10 0 (nI (ixN (absN b) (absN ms)))) 1 (cpI 0 ms d1) (cpI 0 ms d2) 0 0 0 0 0 0 kf b ms rs) := by
    unfold f_X3_seek g_X3_seek_0
    rw [s1', Option.bind_some]
    dsimp only
    rw [f1, Option.bind_some, x_indexF (absN ms) s2 k4, Option.bind_some, x_indextF (absN t) s2 hu2, Option.bind_some, ite_eq (by omega) (by omega), if_pos (vin_nI (by omega) (by omega)), x_start, Option.bind_some, nc _ (by omega)]
    rfl
  have eM : f_X12_goesThrough (nI (imN (absN b) (absN ms))) (nI (imN (absN b) (absN t))) kf b z36 x39 x40 x41 y49 y50 y51 y52 y54 = (if imN (absN b) (absN ms) = imN (absN b) (absN t) then some (0, z36, x39, x40, x41, upd y49 0 (nI (imN (absN b) (absN ms))), y50, y51, upd y52 0 0, upd y54' (imN (absN b) (absN ms)) 1) else g_X12_goesThrough_55 FU (nI (imN (absN b) (absN t))) 1 0 kf b z36 x39 x40 x41 (upd y49 0 (nI (imN (absN b) (absN ms)))) y50 y51 (upd y52 0 0) (upd y54' (imN (absN b) (absN ms)) 1)) := by
    have g2' : f_X12_goesThrough (nI (imN (absN b) (absN ms))) (nI (imN (absN b) (absN t))) kf b z36 x39 x40 x41 y49 y50 y51 y52 y54 = _ := g2
    rw [g2', if_pos (vin_nI (by omega) (by omega)), ite_eq (by omega) (by omega), nc _ (by omega)]
    rfl
  by_cases hsame : absN ms = absN t
  · right
    rw [if_pos (by rw [hsame])] at eX eM
    exact ⟨1, _, _, _, _, _, _, _, _, 0, _, z36, x39, x40, x41, hJ, by omega, Nat.zero_le _, eX, rfl, fun i hi => absurd hi (Nat.not_lt_zero _), eM⟩
  · rw [if_neg (fun e => hsame (ixN_inj hm0 htg e))] at eX
    rw [if_neg (fun e => hsame (imN_inj hm0 htg e))] at eM
    have e80 : ∀ n, g_X3_seek_80 (n + 1) (nI (ixN (absN b) (absN t))) 0 1 (cpI 0 (fun j => t j &&& 255) y2) y3 y4 y5' y6 y7 y8 (upd y9' (ixN (absN b) (absN ms)) (-1)) (upd y10 0 (nI (ixN (absN b) (absN ms)))) 1 (cpI 0 ms d1) (cpI 0 ms d2) 0 0 0 0 0 0 kf b ms rs = g_X3_seek_104 (g_X3_seek_80 n) FU (nI (ixN (absN b) (absN t))) 1 1 0 (cpI 0 (fun j => t j &&& 255) y2) y3 y4 y5' y6 y7 y8 (upd y9' (ixN (absN b) (absN ms)) (-1)) (upd y10 0 (nI (ixN (absN b) (absN ms)))) 1 (cpI 0 ms d1) (cpI 0 ms d2) 0 0 0 0 0 0 kf b ms rs := by
      intro n
      simp only [g_X3_seek_80]
      rw [if_neg (by decide), if_neg (by decide)]
    have e80' := e80 999999
    have eX2 : f_X3_seek (cpI 0 (fun j => t j &&& 255) y2) y3 y4 y5 y6 y7 y8 y9 y10 x11 d1 d2 e3 e4 e5 e6 e7 e8 kf b ms rs = _ := eX.trans e80'
    have hb := bfs_both (y2 := cpI 0 (fun j => t j &&& 255) y2) (y3 := y3) (y11 := cpI 0 ms d1) (ms := ms) (x6 := 0) (x7 := 0) (x8 := 0) k1 k2 k3 hB k6 hN s2 hRP htg (prB (WB (absN b)) 6) 0 1 1 1 999999 FU FU (fun _ => (absN ms, 0, 0, 0)) (upd y9' (ixN (absN b) (absN ms)) (-1)) (upd y10 0 (nI (ixN (absN b) (absN ms)))) (upd y49 0 (nI (imN (absN b) (absN ms)))) y50 y51 (upd y52 0 0) (upd y54' (imN (absN b) (absN ms)) 1) y4 (cpI 0 ms d2) z36 0 0 0 x39 x40 x41 (by omega) (by omega) (by omega) (by omega) (by omega) (fun _ _ _ => rfl) (fun i h1 h2 => by omega) hJ (fun _ _ => hsame) (by unfold FU; omega) (by omega) (by unfold FU; omega)
    rcases hb with ⟨u, w, q1, q2, q3, q4⟩ | ⟨c', Q', fr', qu', row', frow', bya', deep', seen', g, z36', b1, b2, b3, z1, z2, z3, z4, z5, z6, z7⟩
    · left
      have q1' : f_X3_seek (cpI 0 (fun j => t j &&& 255) y2) y3 y4 y5 y6 y7 y8 y9 y10 x11 d1 d2 e3 e4 e5 e6 e7 e8 kf b ms rs = some u := eX2.trans q1
      have q3' : f_X12_goesThrough (nI (imN (absN b) (absN ms))) (nI (imN (absN b) (absN t))) kf b z36 x39 x40 x41 y49 y50 y51 y52 y54 = some w := eM.trans q3
      exact ⟨u, w, q1', q2, q3', q4⟩
    · right
      obtain ⟨y3', r1, r2, -⟩ := x_retr hN z1 (Q' (c' - 1)).2.2.2 FU (c' - 1) y3 (by omega) rfl z4 (by unfold FU; omega)
      have r1' : f_X3_retrace (nI (ixN (absN b) (absN t))) (nI (Q' (c' - 1)).2.2.2) y3 fr' = some y3' := by
        rw [← z3]; exact r1
      rw [r1', Option.bind_some] at z6
      have q1' : f_X3_seek (cpI 0 (fun j => t j &&& 255) y2) y3 y4 y5 y6 y7 y8 y9 y10 x11 d1 d2 e3 e4 e5 e6 e7 e8 kf b ms rs = _ := eX2.trans z6
      have q3' : f_X12_goesThrough (nI (imN (absN b) (absN ms))) (nI (imN (absN b) (absN t))) kf b z36 x39 x40 x41 y49 y50 y51 y52 y54 = _ := eM.trans z7
      refine ⟨c', Q', fr', qu', row', frow', bya', deep', seen', c' - 1, _, z36', b1, b2, b3, z1, by omega, z4, q1', rfl, fun i hi => ?_, q3'⟩
      show (g y3').1 i = _
      rw [z5]
      exact r2 i hi
theorem ok_shortest : Ok_shortest Rel := by
  intro S T s1 hR
  obtain ⟨⟨t1, t2, ⟨tn, tn1, tn2⟩, t4⟩, ⟨v1, v2, v3, vb⟩, ⟨r0, r1, r2⟩, hs, hp, hm, hb, hk⟩ := hR
  obtain ⟨k1, k2, k3, k4, k5, k6⟩ := RV_abs vb
  have hB : ∀ j, j < 6 → absN (T.2.1 5) j ≤ 99 := fun j hj => (k5 j hj).2
  have hRel : ∀ (a : Int32) (u : (Nat → Int32) × (Nat → Int32) × Int32 × Int32 × Int32 × Int32 × Int32 × Int32 × (Nat → Int32) × (Nat → Int32) × (Nat → Int32) × (Nat → Int32) × (Nat → Int32) × (Nat → Int32) × Int32) (w : (Nat → Int32) × Int32 × Int32 × Int32 × (Nat → Int32) × (Nat → Int32) × (Nat → Int32) × (Nat → Int32) × (Nat → Int32) × (Nat → Int32) × (Nat → Int32)), Rel (stX_shortest S (a, u.1, u.2.1, u.2.2.1, u.2.2.2.1, u.2.2.2.2.1, u.2.2.2.2.2.1, u.2.2.2.2.2.2.1, u.2.2.2.2.2.2.2.1, u.2.2.2.2.2.2.2.2.1, u.2.2.2.2.2.2.2.2.2.1, u.2.2.2.2.2.2.2.2.2.2.1, u.2.2.2.2.2.2.2.2.2.2.2.1, u.2.2.2.2.2.2.2.2.2.2.2.2.1, u.2.2.2.2.2.2.2.2.2.2.2.2.2.1, u.2.2.2.2.2.2.2.2.2.2.2.2.2.2, 0)) (stM_shortest T (a, 0, w)) :=
    fun a u w => ⟨⟨t1, rfl, ⟨0, by omega, rfl⟩, t4⟩, ⟨v1, v2, v3, vb⟩, ⟨r0, r1, r2⟩, hs, hp, hm, hb, hk⟩
  unfold f_X11_shortest g_X11_shortest_0 f_X12_shortest g_X12_shortest_0
  rw [w_in, m_in, Option.bind_some, Option.bind_some]
  by_cases h1 : (-1 : Int32) ≤ s1 ∧ s1 ≤ 99
  · simp only [if_pos h1, if_neg (show ¬ (1 : Int32) = 0 by decide)]
    rw [t2]
    by_cases h5 : (6 : Int32) ≤ T.1 8
    · simp only [if_pos h5]
      have hcl : f_X9_clear (T.1 8) = some 0 := rfl
      rw [t1, v1, v2, v3, x_takeMF, Option.bind_some, hcl, Option.bind_some]
      have e29 := m_sh29 (y4 := T.2.1 4) (y5 := T.2.1 5) (y6 := T.2.1 6) (y7 := T.2.1 7) (y36 := T.2.1 36) (y49 := T.2.1 49) (y50 := T.2.1 50) (y51 := T.2.1 51) (y52 := T.2.1 52) (y53 := T.2.1 53) (y54 := T.2.1 54) (v1 := s1) (x8 := 0) (x39 := T.1 39) (x40 := T.1 40) (x41 := T.1 41) FU 0 (T.2.1 48) (by omega) (by unfold FU; omega)
      have e29' : g_X12_shortest_29 FU s1 0 (T.2.1 4) (T.2.1 5) (T.2.1 6) (T.2.1 7) 0 (T.2.1 36) (T.1 39) (T.1 40) (T.1 41) (T.2.1 48) (T.2.1 49) (T.2.1 50) (T.2.1 51) (T.2.1 52) (T.2.1 53) (T.2.1 54) = _ := e29
      rw [e29']
      obtain ⟨c1, c2⟩ := x_can k3 hB t4 ((S 14).2 2) ((S 14).2 5)
      obtain ⟨c3, c4⟩ := m_can (t := T.2.1 7) k3 hB (cpI 0 (T.2.1 7) (T.2.1 48)) (fun j hj => cpI_lt hj)
      by_cases hc : canB (absN (T.2.1 5)) (T.2.1 5) (T.2.1 7)
      · obtain ⟨y5', c1'⟩ := c1 hc
        rw [c1', Option.bind_some, if_neg (show ¬ (1 : Int32) = 0 by decide), c3 hc, Option.bind_some, if_neg (by decide)]
        dsimp only
        have ht0 : R6 (T.2.1 7) (absN (T.2.1 7)) := abs_R6 (fun j hj => (hc.2 j hj).1)
        have e65 := m_sh65 (y4 := T.2.1 4) (y5 := T.2.1 5) (y6 := T.2.1 6) (y7 := T.2.1 7) (y48 := cpI 0 (T.2.1 7) (T.2.1 48)) (y49 := T.2.1 49) (y50 := T.2.1 50) (y51 := T.2.1 51) (y52 := T.2.1 52) (y53 := T.2.1 53) (y54 := T.2.1 54) (v1 := s1) (x8 := 0) (x39 := T.1 39) (x40 := T.1 40) (x41 := T.1 41) FU 0 (T.2.1 36) (by omega) (by unfold FU; omega)
        have e65' : g_X12_shortest_65 FU s1 0 (T.2.1 4) (T.2.1 5) (T.2.1 6) (T.2.1 7) 0 (T.2.1 36) (T.1 39) (T.1 40) (T.1 41) (cpI 0 (T.2.1 7) (T.2.1 48)) (T.2.1 49) (T.2.1 50) (T.2.1 51) (T.2.1 52) (T.2.1 53) (T.2.1 54) = _ := e65
        rw [e65', m_standOfF k3 (R6_cpI (R6_cpI ht0)), Option.bind_some]
        have e96 := m_sh96 (y4 := T.2.1 4) (y5 := T.2.1 5) (y6 := T.2.1 6) (y7 := T.2.1 7) (y48 := cpI 0 (T.2.1 7) (T.2.1 48)) (y49 := T.2.1 49) (y50 := T.2.1 50) (y51 := T.2.1 51) (y52 := T.2.1 52) (y53 := T.2.1 53) (y54 := T.2.1 54) (v1 := s1) (x8 := 0) (x39 := T.1 39) (x40 := T.1 40) (x41 := T.1 41) (nI (imN (absN (T.2.1 5)) (absN (T.2.1 7)))) (fun v2 y => (f_X12_standingOf (T.2.1 5) y).bind (fun u1 => (f_X12_goesThrough u1 v2 (T.2.1 4) (T.2.1 5) y (T.1 39) (T.1 40) (T.1 41) (T.2.1 49) (T.2.1 50) (T.2.1 51) (T.2.1 52) (T.2.1 54)).bind (fun u2 => (if u2.1 = (-1) then some ((-2), 0, u2.2.1, u2.2.2.1, u2.2.2.2.1, u2.2.2.2.2.1, cpI 0 (T.2.1 7) (T.2.1 48), u2.2.2.2.2.2.1, u2.2.2.2.2.2.2.1, u2.2.2.2.2.2.2.2.1, u2.2.2.2.2.2.2.2.2.1, T.2.1 53, u2.2.2.2.2.2.2.2.2.2) else (if vin u2.1 20000 = true then (if s1 = (-1) then some ((u2.2.2.2.2.2.2.2.2.1 u2.1.toNatClampNeg), 0, u2.2.1, u2.2.2.1, u2.2.2.2.1, u2.2.2.2.2.1, cpI 0 (T.2.1 7) (T.2.1 48), u2.2.2.2.2.2.1, u2.2.2.2.2.2.2.1, u2.2.2.2.2.2.2.2.1, u2.2.2.2.2.2.2.2.2.1, T.2.1 53, u2.2.2.2.2.2.2.2.2.2) else (if s1 < (u2.2.2.2.2.2.2.2.2.1 u2.1.toNatClampNeg) then g_X12_shortest_169 FU s1 u2.1 ((u2.2.2.2.2.2.2.2.2.1 u2.1.toNatClampNeg) - 1) (T.2.1 4) (T.2.1 5) (T.2.1 6) (T.2.1 7) 0 u2.2.1 u2.2.2.1 u2.2.2.2.1 u2.2.2.2.2.1 (cpI 0 (T.2.1 7) (T.2.1 48)) u2.2.2.2.2.2.1 u2.2.2.2.2.2.2.1 u2.2.2.2.2.2.2.2.1 u2.2.2.2.2.2.2.2.2.1 (T.2.1 53) u2.2.2.2.2.2.2.2.2.2 else some ((-4), 0, u2.2.1, u2.2.2.1, u2.2.2.2.1, u2.2.2.2.2.1, cpI 0 (T.2.1 7) (T.2.1 48), u2.2.2.2.2.2.1, u2.2.2.2.2.2.2.1, u2.2.2.2.2.2.2.2.1, u2.2.2.2.2.2.2.2.2.1, T.2.1 53, u2.2.2.2.2.2.2.2.2.2))) else none)))))
          (fun fu y => by
            simp only [g_X12_shortest_96]
            rw [if_pos c6_ge]) FU 0 (cpI 0 (cpI 0 (T.2.1 7) (T.2.1 48)) (T.2.1 36)) (by omega) (by unfold FU; omega)
        have e96' : g_X12_shortest_96 FU s1 (nI (imN (absN (T.2.1 5)) (absN (T.2.1 7)))) 0 (T.2.1 4) (T.2.1 5) (T.2.1 6) (T.2.1 7) 0 (cpI 0 (cpI 0 (T.2.1 7) (T.2.1 48)) (T.2.1 36)) (T.1 39) (T.1 40) (T.1 41) (cpI 0 (T.2.1 7) (T.2.1 48)) (T.2.1 49) (T.2.1 50) (T.2.1 51) (T.2.1 52) (T.2.1 53) (T.2.1 54) = _ := e96
        rw [e96']
        rw [m_standOfF k3 (R6_cpI k4), Option.bind_some]
        rcases seek_both (y2 := (S 14).2 2) (y3 := (S 14).2 3) (y4 := (S 14).2 4) (y5 := y5') (y9 := (S 14).2 9) (y10 := (S 14).2 10) (d1 := (S 10).2 1) (d2 := (S 10).2 2) (z36 := cpI 0 (T.2.1 6) (cpI 0 (cpI 0 (T.2.1 7) (T.2.1 48)) (T.2.1 36))) (y49 := T.2.1 49) (y50 := T.2.1 50) (y51 := T.2.1 51) (y52 := T.2.1 52) (y54 := T.2.1 54) (x11 := (S 14).1 11) (e3 := (S 10).1 3) (e4 := (S 10).1 4) (e5 := (S 10).1 5) (e6 := (S 10).1 6) (e7 := (S 10).1 7) (e8 := (S 10).1 8) (x39 := T.1 39) (x40 := T.1 40) (x41 := T.1 41) vb t4 hc hp with ⟨u, w, q1, q2, q3, q4⟩ | ⟨c, Q, fr, qu, row, frow, bya, deep, seen, pos, u, z36', b1, b2, b3, q1, q2, q3, q4, q5, q6, q7⟩
        · rw [q1, Option.bind_some, q2, if_neg (by decide), q3, Option.bind_some, q4, if_pos rfl]
          exact ⟨_, _, rfl, rfl, rfl, hRel (-2) (u.2.2.2.2.2.2.2.1, u.2.2.2.2.2.2.2.2.1, u.2.2.2.2.2.2.2.2.2.1, u.2.2.2.2.2.2.2.2.2.2.1, u.2.2.2.2.2.2.2.2.2.2.2.1, u.2.2.2.2.2.2.2.2.2.2.2.2.1, u.2.2.2.2.2.2.2.2.2.2.2.2.2.1, u.2.2.2.2.2.2.2.2.2.2.2.2.2.2, _, u.2.1, u.2.2.1, u.2.2.2.1, u.2.2.2.2.1, u.2.2.2.2.2.1, u.2.2.2.2.2.2.1) _⟩
        · have hlen := JB_len q1
          have hN := hc.1
          obtain ⟨-, -, jd⟩ := q1.2.2.1 pos q2
          rw [q4, Option.bind_some, q5, if_pos (show (0 : Int32) ≤ nI (Q pos).2.2.2 from (nI_leI (a := 0) (by omega) (by omega)).mpr (by omega)), q7, Option.bind_some]
          dsimp only
          rw [if_neg (show ¬ nI pos = -1 from fun x => by
            rw [i_eq, nI_toInt (by omega)] at x
            have e2 : (-1 : Int32).toInt = -1 := rfl
            omega), if_pos (vin_nI (show pos < 20000 by omega) (by omega)), nc pos (by omega)]
          simp only [jd]
          by_cases hm1 : s1 = -1
          · rw [if_pos hm1, if_pos hm1]
            exact ⟨_, _, rfl, rfl, rfl, hRel _ (u.2.2.2.2.2.2.2.1, u.2.2.2.2.2.2.2.2.1, u.2.2.2.2.2.2.2.2.2.1, u.2.2.2.2.2.2.2.2.2.2.1, u.2.2.2.2.2.2.2.2.2.2.2.1, u.2.2.2.2.2.2.2.2.2.2.2.2.1, u.2.2.2.2.2.2.2.2.2.2.2.2.2.1, u.2.2.2.2.2.2.2.2.2.2.2.2.2.2, _, u.2.1, u.2.2.1, u.2.2.2.1, u.2.2.2.2.1, u.2.2.2.2.2.1, u.2.2.2.2.2.2.1) _⟩
          · rw [if_neg hm1, if_neg hm1]
            have h20 : (0 : Int32) ≤ s1 := by
              have := h1.1
              rw [i_le] at this ⊢
              have e1 : (-1 : Int32).toInt = -1 := rfl
              have e0 : (0 : Int32).toInt = 0 := rfl
              have : s1.toInt ≠ -1 := fun h => hm1 (by rw [i_eq]; exact h)
              omega
            obtain ⟨what, hwh, rfl⟩ := of_rng (x := s1) (n := 99) (by omega) h20 h1.2
            rw [ite_le (by omega) (by omega), ite_lt (by omega) (by omega)]
            by_cases hlt : what < (Q pos).2.2.2
            · obtain ⟨u', y53', p1, p2, p2b, p3, -⟩ := m_retr hN q1 (what := what) (by omega) (k4 := T.2.1 4) (k5 := T.2.1 5) (k6 := T.2.1 6) (k7 := T.2.1 7) (z36 := z36') (z48 := cpI 0 (T.2.1 7) (T.2.1 48)) (z49 := row) (z52 := deep) (z54 := seen) (x8 := 0) (x39 := b1) (x40 := b2) (x41 := b3) (Q pos).2.2.2 FU pos (T.2.1 53) q2 rfl q3 (by unfold FU; omega)
              rw [if_neg (by omega), if_pos (vin_nI (show what < 100 by omega) (by omega)), nc what (by omega), if_pos hlt, p1]
              refine ⟨_, _, rfl, rfl, ?_, ?_⟩
              · show u.2.1 what = u'.1
                rw [p2, q6 what hlt, p3 what hlt]
              · have := hRel (u.2.1 what) (u.2.2.2.2.2.2.2.1, u.2.2.2.2.2.2.2.2.1, u.2.2.2.2.2.2.2.2.2.1, u.2.2.2.2.2.2.2.2.2.2.1, u.2.2.2.2.2.2.2.2.2.2.2.1, u.2.2.2.2.2.2.2.2.2.2.2.2.1, u.2.2.2.2.2.2.2.2.2.2.2.2.2.1, u.2.2.2.2.2.2.2.2.2.2.2.2.2.2, cpI 0 (fun j => T.2.1 7 j &&& 255) ((S 14).2 2), u.2.1, u.2.2.1, u.2.2.2.1, u.2.2.2.2.1, u.2.2.2.2.2.1, u.2.2.2.2.2.2.1) u'.2.2
                have ew : stM_shortest T (u.2.1 what, 0, u'.2.2) = stM_shortest T u' := by
                  unfold stM_shortest
                  rw [p2b]
                rw [ew] at this
                exact this
            · rw [if_pos (by omega), if_neg hlt]
              exact ⟨_, _, rfl, rfl, rfl, hRel _ (u.2.2.2.2.2.2.2.1, u.2.2.2.2.2.2.2.2.1, u.2.2.2.2.2.2.2.2.2.1, u.2.2.2.2.2.2.2.2.2.2.1, u.2.2.2.2.2.2.2.2.2.2.2.1, u.2.2.2.2.2.2.2.2.2.2.2.2.1, u.2.2.2.2.2.2.2.2.2.2.2.2.2.1, u.2.2.2.2.2.2.2.2.2.2.2.2.2.2, _, u.2.1, u.2.2.1, u.2.2.2.1, u.2.2.2.2.1, u.2.2.2.2.2.1, u.2.2.2.2.2.2.1) _⟩
      · obtain ⟨y5', c2'⟩ := c2 hc
        rw [c2', Option.bind_some, if_pos (show (0 : Int32) = 0 from rfl), c4 hc, Option.bind_some, if_pos rfl]
        exact ⟨_, _, rfl, rfl, rfl, hRel (-3) ((S 10).2 1, (S 10).2 2, (S 10).1 3, (S 10).1 4, (S 10).1 5, (S 10).1 6, (S 10).1 7, (S 10).1 8, _, (S 14).2 3, (S 14).2 4, y5', (S 14).2 9, (S 14).2 10, (S 14).1 11) _⟩
    · simp only [if_neg h5]
      exact ⟨_, _, rfl, rfl, rfl, ⟨t1, rfl, ⟨tn, tn1, tn2⟩, t4⟩, ⟨v1, v2, v3, vb⟩, ⟨r0, r1, r2⟩, hs, hp, hm, hb, hk⟩
  · simp only [if_neg h1, if_true]
    exact ⟨_, _, rfl, rfl, rfl, ⟨t1, t2, ⟨tn, tn1, tn2⟩, t4⟩, ⟨v1, v2, v3, vb⟩, ⟨r0, r1, r2⟩, hs, hp, hm, hb, hk⟩
