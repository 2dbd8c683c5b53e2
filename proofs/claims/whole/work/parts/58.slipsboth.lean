/-- whether a step may be slipped -/
theorem x_maySlip {n : Nat} {P : PG} {c fi se nx ot : Nat → Int32} (hn : n ≤ 120) (hw : PWf n P) (hX : RX n P c fi se nx ot) {i : Nat} (hi : i < n) : f_X4_maySlip (nI i) c (nI n) = some (if (P i).1 < 4 then 1 else 0) := by
  unfold f_X4_maySlip g_X4_maySlip_0
  have h6 := (hw i hi).1
  rw [show nI n - 1 = nI (n - 1) from nI_m (by omega), w_nI (a := 0) (b := n - 1) (aa := 0) (by omega) (by omega) (by omega) rfl rfl, if_pos (by omega), Option.bind_some, if_neg (by decide), if_pos (vin_nI (by omega) (by omega)), nc i (by omega), (hX i hi).1]
  have hx : xop (P i).1 ≤ 6 ∧ (3 < xop (P i).1 ↔ ¬ (P i).1 < 4) := by
    unfold xop
    by_cases h5 : (P i).1 = 5
    · rw [if_pos h5]; omega
    · rw [if_neg h5]
      by_cases h6' : (P i).1 = 6
      · rw [if_pos h6']; omega
      · rw [if_neg h6']; omega
  rw [show (3 : Int32) = nI 3 from rfl, ite_lt (by omega) (by omega)]
  by_cases h : (P i).1 < 4
  · rw [if_neg (by omega), if_pos h]
  · rw [if_pos (by omega), if_neg h]
theorem m_isActAt {w n : Nat} {P : PG} {op a bb lo : Nat → Int32} (hw3 : w < 3) (hn : n ≤ 120) (hlo : lo w = nI n) (hw : PWf n P) (hM : RMo w n P op a bb) {i : Nat} (hi : i < n) : f_X12_isActAt (nI w) op lo (nI i) = some (if (P i).1 < 4 then 1 else 0) := by
  unfold f_X12_isActAt g_X12_isActAt_0
  have h6 := (hw i hi).1
  have e : (160 : Int32) * nI w + nI i = nI (160 * w + i) := by rw [show (160 : Int32) = nI 160 from rfl, pk_mul, nI_add]
  rw [if_pos (vin_nI hw3 (by omega)), nc w (by omega), hlo, ite_le (by omega) (by omega), if_neg (by omega), e, if_pos (vin_nI (by omega) (by omega)), nc _ (by omega), (hM i hi).1, show (4 : Int32) = nI 4 from rfl, ite_le (by omega) (by omega)]
  by_cases h : (P i).1 < 4
  · rw [if_neg (by omega), if_pos h]
  · rw [if_pos (by omega), if_neg h]
theorem x_copyC (k1 k2 : Nat → Int32) (l3 l4 l5 l6 l7 l8 : Int32) (y1 y2 : Nat → Int32) (e3 e4 e5 e6 e7 e8 : Int32) : f_X0_copy k1 k2 l3 l4 l5 l6 l7 l8 y1 y2 e3 e4 e5 e6 e7 e8 = some (cpI 0 y1 k1, cpI 0 y2 k2, e3, e4, e5, e6, e7, e8) := by
  unfold f_X0_copy g_X0_copy_0
  rw [x_copyM, Option.bind_some, x_copyM, Option.bind_some]
theorem slips_both {S : XS} {T : MS} (hs : RS ((S 7).2 0) ((S 7).2 1) ((S 7).1 2) (T.2.1 19) (T.1 16)) {w : Nat} (hw3 : w < 3) {c fi se nx ot : Nat → Int32} {sz ac : Int32} (hRR : RR w c fi se nx ot sz ac (T.2.1 25) (T.2.1 26) (T.2.1 27) (T.2.1 28) (T.2.1 29)) {rs : Int32} (vb : RV (T.2.1 4) (T.2.1 5) (T.2.1 6) rs) {lim t : Nat} (hlim : lim ≤ 2000) (ht : t < 1000) {v3 : Int32} (hv : ((v3 - v3 / 2 * 2) = 0 ∧ t = 0) ∨ (¬ (v3 - v3 / 2 * 2) = 0 ∧ t = 2)) (first : Bool) (hfi : 2 ≤ v3 ↔ first = true)
    (d1 d2 : Nat → Int32) (e3 e4 e5 e6 e7 e8 : Int32) (k1 k2 : Nat → Int32) (l3 l4 l5 l6 l7 l8 : Int32) (mk : Nat → Int32) (x10 x11 x12 x13 x14 : Int32) (h3 : Nat → Int32) (h4 h5 h6 : Int32) :
    ∃ r : Int32, (∃ u, f_X11_unfelt (nI lim) (nI t) (if first = true then 1 else 0) c fi se nx ot sz d1 d2 e3 e4 e5 e6 e7 e8 k1 k2 l3 l4 l5 l6 l7 l8 mk x10 x11 x12 x13 x14 ((S 7).2 0) ((S 7).2 1) ((S 7).1 2) h3 h4 h5 h6 (T.2.1 4) (T.2.1 5) (T.2.1 6) rs = some u ∧ u.1 = r) ∧
      (∃ u4 u5 u, f_X12_startsFromm (T.2.1 6) (T.2.1 35) (T.2.1 36) (T.1 37) (T.1 38) (T.1 39) (T.1 40) (T.1 41) (T.1 42) = some u4 ∧ f_X12_runsOn (nI w) (nI lim) (T.2.1 4) (T.2.1 5) (T.2.1 25) (T.2.1 26) (T.2.1 27) (T.2.1 28) u4.2.1 u4.2.2.1 u4.2.2.2.1 u4.2.2.2.2.1 u4.2.2.2.2.2.1 u4.2.2.2.2.2.2.1 u4.2.2.2.2.2.2.2 = some u5 ∧ g_X12_slips_59 FU (nI w) (nI lim) v3 u5.2.2.1 0 (-2) 1 (T.2.1 4) (T.2.1 5) (T.2.1 6) (T.1 16) (T.2.1 19) (T.2.1 20) (T.2.1 21) (T.2.1 25) (T.2.1 26) (T.2.1 27) (T.2.1 28) u4.1 u5.1 u5.2.1 u5.2.2.1 u5.2.2.2.1 u5.2.2.2.2.1 u5.2.2.2.2.2.1 u5.2.2.2.2.2.2 = some u ∧ u.1 = r) := by
  obtain ⟨n, P, hn, e1, e2, -, hw, hp0, hX, hMo⟩ := hRR
  subst e1
  obtain ⟨q1, q2, q3, q4, q5, q6⟩ := RV_abs vb
  have hG0 : GS n P (absN (T.2.1 5)) (st0 (absN (T.2.1 6)) 0) := GS_0 hp0 (by omega) q5 (Z6_abs _)
  obtain ⟨A, a1, a2, a3, a4⟩ := run_len0 (K := absN (T.2.1 4)) (lim := lim) hw hp0 (show 0 < 1009 by omega) q5 (Z6_abs (T.2.1 6))
  have hGi : ∀ i, i < A → GS n P (absN (T.2.1 5)) (it n P (absN (T.2.1 4)) (absN (T.2.1 5)) i (st0 (absN (T.2.1 6)) 0)) := fun i hi => GS_it hw i _ hG0 (fun j hj => a2 j (by omega))
  have hex : ∀ i : Nat, ∃ r : Bool, (∀ (bx nx hh : Nat → Int32) (x4 x5 x6 : Int32), (∀ j, j < 6 → bx j = nI (absN (T.2.1 6) j)) → (∀ j, j < 6 → nx j = nI ((aRun n P (absN (T.2.1 4)) (absN (T.2.1 5)) lim (aStep n P (absN (T.2.1 4)) (absN (T.2.1 5)) t (it n P (absN (T.2.1 4)) (absN (T.2.1 5)) i (st0 (absN (T.2.1 6)) 0)))).1.1 j)) → ∃ (hx' : Nat → Int32) (y4 y5 y6 : Int32), f_X6_holds ((S 7).2 0) ((S 7).2 1) ((S 7).1 2) hh x4 x5 x6 bx nx (nI (aRun n P (absN (T.2.1 4)) (absN (T.2.1 5)) lim (aStep n P (absN (T.2.1 4)) (absN (T.2.1 5)) t (it n P (absN (T.2.1 4)) (absN (T.2.1 5)) i (st0 (absN (T.2.1 6)) 0)))).1.2.1) (nI (aRun n P (absN (T.2.1 4)) (absN (T.2.1 5)) lim (aStep n P (absN (T.2.1 4)) (absN (T.2.1 5)) t (it n P (absN (T.2.1 4)) (absN (T.2.1 5)) i (st0 (absN (T.2.1 6)) 0)))).1.2.2.1) (nI (aRun n P (absN (T.2.1 4)) (absN (T.2.1 5)) lim (aStep n P (absN (T.2.1 4)) (absN (T.2.1 5)) t (it n P (absN (T.2.1 4)) (absN (T.2.1 5)) i (st0 (absN (T.2.1 6)) 0)))).2.1) (nI (aRun n P (absN (T.2.1 4)) (absN (T.2.1 5)) lim (aStep n P (absN (T.2.1 4)) (absN (T.2.1 5)) t (it n P (absN (T.2.1 4)) (absN (T.2.1 5)) i (st0 (absN (T.2.1 6)) 0)))).2.2.2) = some ((if r = true then 1 else 0), hx', y4, y5, y6)) ∧ (∀ (bm nm y20 y21 : Nat → Int32), (∀ j, j < 6 → bm j = nI (absN (T.2.1 6) j)) → (∀ j, j < 6 → nm j = nI ((aRun n P (absN (T.2.1 4)) (absN (T.2.1 5)) lim (aStep n P (absN (T.2.1 4)) (absN (T.2.1 5)) t (it n P (absN (T.2.1 4)) (absN (T.2.1 5)) i (st0 (absN (T.2.1 6)) 0)))).1.1 j)) → ∃ (y20' y21' : Nat → Int32), f_X12_specHolds (T.1 16) (T.2.1 19) y20 y21 bm nm (nI (aRun n P (absN (T.2.1 4)) (absN (T.2.1 5)) lim (aStep n P (absN (T.2.1 4)) (absN (T.2.1 5)) t (it n P (absN (T.2.1 4)) (absN (T.2.1 5)) i (st0 (absN (T.2.1 6)) 0)))).2.1) (nI (aRun n P (absN (T.2.1 4)) (absN (T.2.1 5)) lim (aStep n P (absN (T.2.1 4)) (absN (T.2.1 5)) t (it n P (absN (T.2.1 4)) (absN (T.2.1 5)) i (st0 (absN (T.2.1 6)) 0)))).1.2.1) (nI (aRun n P (absN (T.2.1 4)) (absN (T.2.1 5)) lim (aStep n P (absN (T.2.1 4)) (absN (T.2.1 5)) t (it n P (absN (T.2.1 4)) (absN (T.2.1 5)) i (st0 (absN (T.2.1 6)) 0)))).1.2.2.1) (nI (aRun n P (absN (T.2.1 4)) (absN (T.2.1 5)) lim (aStep n P (absN (T.2.1 4)) (absN (T.2.1 5)) t (it n P (absN (T.2.1 4)) (absN (T.2.1 5)) i (st0 (absN (T.2.1 6)) 0)))).2.2.2) = some ((if r = true then 1 else 0), y20', y21')) :=
    fun i => spec_fun hs (fun j => nI (absN (T.2.1 6) j)) (fun j => nI ((aRun n P (absN (T.2.1 4)) (absN (T.2.1 5)) lim (aStep n P (absN (T.2.1 4)) (absN (T.2.1 5)) t (it n P (absN (T.2.1 4)) (absN (T.2.1 5)) i (st0 (absN (T.2.1 6)) 0)))).1.1 j)) _ _ _ _
  obtain ⟨q, hq⟩ := Classical.axiomOfChoice hex
  refine ⟨ansS first (walkS (fun i => decide ((P (it n P (absN (T.2.1 4)) (absN (T.2.1 5)) i (st0 (absN (T.2.1 6)) 0)).2.2.1).1 < 4) && q i) A 0 0 0), ?_, ?_⟩
  · obtain ⟨u, g1, g2⟩ := x_unfelt (n := n) (lim := lim) (t := t) (A := A) (P := P) (c := c) (fi := fi) (se := se) (nx := nx) (ot := ot) (kf := T.2.1 4) (b := T.2.1 5) (ms := T.2.1 6) (sc := (S 7).2 0) (sw := (S 7).2 1) (rs := rs) (ssz := (S 7).1 2) (p := fun i => decide ((P (it n P (absN (T.2.1 4)) (absN (T.2.1 5)) i (st0 (absN (T.2.1 6)) 0)).2.2.1).1 < 4) && q i) (s0 := st0 (absN (T.2.1 6)) 0) first a1 hlim rfl a3 hn a2 (y21 := cpI 0 (T.2.1 6) d1)
      (fun i hi f hf => by
        obtain ⟨f', t1, t2⟩ := x_step hn hw q1 q2 q3 q6 hX hf (hGi i hi).1 (a2 i hi) (hGi i hi).2.2.1 1 (by omega)
        rw [it_succ]
        exact ⟨f', t1, t2⟩)
      (fun i hi f k1 k2 l3 l4 l5 l6 l7 l8 mk x10 x11 x12 x13 x14 h3 h4 h5 h6 hf => by
        rw [x_maySlip hn hw hX (a2 i hi)]
        by_cases hp4 : (P (it n P (absN (T.2.1 4)) (absN (T.2.1 5)) i (st0 (absN (T.2.1 6)) 0)).2.2.1).1 < 4
        · rw [if_pos hp4]
          refine Or.inr ⟨rfl, ?_⟩
          have hGt := GS_step (K := absN (T.2.1 4)) hw (hGi i hi) (a2 i hi) t
          have hen : (aStep n P (absN (T.2.1 4)) (absN (T.2.1 5)) t (it n P (absN (T.2.1 4)) (absN (T.2.1 5)) i (st0 (absN (T.2.1 6)) 0))).2.2.2 = 0 := by
            rcases aStep_en (n := n) (P := P) (K := absN (T.2.1 4)) (B := absN (T.2.1 5)) (GS_en (hGi i hi) (a2 i hi)) t with z | z
            · exact z.1
            · omega
          obtain ⟨f1, t1, t2⟩ := x_step hn hw q1 q2 q3 q6 hX (R6_cpI (g := k2) hf) (hGi i hi).1 (a2 i hi) (hGi i hi).2.2.1 t ht
          obtain ⟨f', mk', p', b1, b2, b3, b4, b5, t3, t4⟩ := x_go hn hw q1 q2 q3 q6 hX (lim := lim) (by omega) (s := (aStep n P (absN (T.2.1 4)) (absN (T.2.1 5)) t (it n P (absN (T.2.1 4)) (absN (T.2.1 5)) i (st0 (absN (T.2.1 6)) 0)))) mk x10 x11 x12 x13 x14 hen (by rw [aStep_st, it_st]; show 0 + i + 1 ≤ lim; omega) t2 hGt.1 hGt.2.1 hGt.2.2.1 hGt.2.2.2.1
          obtain ⟨hx', y4, y5, y6, t5⟩ := (hq i).1 (cpI 0 (cpI 0 (T.2.1 6) d1) k1) f' h3 h4 h5 h6 (fun j hj => by rw [cpI_lt hj, cpI_lt hj]; exact q4 j hj) t4
          refine ⟨_, _, _, _, x_copyC _ _ _ _ _ _ _ _ _ _ _ _ _ _ _ _, t1, t3, t5, ?_⟩
          show _ = (if (decide _ && q i) = true then (1 : Int32) else 0)
          rw [decide_eq_true hp4, Bool.true_and]
        · rw [if_neg hp4]
          refine Or.inl ⟨?_, rfl⟩
          show (decide _ && q i) = false
          rw [decide_eq_false hp4, Bool.false_and])
      FU A 0 0 0 (cpI 0 (T.2.1 6) d2) k1 k2 l3 l4 l5 l6 l7 l8 mk x10 x11 x12 x13 x14 h3 h4 h5 h6 (by omega) (by unfold FU; omega) (by omega) (R6_cpI q4) (Or.inr rfl)
    refine ⟨u, ?_, g2⟩
    unfold f_X11_unfelt g_X11_unfelt_0
    rw [x_start, Option.bind_some]
    exact g1
  · obtain ⟨g', p', t1, t2⟩ := m_runR hw3 hn e2 hw hp0 hMo vb (lim := lim) (co := 0) (by omega) (by omega) q5 (R6_cpI (g := T.2.1 36) q4)
    have t1' : f_X12_runsOn (nI w) (nI lim) (T.2.1 4) (T.2.1 5) (T.2.1 25) (T.2.1 26) (T.2.1 27) (T.2.1 28) (cpI 0 (T.2.1 6) (T.2.1 36)) 0 0 0 0 0 0 = _ := t1
    obtain ⟨u, g1, g2⟩ := m_slips (w := w) (lim := lim) (t := t) (A := A) (kf := T.2.1 4) (b := T.2.1 5) (ms := T.2.1 6) (op := T.2.1 25) (a := T.2.1 26) (bb := T.2.1 27) (lo := T.2.1 28) (co := T.2.1 19) (sm := T.1 16) (p := fun i => decide ((P (it n P (absN (T.2.1 4)) (absN (T.2.1 5)) i (st0 (absN (T.2.1 6)) 0)).2.2.1).1 < 4) && q i) v3 hv first hfi (by omega)
      (fun i hi h1 h2 y35 y36 e1 e2' e3 e4 e5 e6 => by
        unfold f_X12_isNotFelt g_X12_isNotFelt_0
        rw [m_startmF, Option.bind_some]
        dsimp only
        have eg : f_X12_goesOn (nI w) (T.2.1 25) (T.2.1 27) (T.2.1 28) 0 = some 0 := by
          have := m_goesF hw3 hn e2 hw hMo (i := 0) (Nat.zero_le _)
          rw [chf_stop hp0] at this
          exact this
        rw [eg, Option.bind_some]
        refine m_notFelt (w := w) (n := n) (lim := lim) (t := t) (P := P) (rs := rs) (s0 := st0 (absN (T.2.1 6)) 0) (i := i) hw3 hn e2 hw hMo vb hG0 rfl (by omega) (fun j hj => a2 j (by omega)) (Q := fun o => ∃ u, o = some u ∧ u.1 = (if (decide ((P (it n P (absN (T.2.1 4)) (absN (T.2.1 5)) i (st0 (absN (T.2.1 6)) 0)).2.2.1).1 < 4) && q i) = true then 1 else 0)) (fun f hf => ?_) FU 0 (cpI 0 (T.2.1 6) y36) (by omega) (by unfold FU; omega) (R6_cpI q4)
        rw [m_isActAt hw3 hn e2 hw hMo (a2 i hi), Option.bind_some]
        by_cases h4 : (P (it n P (absN (T.2.1 4)) (absN (T.2.1 5)) i (st0 (absN (T.2.1 6)) 0)).2.2.1).1 < 4
        · rw [if_pos h4, if_neg (by decide), decide_eq_true h4, Bool.true_and]
          have hGt := GS_step (K := absN (T.2.1 4)) hw (hGi i hi) (a2 i hi) t
          have hen : (aStep n P (absN (T.2.1 4)) (absN (T.2.1 5)) t (it n P (absN (T.2.1 4)) (absN (T.2.1 5)) i (st0 (absN (T.2.1 6)) 0))).2.2.2 = 0 := by
            rcases aStep_en (n := n) (P := P) (K := absN (T.2.1 4)) (B := absN (T.2.1 5)) (GS_en (hGi i hi) (a2 i hi)) t with z | z
            · exact z.1
            · omega
          obtain ⟨f', p'', s1, s2, s3, s4⟩ := m_stepG hw3 hn e2 hw hMo q1 q2 q3 hf (hGi i hi) (a2 i hi) t ht
          have s3' := s3 hen
          subst s3'
          rw [s1, Option.bind_some]
          dsimp only
          obtain ⟨g'', p3, s5, s6⟩ := m_runs (s := (aStep n P (absN (T.2.1 4)) (absN (T.2.1 5)) t (it n P (absN (T.2.1 4)) (absN (T.2.1 5)) i (st0 (absN (T.2.1 6)) 0)))) hw3 hn e2 hw hMo q1 q2 q3 (lim := lim) (by omega) s2 hGt.1 hGt.2.2.2.1 hGt.2.2.1 (by omega) (by rw [aStep_st, it_st]; show 0 + i + 1 ≤ 30000; omega)
          rw [s5, Option.bind_some]
          dsimp only
          obtain ⟨y20', y21', s7⟩ := (hq i).2 (cpI 0 (T.2.1 6) y35) g'' h1 h2 (fun j hj => by rw [cpI_lt hj]; exact q4 j hj) s6
          rw [s7, Option.bind_some]
          dsimp only
          rw [if_pos (zB_01 _)]
          exact ⟨_, rfl, rfl⟩
        · rw [if_neg h4, if_pos rfl, decide_eq_false h4, Bool.false_and]
          exact ⟨_, rfl, rfl⟩)
      FU A 0 0 0 (T.2.1 20) (T.2.1 21) (cpI 0 (T.2.1 6) (T.2.1 35)) g' (nI p') (nI (RUN n P (T.2.1 4) (T.2.1 5) lim (absN (T.2.1 6)) 0).2.1) (nI (RUN n P (T.2.1 4) (T.2.1 5) lim (absN (T.2.1 6)) 0).1.2.1) (nI (RUN n P (T.2.1 4) (T.2.1 5) lim (absN (T.2.1 6)) 0).1.2.2.1) (nI (RUN n P (T.2.1 4) (T.2.1 5) lim (absN (T.2.1 6)) 0).1.2.2.2) (nI (RUN n P (T.2.1 4) (T.2.1 5) lim (absN (T.2.1 6)) 0).2.2.2) (by omega) (by unfold FU; omega) (by omega)
    refine ⟨_, _, u, m_startmF _ _ _ _ _ _ _ _ _, t1', ?_, g2⟩
    have ea : (RUN n P (T.2.1 4) (T.2.1 5) lim (absN (T.2.1 6)) 0).2.1 = A := a4
    rw [ea] at g1
    dsimp only
    rw [ea]
    exact g1
