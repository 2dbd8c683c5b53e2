theorem it_same {n : Nat} {P : PG} {K B : Nat → Nat} {s s' : AS} (h1 : s.1.1 = s'.1.1) (h2 : s.2.2 = s'.2.2) (c1 : s.1.2.2.2 < 1009) (c2 : s'.1.2.2.2 < 1009) (k : Nat) : (it n P K B k s).2.2 = (it n P K B k s').2.2 ∧ (it n P K B k s).1.1 = (it n P K B k s').1.1 := by
  obtain ⟨⟨m, sp, cl, co⟩, st, pl, en⟩ := s
  obtain ⟨⟨m', sp', cl', co'⟩, st', pl', en'⟩ := s'
  cases h1
  cases h2
  obtain ⟨m1, pl1, en1, a, b, c, h⟩ := eff_it n P K B k m pl en
  rw [h sp cl co st c1, h sp' cl' co' st' c2]
  exact ⟨rfl, rfl⟩
theorem it_st {n : Nat} {P : PG} {K B : Nat → Nat} : ∀ (k : Nat) (s : AS), (it n P K B k s).2.1 = s.2.1 + k
  | 0, s => rfl
  | k + 1, s => by
    show (it n P K B k (aStep n P K B 1 s)).2.1 = _
    rw [it_st k, aStep_st]; omega
theorem it_co {n : Nat} {P : PG} {K B : Nat → Nat} {s : AS} (h : s.1.2.2.2 < 1009) (k : Nat) : (it n P K B k s).1.2.2.2 < 1009 := by
  obtain ⟨⟨m, sp, cl, co⟩, st, pl, en⟩ := s
  obtain ⟨m1, pl1, en1, a, b, c, h1⟩ := eff_it n P K B k m pl en
  rw [h1 sp cl co st h]
  exact Nat.mod_lt _ (by omega)
def lv (n : Nat) (s : AS) : Prop := s.2.2.2 = 0 ∧ s.2.2.1 < n
/-- back at the mark: r rounds on, and all standings on the way are alive -/
theorem round_on {n : Nat} {P : PG} {K B : Nat → Nat} {M0 s1 : AS} {k : Nat} (hk : 0 < k) (hs1 : s1 = it n P K B k M0) (hlv : ∀ i, i < k → lv n (it n P K B i M0)) (hm : s1.1.1 = M0.1.1) (hp : s1.2.2 = M0.2.2) (hc : M0.1.2.2.2 < 1009) : ∃ b c, M0.1.2.1 ≤ s1.1.2.1 ∧ M0.1.2.2.1 + b = s1.1.2.2.1 ∧ s1.1.2.2.2 = (7 ^ b * M0.1.2.2.2 + c) % 1009 ∧ ∀ r, it n P K B (r * k) s1 = ((s1.1.1, s1.1.2.1 + r * (s1.1.2.1 - M0.1.2.1), s1.1.2.2.1 + r * b, colr b c r s1.1.2.2.2), s1.2.1 + r * k, s1.2.2) ∧ ∀ i, i < r * k → lv n (it n P K B i s1) := by
  obtain ⟨⟨m, sp, cl, co⟩, st, pl, en⟩ := M0
  obtain ⟨m1, pl1, en1, a, b, c, h⟩ := eff_it n P K B k m pl en
  have e1 := h sp cl co st hc
  rw [← hs1] at e1
  subst e1
  cases hm
  cases hp
  refine ⟨b, c, Nat.le_add_right _ _, rfl, rfl, fun r => ⟨?_, fun i hi => ?_⟩⟩
  · rw [it_roundsC h r _ _ _ _ (Nat.mod_lt _ (by omega))]
    show ((m, sp + a + r * a, _, _), _, _) = ((m, sp + a + r * (sp + a - sp), _, _), _, _)
    rw [Nat.add_sub_cancel_left]
  · have e2 : i = i / k * k + i % k := by rw [Nat.mul_comm]; exact (Nat.div_add_mod i k).symm
    rw [e2, it_add, it_roundsC h (i / k) _ _ _ _ (Nat.mod_lt _ (by omega))]
    have hcol : ∀ (q co0 : Nat), co0 < 1009 → colr b c q co0 < 1009 := by
      intro q
      induction q with
      | zero => intro co0 h0; exact h0
      | succ q ih => intro co0 _; exact ih _ (Nat.mod_lt _ (by omega))
    obtain ⟨q1, -⟩ := it_same (n := n) (P := P) (K := K) (B := B) (s := ((m, sp + a + i / k * a, cl + b + i / k * b, colr b c (i / k) ((7 ^ b * co + c) % 1009)), st + k + i / k * k, pl, en)) (s' := ((m, sp, cl, co), st, pl, en)) rfl rfl (hcol _ _ (Nat.mod_lt _ (by omega))) hc (i % k)
    have q2 := hlv (i % k) (Nat.mod_lt _ hk)
    unfold lv at q2 ⊢
    rw [q1]
    exact q2
section GO
variable {n : Nat} {P : PG} {K B : Nat → Nat} {kf b : Nat → Int32} {rs : Int32} {lim : Nat}
theorem go_end (c fi se nx ot : Nat → Int32) (v3 i4 : Int32) {e4 : Int32} (he : ¬ e4 = 0) (f : Nat → Int32) (x3 x4 x5 x6 x7 : Int32) (mk : Nat → Int32) (a1 a2 a3 a4 a5 v2 sz : Int32) (fu : Nat) : g_X0_go_10 (fu + 1) v2 v3 i4 f x3 x4 x5 x6 x7 e4 mk a1 a2 a3 a4 a5 c fi se nx ot sz kf b rs = some (f, x3, x4, x5, x6, x7, e4, mk, a1, a2, a3, a4, a5) := by
  simp only [g_X0_go_10]
  rw [if_neg he]
  by_cases h : v2 < i4
  · rw [if_pos h]
  · rw [if_neg h]
/-- what stands in the loop of go -/
def GI (n : Nat) (P : PG) (K B : Nat → Nat) (s M0 : AS) (j : Nat) : Prop := s = it n P K B j M0 ∧ (∀ i, i < j → lv n (it n P K B i M0)) ∧ M0.1.2.2.2 < 1009 ∧ Z6 M0.1.1 ∧ MB B M0.1.1
theorem go_loop (hn : n ≤ 120) (hw : PWf n P) (hk : R6 kf K) (hK : ∀ j, j < 6 → K j ≤ 3) (hb : R6 b B) (hrs : rs = 0 → ∀ j, j < 6 → ¬ K j = 1 ∧ ¬ K j = 3) {c fi se nx ot : Nat → Int32} (hR : RX n P c fi se nx ot) (hlim : lim ≤ 20000) : ∀ (fu : Nat) (v3 : Int32) (i : Nat) (s : AS) (f : Nat → Int32) (M0 : AS) (mk : Nat → Int32) (j : Nat), lim - s.2.1 + 3 ≤ fu → s.2.2.2 = 0 → i ≤ s.2.1 → s.2.1 ≤ lim → R6 f s.1.1 → PHb B s.1 → Z6 s.1.1 → stopd n P s.2.2.1 → s.2.2.1 ≤ n → R6 mk M0.1.1 → M0.2.2.1 ≤ n → s.1.2.2.1 ≤ M0.1.2.2.1 + j → GI n P K B s M0 j →
    ∃ (f' mk' : Nat → Int32) (p' a1 a2 a3 a4 a5 : Int32), g_X0_go_10 fu (nI lim) v3 (nI i) f (nI s.1.2.1) (nI s.1.2.2.1) (nI s.1.2.2.2) (nI s.2.1) (nI s.2.2.1) (nI s.2.2.2) mk (nI M0.2.2.1) (nI M0.2.1) (nI M0.1.2.1) (nI M0.1.2.2.1) (nI M0.1.2.2.2) c fi se nx ot (nI n) kf b rs = some (f', nI (aRun n P K B lim s).1.2.1, nI (aRun n P K B lim s).1.2.2.1, nI (aRun n P K B lim s).1.2.2.2, nI (aRun n P K B lim s).2.1, p', nI (aRun n P K B lim s).2.2.2, mk', a1, a2, a3, a4, a5) ∧ R6 f' (aRun n P K B lim s).1.1 := by
  intro fu
  induction fu with
  | zero => intro v3 i s f M0 mk j h; omega
  | succ fu ih =>
    intro v3 i s f M0 mk j h1 hen hi hst hf hs hz hsd hpn hmk hmp hcl hG
    rw [hen]
    simp only [g_X0_go_10]
    obtain ⟨fu', rfl⟩ : ∃ fu', fu = fu' + 1 := ⟨fu - 1, by omega⟩
    rw [ite_lt (by omega) (by omega), if_neg (show ¬ lim < i by omega), if_pos (show nI 0 = 0 from rfl), ite_lt (by omega) (by omega), nI_s]
    by_cases hpl : s.2.2.1 < n
    · rw [if_pos hpl, ite_lt (by omega) (by omega)]
      by_cases hsl : s.2.1 < lim
      · rw [if_pos hsl, aRun_go ⟨hen, hpl, hsl⟩]
        obtain ⟨f1, e1, r1⟩ := x_step hn hw hk hK hb hrs hR hf hs hpl hsd 1 (by omega)
        obtain ⟨k1, k2, k3, k4, k5, k6⟩ := aStep_ok (K := K) hw hs hpl hsd 1
        have z1 := Z6_step (K := K) (B := B) hw hz hpl hsd 1
        have hen2 : (aStep n P K B 1 s).2.2.2 = 0 ∨ (aStep n P K B 1 s).2.2.1 = n ∧ (aStep n P K B 1 s).2.2.2 = 2 := by
          unfold aStep
          by_cases g4 : (P s.2.2.1).1 = 4
          · rw [if_pos g4]; exact Or.inl hen
          · by_cases g6 : (P s.2.2.1).1 = 6
            · rw [if_neg g4, if_pos g6]; exact Or.inr ⟨rfl, rfl⟩
            · rw [if_neg g4, if_neg g6]; exact Or.inl hen
        rw [hen] at e1
        have e1' : f_X0_step 1 f (nI s.1.2.1) (nI s.1.2.2.1) (nI s.1.2.2.2) (nI s.2.1) (nI s.2.2.1) (nI 0) c fi se nx ot (nI n) kf b rs = _ := e1
        rw [e1', Option.bind_some]
        dsimp only
        obtain ⟨g1, g2, g3, g4, g5⟩ := hG
        have hG1 : GI n P K B (aStep n P K B 1 s) M0 (j + 1) := by
          refine ⟨by rw [it_succ, ← g1], fun i hi => ?_, g3, g4, g5⟩
          rcases Nat.lt_or_ge i j with q | q
          · exact g2 i q
          · rw [show i = j by omega, ← g1]; exact ⟨hen, hpl⟩
        have hst1 : (aStep n P K B 1 s).2.1 = M0.2.1 + (j + 1) := by rw [hG1.1, it_st]
        have hM0 : lv n M0 := hG1.2.1 0 (by omega)
        generalize aStep n P K B 1 s = s1 at *
        have c90 : ∃ (f' mk' : Nat → Int32) (p' a1 a2 a3 a4 a5 : Int32), g_X0_go_90 (g_X0_go_10 (fu' + 1)) (nI lim) v3 (nI i) f1 (nI s1.1.2.1) (nI s1.1.2.2.1) (nI s1.1.2.2.2) (nI s1.2.1) (nI s1.2.2.1) (nI s1.2.2.2) mk (nI M0.2.2.1) (nI M0.2.1) (nI M0.1.2.1) (nI M0.1.2.2.1) (nI M0.1.2.2.2) c fi se nx ot (nI n) kf b rs = some (f', nI (aRun n P K B lim s1).1.2.1, nI (aRun n P K B lim s1).1.2.2.1, nI (aRun n P K B lim s1).1.2.2.2, nI (aRun n P K B lim s1).2.1, p', nI (aRun n P K B lim s1).2.2.2, mk', a1, a2, a3, a4, a5) ∧ R6 f' (aRun n P K B lim s1).1.1 := by
          simp only [g_X0_go_90]
          rw [nI_s]
          rcases hen2 with q0 | ⟨-, q2⟩
          · by_cases hwt : nI s1.2.1 - nI M0.2.1 < v3
            · rw [if_pos hwt]
              exact ih v3 (i + 1) s1 f1 M0 mk (j + 1) (by omega) q0 (by omega) (by omega) r1 k1 z1 k4 k3 hmk hmp (by omega) hG1
            · rw [if_neg hwt]
              unfold f_X0_mark g_X0_mark_0
              rw [x_copyM, Option.bind_some, Option.bind_some]
              exact ih (v3 * 2) (i + 1) s1 f1 s1 (cpI 0 f1 mk) 0 (by omega) q0 (by omega) (by omega) r1 k1 z1 k4 k3 (fun j hj => by rw [cpI_lt hj]; exact r1 j hj) k3 (by omega) ⟨rfl, fun i hi => absurd hi (by omega), k1.2.2.2, z1, k1.1⟩
          · have hne : ¬ (s1.2.2.2 = 0 ∧ s1.2.2.1 < n ∧ s1.2.1 < lim) := fun h => by omega
            have e9 : finA n s1 = s1 := if_neg (by omega)
            rw [aRun_end hne, e9, q2]
            by_cases hwt : nI s1.2.1 - nI M0.2.1 < v3
            · rw [if_pos hwt, go_end _ _ _ _ _ _ _ (by decide)]
              exact ⟨_, _, _, _, _, _, _, _, rfl, r1⟩
            · rw [if_neg hwt]
              unfold f_X0_mark g_X0_mark_0
              rw [x_copyM, Option.bind_some, Option.bind_some, go_end _ _ _ _ _ _ _ (by decide)]
              exact ⟨_, _, _, _, _, _, _, _, rfl, r1⟩
        rw [ite_eq (by omega) (by omega)]
        by_cases hpm : s1.2.2.1 = M0.2.2.1
        · rw [if_pos hpm]
          obtain ⟨p1, p2⟩ := at_mark f1 mk FU 0 (by omega) (by unfold FU; omega)
          by_cases hat : ∀ q, 0 ≤ q → q < 6 → f1 q = mk q
          · have ea : f_X0_isAtMark f1 mk = some 1 := p1 hat
            have q0 : s1.2.2.2 = 0 := by
              rcases hen2 with q | ⟨q, -⟩
              · exact q
              · have := hM0.2; omega
            have hmm : s1.1.1 = M0.1.1 := R6_inj r1 hmk z1 g4 (fun q hq => by have := k1.1 q hq; omega) (fun q hq => by have := g5 q hq; omega) (fun q hq => hat q (Nat.zero_le _) hq)
            have hpp : s1.2.2 = M0.2.2 := by
              have e3 : s1.2.2 = (s1.2.2.1, s1.2.2.2) := rfl
              have e4 : M0.2.2 = (M0.2.2.1, M0.2.2.2) := rfl
              rw [e3, e4, hpm, q0, hM0.1]
            obtain ⟨b', c', t1, t2, t3, t4⟩ := round_on (k := j + 1) (by omega) hG1.1 hG1.2.1 hmm hpp g3
            have hkk : s1.2.1 - M0.2.1 = j + 1 := by omega
            have el := x_leap (lim := lim) (st := s1.2.1) (mst := M0.2.1) (by omega) (by omega) (by omega) t1 t2 (by omega) g3 t3
            rw [hkk] at el
            rw [ea, Option.bind_some, if_neg (by decide), el, Option.bind_some]
            generalize hr : (lim - s1.2.1) / (j + 1) = r at *
            have hrk : r * (j + 1) ≤ lim - s1.2.1 := by rw [← hr]; exact Nat.div_mul_le_self _ _
            obtain ⟨u1, u2⟩ := t4 r
            rw [aRun_it (r * (j + 1)) s1 (fun q hq => ⟨(u2 q hq).1, (u2 q hq).2, by rw [it_st]; omega⟩)]
            have hco := it_co (n := n) (P := P) (K := K) (B := B) (s := s1) k1.2.2.2 (r * (j + 1))
            have hG2 : GI n P K B (it n P K B (r * (j + 1)) s1) M0 (j + 1 + r * (j + 1)) := by
              refine ⟨by rw [hG1.1, ← it_add], fun q hq => ?_, g3, g4, g5⟩
              rcases Nat.lt_or_ge q (j + 1) with w1 | w1
              · exact hG1.2.1 q w1
              · have := u2 (q - (j + 1)) (by omega)
                rw [hG1.1, ← it_add, show j + 1 + (q - (j + 1)) = q by omega] at this
                exact this
            have hrb : r * b' ≤ r * (j + 1) := Nat.mul_le_mul_left r (by omega)
            rw [u1] at hco hG2 ⊢
            rw [q0]
            have key := ih v3 (i + 1) ((s1.1.1, s1.1.2.1 + r * (s1.1.2.1 - M0.1.2.1), s1.1.2.2.1 + r * b', colr b' c' r s1.1.2.2.2), s1.2.1 + r * (j + 1), s1.2.2) f1 M0 mk (j + 1 + r * (j + 1)) (by show lim - (s1.2.1 + r * (j + 1)) + 3 ≤ _; omega) q0 (by show i + 1 ≤ s1.2.1 + r * (j + 1); omega) (by show s1.2.1 + r * (j + 1) ≤ lim; omega) r1 ⟨k1.1, Nat.zero_le _, Nat.zero_le _, hco⟩ z1 k4 k3 hmk hmp (by show s1.1.2.2.1 + r * b' ≤ _; omega) hG2
            dsimp only at key ⊢
            rw [q0] at key
            exact key
          · have ea : f_X0_isAtMark f1 mk = some 0 := p2 hat
            rw [ea, Option.bind_some, if_pos rfl]
            exact c90
        · rw [if_neg hpm]
          exact c90
      · have hne : ¬ (s.2.2.2 = 0 ∧ s.2.2.1 < n ∧ s.2.1 < lim) := fun h => hsl h.2.2
        rw [if_neg hsl, go_end c fi se nx ot v3 _ (e4 := 3) (by decide), aRun_end hne]
        unfold finA
        rw [if_pos hen, if_neg (by omega)]
        exact ⟨_, _, _, _, _, _, _, _, rfl, hf⟩
    · have hne : ¬ (s.2.2.2 = 0 ∧ s.2.2.1 < n ∧ s.2.1 < lim) := fun h => hpl h.2.1
      rw [if_neg hpl, go_end c fi se nx ot v3 _ (e4 := 1) (by decide), aRun_end hne]
      unfold finA
      rw [if_pos hen, if_pos (by omega)]
      exact ⟨_, _, _, _, _, _, _, _, rfl, hf⟩
end GO
