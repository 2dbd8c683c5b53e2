def aRunK (n : Nat) (P : PG) (K B : Nat → Nat) (lim : Nat) : Nat → AS → AS
  | 0, s => s
  | k + 1, s => if s.2.2.2 = 0 ∧ s.2.2.1 < n ∧ s.2.1 < lim then aRunK n P K B lim k (aStep n P K B 1 s) else s
def finA (n : Nat) (s : AS) : AS := if s.2.2.2 = 0 then (s.1, s.2.1, s.2.2.1, if n ≤ s.2.2.1 then 1 else 3) else s
def aRun (n : Nat) (P : PG) (K B : Nat → Nat) (lim : Nat) (s : AS) : AS := finA n (aRunK n P K B lim (lim - s.2.1) s)
theorem aStep_st (n : Nat) (P : PG) (K B : Nat → Nat) (t : Nat) (s : AS) : (aStep n P K B t s).2.1 = s.2.1 + 1 := by
  unfold aStep
  by_cases h4 : (P s.2.2.1).1 = 4
  · rw [if_pos h4]
  · by_cases h6 : (P s.2.2.1).1 = 6
    · rw [if_neg h4, if_pos h6]
    · rw [if_neg h4, if_neg h6]
theorem aRun_go {n : Nat} {P : PG} {K B : Nat → Nat} {lim : Nat} {s : AS} (h : s.2.2.2 = 0 ∧ s.2.2.1 < n ∧ s.2.1 < lim) : aRun n P K B lim s = aRun n P K B lim (aStep n P K B 1 s) := by
  unfold aRun
  rw [aStep_st, show lim - s.2.1 = (lim - (s.2.1 + 1)) + 1 by omega]
  show finA n (if _ then _ else _) = _
  rw [if_pos h]
theorem aRun_end {n : Nat} {P : PG} {K B : Nat → Nat} {lim : Nat} {s : AS} (h : ¬ (s.2.2.2 = 0 ∧ s.2.2.1 < n ∧ s.2.1 < lim)) : aRun n P K B lim s = finA n s := by
  unfold aRun
  cases hk : lim - s.2.1 with
  | zero => rfl
  | succ k =>
    show finA n (if _ then _ else _) = _
    rw [if_neg h]
theorem aRun_it {n : Nat} {P : PG} {K B : Nat → Nat} {lim : Nat} : ∀ (k : Nat) (s : AS), (∀ i, i < k → (it n P K B i s).2.2.2 = 0 ∧ (it n P K B i s).2.2.1 < n ∧ (it n P K B i s).2.1 < lim) → aRun n P K B lim s = aRun n P K B lim (it n P K B k s)
  | 0, s, _ => rfl
  | k + 1, s, h => by
    have h0 : s.2.2.2 = 0 ∧ s.2.2.1 < n ∧ s.2.1 < lim := h 0 (by omega)
    rw [aRun_go h0]
    exact aRun_it k _ (fun i hi => h (i + 1) (by omega))
section MRUN
variable {w n : Nat} {P : PG} {K B : Nat → Nat} {kf b : Nat → Int32} {op a bb lo : Nat → Int32} {lim : Nat}
theorem m_loop (hw3 : w < 3) (hn : n ≤ 120) (hlo : lo w = nI n) (hw : PWf n P) (hm : RMo w n P op a bb) (hk : R6 kf K) (hK : ∀ j, j < 6 → K j ≤ 3) (hb : R6 b B) (hlim : lim ≤ 20000) : ∀ (fu : Nat) (s : AS) (p : Nat) (f : Nat → Int32), lim - s.2.1 < fu → R6 f s.1.1 → PHb B s.1 → stopd n P s.2.2.1 → (s.2.2.2 = 0 → p = s.2.2.1) → s.2.2.2 < 10 → s.2.1 ≤ 30000 → p ≤ n →
    ∃ f' p', g_X12_runsOn_5 fu (nI w) (nI lim) kf b op a bb lo f (nI p) (nI s.2.1) (nI s.1.2.1) (nI s.1.2.2.1) (nI s.1.2.2.2) (nI s.2.2.2) = some (f', nI p', nI (aRun n P K B lim s).2.1, nI (aRun n P K B lim s).1.2.1, nI (aRun n P K B lim s).1.2.2.1, nI (aRun n P K B lim s).1.2.2.2, nI (aRun n P K B lim s).2.2.2) ∧ R6 f' (aRun n P K B lim s).1.1 := by
  intro fu
  induction fu with
  | zero => intro s p f h; omega
  | succ fu ih =>
    intro s p f h1 hf hs hst hp hen hb3 hpn
    have e30 : ¬ (s.2.2.2 = 0 ∧ s.2.2.1 < n ∧ s.2.1 < lim) → ∃ f' p', g_X12_runsOn_30 (nI w) kf b op a bb lo f (nI p) (nI s.2.1) (nI s.1.2.1) (nI s.1.2.2.1) (nI s.1.2.2.2) (nI s.2.2.2) = some (f', nI p', nI (aRun n P K B lim s).2.1, nI (aRun n P K B lim s).1.2.1, nI (aRun n P K B lim s).1.2.2.1, nI (aRun n P K B lim s).1.2.2.2, nI (aRun n P K B lim s).2.2.2) ∧ R6 f' (aRun n P K B lim s).1.1 := by
      intro hne
      rw [aRun_end hne]
      unfold g_X12_runsOn_30 finA
      rw [show (0 : Int32) = nI 0 from rfl, ite_eq (by omega) (by omega)]
      by_cases h0 : s.2.2.2 = 0
      · rw [if_pos h0, if_pos h0, if_pos (vin_nI hw3 (by omega)), nc w (by omega), hlo, hp h0]
        have hple : s.2.2.1 ≤ n := by rw [← hp h0]; exact hpn
        rw [ite_le (by omega) (by omega)]
        by_cases h2 : n ≤ s.2.2.1
        · simp only [if_pos h2]; exact ⟨f, _, rfl, hf⟩
        · simp only [if_neg h2]; exact ⟨f, _, rfl, hf⟩
      · rw [if_neg h0, if_neg h0]; exact ⟨f, _, rfl, hf⟩
    simp only [g_X12_runsOn_5]
    have ehn : f_X12_hasNext (nI w) lo (nI p) (nI s.2.2.2) = some (if s.2.2.2 = 0 ∧ s.2.2.1 < n then 1 else 0) := by
      unfold f_X12_hasNext g_X12_hasNext_0
      rw [show (0 : Int32) = nI 0 from rfl, ite_eq (by omega) (by omega)]
      by_cases h0 : s.2.2.2 = 0
      · have hple : s.2.2.1 ≤ n := by rw [← hp h0]; exact hpn
        rw [if_pos h0, if_pos (vin_nI hw3 (by omega)), nc w (by omega), hlo, hp h0, ite_le (by omega) (by omega)]
        by_cases h2 : n ≤ s.2.2.1
        · rw [if_pos h2, if_neg (fun h => by omega)]
        · rw [if_neg h2, if_pos ⟨h0, by omega⟩]
      · rw [if_neg h0, if_neg (fun h => h0 h.1)]
    rw [ehn, Option.bind_some]
    by_cases h2 : s.2.2.2 = 0 ∧ s.2.2.1 < n
    · rw [if_pos h2, if_neg (by decide), ite_le (by omega) (by omega)]
      by_cases h3 : lim ≤ s.2.1
      · rw [if_pos h3]
        exact e30 (fun h => by omega)
      · rw [if_neg h3, hp h2.1]
        obtain ⟨f1, p1, e1, r1, q1, q2⟩ := m_step hw3 hn hlo hw hm hk hK hb hf hs h2.2 hst 1 (by omega)
        obtain ⟨k1, k2, k3, k4, k5, k6⟩ := aStep_ok (K := K) hw hs h2.2 hst 1
        have e1' : f_X12_steps (nI w) 1 kf b op a bb lo f (nI s.2.2.1) (nI s.2.1) (nI s.1.2.1) (nI s.1.2.2.1) (nI s.1.2.2.2) (nI s.2.2.2) = _ := e1
        rw [e1', Option.bind_some, aRun_go ⟨h2.1, h2.2, by omega⟩]
        have hen' : (aStep n P K B 1 s).2.2.2 = 0 ∨ (P s.2.2.1).1 = 6 ∧ (aStep n P K B 1 s).2.2.2 = 2 := by
          unfold aStep
          by_cases g4 : (P s.2.2.1).1 = 4
          · rw [if_pos g4]; exact Or.inl h2.1
          · by_cases g6 : (P s.2.2.1).1 = 6
            · rw [if_neg g4, if_pos g6]; exact Or.inr ⟨g6, rfl⟩
            · rw [if_neg g4, if_neg g6]; exact Or.inl h2.1
        refine ih (aStep n P K B 1 s) p1 f1 (by rw [k2]; omega) r1 k1 k4 (fun hz => ?_) ?_ (by rw [k2]; omega) q2
        · apply q1
          intro g6
          rcases hen' with h | ⟨-, h⟩
          · have : (aStep n P K B 1 s).2.2.2 = 2 := by
              unfold aStep
              rw [if_neg (by omega), if_pos g6]
            omega
          · omega
        · rcases hen' with h | ⟨-, h⟩ <;> omega
    · rw [if_neg h2, if_pos rfl]
      exact e30 (fun h => h2 ⟨h.1, h.2.1⟩)
/-- the reference's runsOn -/
theorem m_runs (hw3 : w < 3) (hn : n ≤ 120) (hlo : lo w = nI n) (hw : PWf n P) (hm : RMo w n P op a bb) (hk : R6 kf K) (hK : ∀ j, j < 6 → K j ≤ 3) (hb : R6 b B) (hlim : lim ≤ 20000) {s : AS} {f : Nat → Int32} (hf : R6 f s.1.1) (hs : PHb B s.1) (hpl : s.2.2.1 ≤ n) (hst : stopd n P s.2.2.1) (hen : s.2.2.2 < 10) (hb3 : s.2.1 ≤ 30000) :
    ∃ f' p', f_X12_runsOn (nI w) (nI lim) kf b op a bb lo f (nI s.2.2.1) (nI s.2.1) (nI s.1.2.1) (nI s.1.2.2.1) (nI s.1.2.2.2) (nI s.2.2.2) = some (f', nI p', nI (aRun n P K B lim s).2.1, nI (aRun n P K B lim s).1.2.1, nI (aRun n P K B lim s).1.2.2.1, nI (aRun n P K B lim s).1.2.2.2, nI (aRun n P K B lim s).2.2.2) ∧ R6 f' (aRun n P K B lim s).1.1 := by
  unfold f_X12_runsOn g_X12_runsOn_0
  rw [m_goesF hw3 hn hlo hw hm hpl, Option.bind_some, chf_stop hst]
  exact m_loop hw3 hn hlo hw hm hk hK hb hlim FU s s.2.2.1 f (by unfold FU; omega) hf hs hst (fun _ => rfl) hen hb3 hpl
end MRUN
