/-! standings on the way -/
def GS (n : Nat) (P : PG) (B : Nat → Nat) (s : AS) : Prop := PHb B s.1 ∧ Z6 s.1.1 ∧ stopd n P s.2.2.1 ∧ s.2.2.1 ≤ n ∧ (s.2.2.2 = 0 ∨ (s.2.2.2 = 2 ∧ s.2.2.1 = n))
section GSS
variable {n : Nat} {P : PG} {K B : Nat → Nat}
theorem GS_0 {m : Nat → Nat} {co : Nat} (hp0 : stp0 n P) (hco : co < 1009) (hm : MB B m) (hz : Z6 m) : GS n P B (st0 m co) := ⟨⟨hm, Nat.zero_le _, Nat.zero_le _, hco⟩, hz, hp0, Nat.zero_le _, Or.inl rfl⟩
theorem GS_en {s : AS} (h : GS n P B s) (hl : s.2.2.1 < n) : s.2.2.2 = 0 := by
  rcases h.2.2.2.2 with q | q
  · exact q
  · omega
theorem aStep_en {s : AS} (h : s.2.2.2 = 0) (t : Nat) : ((aStep n P K B t s).2.2.2 = 0 ∧ ¬ (P s.2.2.1).1 = 6) ∨ ((aStep n P K B t s).2.2.2 = 2 ∧ (aStep n P K B t s).2.2.1 = n ∧ (P s.2.2.1).1 = 6) := by
  unfold aStep
  by_cases h4 : (P s.2.2.1).1 = 4
  · rw [if_pos h4]; exact Or.inl ⟨h, by omega⟩
  · by_cases h6 : (P s.2.2.1).1 = 6
    · rw [if_neg h4, if_pos h6]; exact Or.inr ⟨rfl, rfl, h6⟩
    · rw [if_neg h4, if_neg h6]; exact Or.inl ⟨h, h6⟩
theorem GS_step (hw : PWf n P) {s : AS} (h : GS n P B s) (hl : s.2.2.1 < n) (t : Nat) : GS n P B (aStep n P K B t s) := by
  obtain ⟨k1, k2, k3, k4, k5, k6⟩ := aStep_ok (K := K) hw h.1 hl h.2.2.1 t
  refine ⟨k1, Z6_step hw h.2.1 hl h.2.2.1 t, k4, k3, ?_⟩
  rcases aStep_en (n := n) (P := P) (K := K) (B := B) (GS_en h hl) t with q | q
  · exact Or.inl q.1
  · exact Or.inr ⟨q.1, q.2.1⟩
theorem GS_it (hw : PWf n P) : ∀ (k : Nat) (s : AS), GS n P B s → (∀ i, i < k → (it n P K B i s).2.2.1 < n) → GS n P B (it n P K B k s)
  | 0, s, h, _ => h
  | k + 1, s, h, hl => GS_it hw k _ (GS_step hw h (hl 0 (by omega)) 1) (fun i hi => hl (i + 1) (by omega))
/-- how many steps a run has -/
theorem run_len (hw : PWf n P) {lim : Nat} : ∀ (k : Nat) (s : AS), GS n P B s → lim = s.2.1 + k → ∃ A, A ≤ k ∧ (∀ i, i < A → (it n P K B i s).2.2.1 < n) ∧ (A = k ∨ (it n P K B A s).2.2.1 = n) ∧ aRunK n P K B lim k s = it n P K B A s
  | 0, s, _, _ => ⟨0, Nat.le_refl _, fun i hi => absurd hi (by omega), Or.inl rfl, rfl⟩
  | k + 1, s, h, hk => by
    by_cases hl : s.2.2.1 < n
    · obtain ⟨A, a1, a2, a3, a4⟩ := run_len (lim := lim) hw k (aStep n P K B 1 s) (GS_step hw h hl 1) (by rw [aStep_st]; omega)
      refine ⟨A + 1, by omega, fun i hi => ?_, a3.imp (fun q => by omega) (fun q => q), ?_⟩
      · cases i with
        | zero => exact hl
        | succ i => exact a2 i (by omega)
      · show (if _ then _ else _) = _
        rw [if_pos ⟨GS_en h hl, hl, by omega⟩]
        exact a4
    · refine ⟨0, by omega, fun i hi => absurd hi (by omega), Or.inr ?_, ?_⟩
      · have := h.2.2.2.1
        show s.2.2.1 = n
        omega
      · show (if _ then _ else _) = _
        rw [if_neg (fun q => hl q.2.1)]
        rfl
theorem finA_st (s : AS) : (finA n s).2.1 = s.2.1 := by
  unfold finA
  split <;> rfl
theorem run_len0 (hw : PWf n P) {lim : Nat} {m : Nat → Nat} {co : Nat} (hp0 : stp0 n P) (hco : co < 1009) (hm : MB B m) (hz : Z6 m) : ∃ A, A ≤ lim ∧ (∀ i, i < A → (it n P K B i (st0 m co)).2.2.1 < n) ∧ (A = lim ∨ (it n P K B A (st0 m co)).2.2.1 = n) ∧ (aRun n P K B lim (st0 m co)).2.1 = A := by
  obtain ⟨A, a1, a2, a3, a4⟩ := run_len (K := K) hw lim (st0 m co) (GS_0 hp0 hco hm hz) (show lim = 0 + lim by omega)
  refine ⟨A, a1, a2, a3, ?_⟩
  unfold aRun
  rw [finA_st, show lim - (st0 m co).2.1 = lim from Nat.sub_zero _, a4, it_st]
  exact Nat.zero_add _
end GSS
/-- the reference's step from a living standing -/
theorem m_stepG {w n : Nat} {P : PG} {K B : Nat → Nat} {kf b op a bb lo : Nat → Int32} (hw3 : w < 3) (hn : n ≤ 120) (hlo : lo w = nI n) (hw : PWf n P) (hm : RMo w n P op a bb) (hk : R6 kf K) (hK : ∀ j, j < 6 → K j ≤ 3) (hb : R6 b B) {f : Nat → Int32} {s : AS} (hf : R6 f s.1.1) (hs : GS n P B s) (hpl : s.2.2.1 < n) (t : Nat) (ht : t < 1000) :
    ∃ f' p', f_X12_steps (nI w) (nI t) kf b op a bb lo f (nI s.2.2.1) (nI s.2.1) (nI s.1.2.1) (nI s.1.2.2.1) (nI s.1.2.2.2) (nI s.2.2.2) = some (f', nI p', nI (aStep n P K B t s).2.1, nI (aStep n P K B t s).1.2.1, nI (aStep n P K B t s).1.2.2.1, nI (aStep n P K B t s).1.2.2.2, nI (aStep n P K B t s).2.2.2) ∧ R6 f' (aStep n P K B t s).1.1 ∧ ((aStep n P K B t s).2.2.2 = 0 → p' = (aStep n P K B t s).2.2.1) ∧ p' ≤ n := by
  obtain ⟨f', p', q1, q2, q3, q4⟩ := m_step hw3 hn hlo hw hm hk hK hb hf hs.1 hpl hs.2.2.1 t ht
  refine ⟨f', p', q1, q2, fun h => q3 (fun h6 => ?_), q4⟩
  rcases aStep_en (n := n) (P := P) (K := K) (B := B) (GS_en hs hpl) t with q | q
  · exact q.2 h6
  · omega
/-- how many, and which is the first -/
def walkS (p : Nat → Bool) : Nat → Nat → Nat → Nat → Nat × Nat
  | 0, _, c, f => (c, f)
  | r + 1, i, c, f => walkS p r (i + 1) (if p i = true then c + 1 else c) (if p i = true ∧ f = 0 then i + 1 else f)
theorem walkS_pos {p : Nat → Bool} : ∀ (r i c f : Nat), 0 < f → (walkS p r i c f).2 = f
  | 0, i, c, f, _ => rfl
  | r + 1, i, c, f, h => by
    show (walkS p r (i + 1) _ (if p i = true ∧ f = 0 then i + 1 else f)).2 = f
    rw [if_neg (show ¬ (p i = true ∧ f = 0) from fun x => by omega)]
    exact walkS_pos r (i + 1) _ f h
def ansS (first : Bool) (q : Nat × Nat) : Int32 := if first = true then (if q.2 = 0 then -2 else nI q.2) else nI q.1
