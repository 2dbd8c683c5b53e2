theorem aRunK_ok {n : Nat} {P : PG} {K B : Nat → Nat} {lim : Nat} (hw : PWf n P) : ∀ (k : Nat) (s : AS), PHb B s.1 → stopd n P s.2.2.1 → PHb B (aRunK n P K B lim k s).1
  | 0, s, h, _ => h
  | k + 1, s, h, hs => by
    show PHb B (if _ then _ else _ : AS).1
    by_cases hc : s.2.2.2 = 0 ∧ s.2.2.1 < n ∧ s.2.1 < lim
    · rw [if_pos hc]
      obtain ⟨k1, k2, k3, k4, k5, k6⟩ := aStep_ok (K := K) hw h hc.2.1 hs 1
      exact aRunK_ok hw k _ k1 k4
    · rw [if_neg hc]; exact h
theorem finA_1 (n : Nat) (s : AS) : (finA n s).1 = s.1 := by
  unfold finA
  split <;> rfl
theorem aRun_ok {n : Nat} {P : PG} {K B : Nat → Nat} {lim : Nat} (hw : PWf n P) {s : AS} (h : PHb B s.1) (hs : stopd n P s.2.2.1) : PHb B (aRun n P K B lim s).1 := by
  unfold aRun
  rw [finA_1]
  exact aRunK_ok hw _ s h hs
/-- a run of both, from the same measures -/
theorem run_pair {w : Nat} (hw3 : w < 3) {c fi se nx ot : Nat → Int32} {sz ac : Int32} {op a bb lo ai kf b ms : Nat → Int32} {rs : Int32} (hRR : RR w c fi se nx ot sz ac op a bb lo ai) (hV : RV kf b ms rs) {lim co : Nat} (hlim : lim ≤ 20000) (hco : co < 1009) {m : Nat → Nat} (hm : MB (absN b) m) (hz : Z6 m) {nx0 nm0 : Nat → Int32} (h1 : R6 nx0 m) (h2 : R6 nm0 m) (mk : Nat → Int32) (x10 x11 x12 x13 x14 : Int32) :
    ∃ (R : AS), PHb (absN b) R.1 ∧ (∃ (f' mk' : Nat → Int32) (p' a1 a2 a3 a4 a5 : Int32), f_X0_go (nI lim) nx0 0 0 (nI co) 0 0 0 mk x10 x11 x12 x13 x14 c fi se nx ot sz kf b rs = some (f', nI R.1.2.1, nI R.1.2.2.1, nI R.1.2.2.2, nI R.2.1, p', nI R.2.2.2, mk', a1, a2, a3, a4, a5) ∧ R6 f' R.1.1) ∧ (∃ (g' : Nat → Int32) (p' : Nat), f_X12_runsOn (nI w) (nI lim) kf b op a bb lo nm0 0 0 0 0 (nI co) 0 = some (g', nI p', nI R.2.1, nI R.1.2.1, nI R.1.2.2.1, nI R.1.2.2.2, nI R.2.2.2) ∧ R6 g' R.1.1) := by
  obtain ⟨n, P, hn, e1, e2, -, hw, hp0, hX, hM⟩ := hRR
  obtain ⟨k1, k2, k3, k4, k5, k6⟩ := RV_abs hV
  have hs : PHb (absN b) (st0 m co).1 := ⟨hm, Nat.zero_le _, Nat.zero_le _, hco⟩
  have hsd : stopd n P (st0 m co).2.2.1 := hp0
  subst e1
  obtain ⟨f', mk', p', a1, a2, a3, a4, a5, q1, q2⟩ := x_go (s := st0 m co) hn hw k1 k2 k3 k6 hX hlim mk x10 x11 x12 x13 x14 rfl (Nat.zero_le _) h1 hs hz hsd (Nat.zero_le _)
  obtain ⟨g', p'', r1, r2⟩ := m_runs (s := st0 m co) hw3 hn e2 hw hM k1 k2 k3 hlim h2 hs (Nat.zero_le _) hsd (by show 0 < 10; omega) (Nat.zero_le _)
  exact ⟨aRun n P (absN kf) (absN b) lim (st0 m co), aRun_ok hw hs hsd, ⟨f', mk', p', a1, a2, a3, a4, a5, q1, q2⟩, g', p'', r1, r2⟩
theorem done_loop (x1 x2 x3 : Int32) (y4 y5 y25 y26 y27 y28 y35 y36 : Nat → Int32) (x37 x38 x39 x40 x41 x42 : Int32) : ∀ (fu i : Nat) (m : Nat → Int32), i ≤ 6 → 7 ≤ fu + i → g_X12_done_74 fu (nI i) x1 x2 x3 y4 y5 m y25 y26 y27 y28 y35 y36 x37 x38 x39 x40 x41 x42 = some (x42, x1, x2, x3, cpI i y36 m, y35, y36, x37, x38, x39, x40, x41, x42) := by
  intro fu
  induction fu with
  | zero => intro i m h1 h2; omega
  | succ fu ih =>
    intro i m h1 h2
    simp only [g_X12_done_74]
    rcases Nat.lt_or_ge i 6 with hi | hi
    · rw [if_neg (c6_le hi), if_pos (vin_nI hi (by omega)), nc i (by omega), nI_s, ih (i + 1) _ (by omega) (by omega), cpI_step hi]
    · have hi6 : i = 6 := by omega
      subst hi6
      rw [if_pos c6_ge, cpI_6]
theorem nI_inR {k N : Nat} (h : k ≤ N) (hN : N < 2 ^ 31) : inR 0 (nI N) (nI k) := by
  constructor
  · rw [i_le, nI_toInt (by omega)]; show (0 : Int) ≤ _; omega
  · rw [nI_leI (by omega) hN]; exact h
