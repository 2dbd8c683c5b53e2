section RINGL
variable {n : Nat} {P : PG} {kf b ms c fi se nx ot : Nat → Int32} {rs : Int32} {s0 : AS}
theorem x_stepI (hn : n ≤ 120) (hw : PWf n P) (hX : RX n P c fi se nx ot) (hV : RV kf b ms rs) (hG : GS n P (absN b) s0) {i : Nat} (ha : ∀ j, j ≤ i → (it n P (absN kf) (absN b) j s0).2.2.1 < n) {f : Nat → Int32} (hf : R6 f (it n P (absN kf) (absN b) i s0).1.1) : ∃ f', f_X0_step 1 f (nI (it n P (absN kf) (absN b) i s0).1.2.1) (nI (it n P (absN kf) (absN b) i s0).1.2.2.1) (nI (it n P (absN kf) (absN b) i s0).1.2.2.2) (nI (it n P (absN kf) (absN b) i s0).2.1) (nI (it n P (absN kf) (absN b) i s0).2.2.1) (nI (it n P (absN kf) (absN b) i s0).2.2.2) c fi se nx ot (nI n) kf b rs = some (f', nI (it n P (absN kf) (absN b) (i + 1) s0).1.2.1, nI (it n P (absN kf) (absN b) (i + 1) s0).1.2.2.1, nI (it n P (absN kf) (absN b) (i + 1) s0).1.2.2.2, nI (it n P (absN kf) (absN b) (i + 1) s0).2.1, nI (it n P (absN kf) (absN b) (i + 1) s0).2.2.1, nI (it n P (absN kf) (absN b) (i + 1) s0).2.2.2) ∧ R6 f' (it n P (absN kf) (absN b) (i + 1) s0).1.1 := by
  obtain ⟨q1, q2, q3, q4, q5, q6⟩ := RV_abs hV
  have hg : GS n P (absN b) (it n P (absN kf) (absN b) i s0) := GS_it hw i s0 hG (fun j hj => ha j (by omega))
  obtain ⟨f', t1, t2⟩ := x_step hn hw q1 q2 q3 q6 hX hf hg.1 (ha i (Nat.le_refl _)) hg.2.2.1 1 (by omega)
  rw [it_succ]
  exact ⟨f', t1, t2⟩
theorem x_findL (hn : n ≤ 120) (hw : PWf n P) (hX : RX n P c fi se nx ot) (hV : RV kf b ms rs) (hG : GS n P (absN b) s0) {y21 : Nat → Int32} : ∀ (fu k p len : Nat) (f g y31 : Nat → Int32), 65536 - (p + len) < fu → p + 1 = 2 ^ k → len < p + 1 → p + len ≤ 65536 → R6 f (it n P (absN kf) (absN b) (p + len) s0).1.1 → R6 g (it n P (absN kf) (absN b) p s0).1.1 → (∀ i, i < p + len → (it n P (absN kf) (absN b) i s0).2.2.1 < n) → (∀ l, 0 < l → l ≤ len → ¬ ((it n P (absN kf) (absN b) p s0).2.2.1 = (it n P (absN kf) (absN b) (p + l) s0).2.2.1 ∧ (it n P (absN kf) (absN b) p s0).1.1 = (it n P (absN kf) (absN b) (p + l) s0).1.1)) → (∀ p0, p = 2 * p0 + 1 → ∀ l, 0 < l → l ≤ p0 + 1 → ¬ ((it n P (absN kf) (absN b) p0 s0).2.2.1 = (it n P (absN kf) (absN b) (p0 + l) s0).2.2.1 ∧ (it n P (absN kf) (absN b) p0 s0).1.1 = (it n P (absN kf) (absN b) (p0 + l) s0).1.1)) →
    ∃ u, g_X5_findLength_39 fu (nI (p + 1)) (nI (p + len)) (nI len) c fi se nx ot (nI n) y21 f (nI (it n P (absN kf) (absN b) (p + len) s0).1.2.1) (nI (it n P (absN kf) (absN b) (p + len) s0).1.2.2.1) (nI (it n P (absN kf) (absN b) (p + len) s0).1.2.2.2) (nI (it n P (absN kf) (absN b) (p + len) s0).2.1) (nI (it n P (absN kf) (absN b) (p + len) s0).2.2.1) (nI (it n P (absN kf) (absN b) (p + len) s0).2.2.2) y31 g (nI (it n P (absN kf) (absN b) p s0).1.2.1) (nI (it n P (absN kf) (absN b) p s0).1.2.2.1) (nI (it n P (absN kf) (absN b) p s0).1.2.2.2) (nI (it n P (absN kf) (absN b) p s0).2.1) (nI (it n P (absN kf) (absN b) p s0).2.2.1) (nI (it n P (absN kf) (absN b) p s0).2.2.2) kf b ms rs = some u ∧ ((u.1 = 1 ∧ ∃ p L, u.2.1 = nI L ∧ 0 < L ∧ p + L ≤ 65536 ∧ (∀ i, i < p + L → (it n P (absN kf) (absN b) i s0).2.2.1 < n) ∧ ((it n P (absN kf) (absN b) p s0).2.2.1 = (it n P (absN kf) (absN b) (p + L) s0).2.2.1 ∧ (it n P (absN kf) (absN b) p s0).1.1 = (it n P (absN kf) (absN b) (p + L) s0).1.1) ∧ (∀ l, 0 < l → l < L → ¬ ((it n P (absN kf) (absN b) p s0).2.2.1 = (it n P (absN kf) (absN b) (p + l) s0).2.2.1 ∧ (it n P (absN kf) (absN b) p s0).1.1 = (it n P (absN kf) (absN b) (p + l) s0).1.1))) ∨ (u.1 = 0 ∧ ∃ q, q ≤ 65536 ∧ u.2.2.2.2.2.2.2.1 = nI (it n P (absN kf) (absN b) q s0).2.1 ∧ u.2.2.2.2.2.2.2.2.1 = nI (it n P (absN kf) (absN b) q s0).2.2.1 ∧ (∀ i, i < q → (it n P (absN kf) (absN b) i s0).2.2.1 < n) ∧ ((it n P (absN kf) (absN b) q s0).2.2.1 = n ∨ (q = 65536 ∧ ∀ l, 0 < l → l ≤ 32768 → ¬ ((it n P (absN kf) (absN b) 32767 s0).2.2.1 = (it n P (absN kf) (absN b) (32767 + l) s0).2.2.1 ∧ (it n P (absN kf) (absN b) 32767 s0).1.1 = (it n P (absN kf) (absN b) (32767 + l) s0).1.1))))) := by
  intro fu
  induction fu with
  | zero => intro k p len f g y31 h1; omega
  | succ fu ih =>
    intro k p len f g y31 h1 hk hlen hq hf hg ha hno hhist
    simp only [g_X5_findLength_39]
    have hGq : GS n P (absN b) (it n P (absN kf) (absN b) (p + len) s0) := GS_it hw (p + len) s0 hG ha
    have hGp : GS n P (absN b) (it n P (absN kf) (absN b) p s0) := GS_it hw p s0 hG (fun i hi => ha i (by omega))
    rw [show (65536 : Int32) = nI 65536 from rfl, ite_le (by omega) (by omega)]
    by_cases h6 : 65536 ≤ p + len
    · rw [if_pos h6]
      refine ⟨_, rfl, Or.inr ⟨rfl, p + len, hq, rfl, rfl, ha, ?_⟩⟩
      by_cases hpn : (it n P (absN kf) (absN b) (p + len) s0).2.2.1 = n
      · exact Or.inl hpn
      · refine Or.inr ⟨by omega, ?_⟩
        have k16 : ¬ k ≤ 15 := by
          intro hk15
          have := Nat.pow_le_pow_right (n := 2) (by omega) hk15
          omega
        have k17 : k ≤ 16 := by
          rcases Nat.lt_or_ge 16 k with z | z
          · have := Nat.pow_le_pow_right (n := 2) (by omega) (show 17 ≤ k by omega)
            omega
          · exact z
        have ek : k = 16 := by omega
        subst ek
        exact hhist 32767 (by omega)
    · rw [if_neg h6]
      unfold f_X0_isOver g_X0_isOver_0
      have hple := hGq.2.2.2.1
      rw [ite_lt (by omega) (by omega)]
      by_cases hov : (it n P (absN kf) (absN b) (p + len) s0).2.2.1 < n
      · rw [if_pos hov, Option.bind_some, if_pos rfl]
        have ha1 : ∀ i, i ≤ p + len → (it n P (absN kf) (absN b) i s0).2.2.1 < n := by
          intro i hi
          rcases Nat.lt_or_ge i (p + len) with z | z
          · exact ha i z
          · rw [show i = p + len by omega]; exact hov
        obtain ⟨f', t1, t2⟩ := x_stepI hn hw hX hV hG ha1 hf
        rw [t1, Option.bind_some]
        dsimp only
        have hG1 : GS n P (absN b) (it n P (absN kf) (absN b) (p + len + 1) s0) := GS_it hw (p + len + 1) s0 hG (fun i hi => ha1 i (by omega))
        obtain ⟨w1, w2⟩ := x_stands hn hGp hG1 hg t2
        by_cases hsame : ((it n P (absN kf) (absN b) p s0).2.2.1 = (it n P (absN kf) (absN b) (p + len + 1) s0).2.2.1 ∧ (it n P (absN kf) (absN b) p s0).1.1 = (it n P (absN kf) (absN b) (p + len + 1) s0).1.1)
        · rw [w1 hsame, Option.bind_some, if_neg (by decide), nI_p]
          refine ⟨_, rfl, Or.inl ⟨rfl, p, len + 1, rfl, by omega, by omega, fun i hi => ha1 i (by omega), hsame, fun l hl1 hl2 => hno l hl1 (by omega)⟩⟩
        · rw [w2 hsame, Option.bind_some, if_pos rfl, nI_p, ite_eq (by omega) (by omega)]
          have hno1 : ∀ l, 0 < l → l ≤ len + 1 → ¬ ((it n P (absN kf) (absN b) p s0).2.2.1 = (it n P (absN kf) (absN b) (p + l) s0).2.2.1 ∧ (it n P (absN kf) (absN b) p s0).1.1 = (it n P (absN kf) (absN b) (p + l) s0).1.1) := by
            intro l hl1 hl2
            rcases Nat.lt_or_ge l (len + 1) with z | z
            · exact hno l hl1 (by omega)
            · rw [show l = len + 1 by omega]; exact hsame
          by_cases hcp : len + 1 = p + 1
          · have hlp : len = p := by omega
            subst hlp
            rw [if_pos rfl, x_copyC, Option.bind_some, nI_s]
            dsimp only
            have e2 : nI (len + 1) * 2 = nI (len + len + 1 + 1) := by rw [show (2 : Int32) = nI 2 from rfl, pk_mul]; congr 1; omega
            rw [e2]
            have := ih (k + 1) (len + len + 1) 0 f' (cpI 0 f' g) (cpI 0 y21 y31) (by omega) (by rw [Nat.pow_succ]; omega) (by omega) (by omega) t2 (R6_cpI t2) (fun i hi => ha1 i (by omega)) (fun l hl1 hl2 => absurd hl2 (by omega)) (fun p0 hp0 l hl1 hl2 => by
              have : p0 = len := by omega
              subst this
              exact hno1 l hl1 hl2)
            rw [Nat.add_zero] at this
            exact this
          · rw [if_neg hcp, nI_s]
            exact ih k p (len + 1) f' g y31 (by omega) hk (by omega) (by omega) t2 hg (fun i hi => ha1 i (by omega)) hno1 hhist
      · rw [if_neg hov, Option.bind_some, if_neg (by decide)]
        exact ⟨_, rfl, Or.inr ⟨rfl, p + len, hq, rfl, rfl, ha, Or.inl (by omega)⟩⟩
theorem x_findA62 (hn : n ≤ 120) (hw : PWf n P) (hX : RX n P c fi se nx ot) (hV : RV kf b ms rs) (hG : GS n P (absN b) s0) (ha : ∀ i, (it n P (absN kf) (absN b) i s0).2.2.1 < n) {L : Nat} (hL : L ≤ 20000) {y21 y31 : Nat → Int32} : ∀ (fu r a : Nat) (f g : Nat → Int32), a + r = 20000 → r < fu → R6 f (it n P (absN kf) (absN b) (a + L) s0).1.1 → R6 g (it n P (absN kf) (absN b) a s0).1.1 → (∀ i, i < a → ¬ ((it n P (absN kf) (absN b) i s0).2.2.1 = (it n P (absN kf) (absN b) (i + L) s0).2.2.1 ∧ (it n P (absN kf) (absN b) i s0).1.1 = (it n P (absN kf) (absN b) (i + L) s0).1.1)) →
    ∃ u, g_X5_findAhead_62 fu (nI a) (nI a) (nI L) c fi se nx ot (nI n) y21 f (nI (it n P (absN kf) (absN b) (a + L) s0).1.2.1) (nI (it n P (absN kf) (absN b) (a + L) s0).1.2.2.1) (nI (it n P (absN kf) (absN b) (a + L) s0).1.2.2.2) (nI (it n P (absN kf) (absN b) (a + L) s0).2.1) (nI (it n P (absN kf) (absN b) (a + L) s0).2.2.1) (nI (it n P (absN kf) (absN b) (a + L) s0).2.2.2) y31 g (nI (it n P (absN kf) (absN b) a s0).1.2.1) (nI (it n P (absN kf) (absN b) a s0).1.2.2.1) (nI (it n P (absN kf) (absN b) a s0).1.2.2.2) (nI (it n P (absN kf) (absN b) a s0).2.1) (nI (it n P (absN kf) (absN b) a s0).2.2.1) (nI (it n P (absN kf) (absN b) a s0).2.2.2) kf b ms rs = some u ∧ ∃ a', u.1 = nI a' ∧ a' ≤ 20000 ∧ (∀ i, i < a' → ¬ ((it n P (absN kf) (absN b) i s0).2.2.1 = (it n P (absN kf) (absN b) (i + L) s0).2.2.1 ∧ (it n P (absN kf) (absN b) i s0).1.1 = (it n P (absN kf) (absN b) (i + L) s0).1.1)) ∧ (a' = 20000 ∨ ((it n P (absN kf) (absN b) a' s0).2.2.1 = (it n P (absN kf) (absN b) (a' + L) s0).2.2.1 ∧ (it n P (absN kf) (absN b) a' s0).1.1 = (it n P (absN kf) (absN b) (a' + L) s0).1.1)) := by
  intro fu
  induction fu with
  | zero => intro r a f g h1 h2; omega
  | succ fu ih =>
    intro r a f g h1 h2 hf hg hno
    simp only [g_X5_findAhead_62]
    have hG1 : GS n P (absN b) (it n P (absN kf) (absN b) a s0) := GS_it hw a s0 hG (fun i _ => ha i)
    have hG2 : GS n P (absN b) (it n P (absN kf) (absN b) (a + L) s0) := GS_it hw (a + L) s0 hG (fun i _ => ha i)
    rw [show (20000 : Int32) = nI 20000 from rfl, ite_le (by omega) (by omega)]
    by_cases hr : 20000 ≤ a
    · rw [if_pos hr]
      exact ⟨_, rfl, a, rfl, by omega, hno, Or.inl (by omega)⟩
    · rw [if_neg hr]
      obtain ⟨w1, w2⟩ := x_stands hn hG1 hG2 hg hf
      by_cases hs : ((it n P (absN kf) (absN b) a s0).2.2.1 = (it n P (absN kf) (absN b) (a + L) s0).2.2.1 ∧ (it n P (absN kf) (absN b) a s0).1.1 = (it n P (absN kf) (absN b) (a + L) s0).1.1)
      · rw [w1 hs, Option.bind_some, if_neg (by decide)]
        exact ⟨_, rfl, a, rfl, by omega, hno, Or.inr hs⟩
      · rw [w2 hs, Option.bind_some, if_pos rfl]
        obtain ⟨g', t1, t2⟩ := x_stepI hn hw hX hV hG (i := a) (fun j _ => ha j) hg
        obtain ⟨f', t3, t4⟩ := x_stepI hn hw hX hV hG (i := a + L) (fun j _ => ha j) hf
        rw [t1, Option.bind_some, t3, Option.bind_some, nI_s]
        have := ih (r - 1) (a + 1) f' g' (by omega) (by omega) (by rw [show a + 1 + L = a + L + 1 by omega]; exact t4) t2 (fun i hi => by
          rcases Nat.lt_or_ge i a with z | z
          · exact hno i z
          · rw [show i = a by omega]; exact hs)
        rw [show a + 1 + L = a + L + 1 by omega] at this
        exact this
theorem x_findA32 (hn : n ≤ 120) (hw : PWf n P) (hX : RX n P c fi se nx ot) (hV : RV kf b ms rs) (hG : GS n P (absN b) s0) (ha : ∀ i, (it n P (absN kf) (absN b) i s0).2.2.1 < n) {L : Nat} (hL : L ≤ 20000) {y21 y31 g : Nat → Int32} (hg : R6 g (it n P (absN kf) (absN b) 0 s0).1.1) (x4 : Int32) : ∀ (fu r a : Nat) (f : Nat → Int32), a + r = L → r < fu → R6 f (it n P (absN kf) (absN b) a s0).1.1 →
    ∃ u, g_X5_findAhead_32 fu (nI a) x4 (nI L) c fi se nx ot (nI n) y21 f (nI (it n P (absN kf) (absN b) a s0).1.2.1) (nI (it n P (absN kf) (absN b) a s0).1.2.2.1) (nI (it n P (absN kf) (absN b) a s0).1.2.2.2) (nI (it n P (absN kf) (absN b) a s0).2.1) (nI (it n P (absN kf) (absN b) a s0).2.2.1) (nI (it n P (absN kf) (absN b) a s0).2.2.2) y31 g (nI (it n P (absN kf) (absN b) 0 s0).1.2.1) (nI (it n P (absN kf) (absN b) 0 s0).1.2.2.1) (nI (it n P (absN kf) (absN b) 0 s0).1.2.2.2) (nI (it n P (absN kf) (absN b) 0 s0).2.1) (nI (it n P (absN kf) (absN b) 0 s0).2.2.1) (nI (it n P (absN kf) (absN b) 0 s0).2.2.2) kf b ms rs = some u ∧ ∃ a', u.1 = nI a' ∧ a' ≤ 20000 ∧ (∀ i, i < a' → ¬ ((it n P (absN kf) (absN b) i s0).2.2.1 = (it n P (absN kf) (absN b) (i + L) s0).2.2.1 ∧ (it n P (absN kf) (absN b) i s0).1.1 = (it n P (absN kf) (absN b) (i + L) s0).1.1)) ∧ (a' = 20000 ∨ ((it n P (absN kf) (absN b) a' s0).2.2.1 = (it n P (absN kf) (absN b) (a' + L) s0).2.2.1 ∧ (it n P (absN kf) (absN b) a' s0).1.1 = (it n P (absN kf) (absN b) (a' + L) s0).1.1)) := by
  intro fu
  induction fu with
  | zero => intro r a f h1 h2; omega
  | succ fu ih =>
    intro r a f h1 h2 hf
    simp only [g_X5_findAhead_32]
    rw [ite_le (by omega) (by omega)]
    by_cases hr : L ≤ a
    · have haL : a = L := by omega
      subst haL
      rw [if_pos hr]
      have := x_findA62 hn hw hX hV hG ha hL (y21 := y21) (y31 := y31) FU 20000 0 f g (by omega) (by unfold FU; omega) (by rw [Nat.zero_add]; exact hf) hg (fun i hi => absurd hi (by omega))
      rw [Nat.zero_add] at this
      exact this
    · rw [if_neg hr]
      obtain ⟨f', t3, t4⟩ := x_stepI hn hw hX hV hG (i := a) (fun j _ => ha j) hf
      rw [t3, Option.bind_some, nI_s]
      exact ih (r - 1) (a + 1) f' (by omega) (by omega) t4
end RINGL
