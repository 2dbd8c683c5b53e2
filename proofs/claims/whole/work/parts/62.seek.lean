section SEEK
variable {n : Nat} {P : PG} {kf b ms c fi se nx ot : Nat → Int32} {rs : Int32} {s0 : AS}
/-- a same standing, of living ones, is the same key -/
theorem same_key (hw : PWf n P) (hG : GS n P (absN b) s0) {N i j : Nat} (ha : ∀ i, i < N → (it n P (absN kf) (absN b) i s0).2.2.1 < n) (hi : i ≤ N) (hj : j ≤ N) (hil : (it n P (absN kf) (absN b) i s0).2.2.1 < n) (h : ((it n P (absN kf) (absN b) i s0).2.2.1 = (it n P (absN kf) (absN b) j s0).2.2.1 ∧ (it n P (absN kf) (absN b) i s0).1.1 = (it n P (absN kf) (absN b) j s0).1.1)) : keyA (it n P (absN kf) (absN b) i s0) = keyA (it n P (absN kf) (absN b) j s0) :=
  key_eq (GS_it hw i s0 hG (fun t ht => ha t (by omega))) (GS_it hw j s0 hG (fun t ht => ha t (by omega))) hil h.1 h.2
theorem key_same {i j : Nat} (h : keyA (it n P (absN kf) (absN b) i s0) = keyA (it n P (absN kf) (absN b) j s0)) : ((it n P (absN kf) (absN b) i s0).2.2.1 = (it n P (absN kf) (absN b) j s0).2.2.1 ∧ (it n P (absN kf) (absN b) i s0).1.1 = (it n P (absN kf) (absN b) j s0).1.1) := ⟨key_place h, congrArg Prod.snd h⟩
theorem x_findLF (hn : n ≤ 120) (hw : PWf n P) (hp0 : stp0 n P) (hX : RX n P c fi se nx ot) (hV : RV kf b ms rs) (x5 : Int32) (d1 d2 : Nat → Int32) (e3 e4 e5 e6 e7 e8 : Int32) (k1 k2 : Nat → Int32) (l3 l4 l5 l6 l7 l8 : Int32) : ∃ u, f_X5_findLength x5 c fi se nx ot (nI n) d1 d2 e3 e4 e5 e6 e7 e8 k1 k2 l3 l4 l5 l6 l7 l8 kf b ms rs = some u ∧ ((u.1 = 1 ∧ ∃ p L, u.2.1 = nI L ∧ 0 < L ∧ p + L ≤ 65536 ∧ (∀ i, i < p + L → (it n P (absN kf) (absN b) i (st0 (absN ms) 0)).2.2.1 < n) ∧ ((it n P (absN kf) (absN b) p (st0 (absN ms) 0)).2.2.1 = (it n P (absN kf) (absN b) (p + L) (st0 (absN ms) 0)).2.2.1 ∧ (it n P (absN kf) (absN b) p (st0 (absN ms) 0)).1.1 = (it n P (absN kf) (absN b) (p + L) (st0 (absN ms) 0)).1.1) ∧ (∀ l, 0 < l → l < L → ¬ ((it n P (absN kf) (absN b) p (st0 (absN ms) 0)).2.2.1 = (it n P (absN kf) (absN b) (p + l) (st0 (absN ms) 0)).2.2.1 ∧ (it n P (absN kf) (absN b) p (st0 (absN ms) 0)).1.1 = (it n P (absN kf) (absN b) (p + l) (st0 (absN ms) 0)).1.1))) ∨ (u.1 = 0 ∧ ∃ q, q ≤ 65536 ∧ u.2.2.2.2.2.2.2.1 = nI (it n P (absN kf) (absN b) q (st0 (absN ms) 0)).2.1 ∧ u.2.2.2.2.2.2.2.2.1 = nI (it n P (absN kf) (absN b) q (st0 (absN ms) 0)).2.2.1 ∧ (∀ i, i < q → (it n P (absN kf) (absN b) i (st0 (absN ms) 0)).2.2.1 < n) ∧ ((it n P (absN kf) (absN b) q (st0 (absN ms) 0)).2.2.1 = n ∨ (q = 65536 ∧ ∀ l, 0 < l → l ≤ 32768 → ¬ ((it n P (absN kf) (absN b) 32767 (st0 (absN ms) 0)).2.2.1 = (it n P (absN kf) (absN b) (32767 + l) (st0 (absN ms) 0)).2.2.1 ∧ (it n P (absN kf) (absN b) 32767 (st0 (absN ms) 0)).1.1 = (it n P (absN kf) (absN b) (32767 + l) (st0 (absN ms) 0)).1.1))))) := by
  obtain ⟨q1, q2, q3, q4, q5, q6⟩ := RV_abs hV
  have hG : GS n P (absN b) (st0 (absN ms) 0) := GS_0 hp0 (by omega) q5 (Z6_abs _)
  unfold f_X5_findLength g_X5_findLength_0
  rw [x_start, Option.bind_some, x_start, Option.bind_some]
  exact x_findL hn hw hX hV hG (y21 := cpI 0 ms d1) FU 0 0 0 (cpI 0 ms d2) (cpI 0 ms k2) (cpI 0 ms k1) (by unfold FU; omega) rfl (by omega) (by omega) (R6_cpI q4) (R6_cpI q4) (fun i hi => absurd hi (by omega)) (fun l h1 h2 => absurd h2 (by omega)) (fun p0 h => absurd h (by omega))
theorem x_findAF (hn : n ≤ 120) (hw : PWf n P) (hp0 : stp0 n P) (hX : RX n P c fi se nx ot) (hV : RV kf b ms rs) (ha : ∀ i, (it n P (absN kf) (absN b) i (st0 (absN ms) 0)).2.2.1 < n) {L : Nat} (hL : L ≤ 20000) (x4 : Int32) (d1 d2 : Nat → Int32) (e3 e4 e5 e6 e7 e8 : Int32) (k1 k2 : Nat → Int32) (l3 l4 l5 l6 l7 l8 : Int32) : ∃ u, f_X5_findAhead x4 (nI L) c fi se nx ot (nI n) d1 d2 e3 e4 e5 e6 e7 e8 k1 k2 l3 l4 l5 l6 l7 l8 kf b ms rs = some u ∧ ∃ a', u.1 = nI a' ∧ a' ≤ 20000 ∧ (∀ i, i < a' → ¬ ((it n P (absN kf) (absN b) i (st0 (absN ms) 0)).2.2.1 = (it n P (absN kf) (absN b) (i + L) (st0 (absN ms) 0)).2.2.1 ∧ (it n P (absN kf) (absN b) i (st0 (absN ms) 0)).1.1 = (it n P (absN kf) (absN b) (i + L) (st0 (absN ms) 0)).1.1)) ∧ (a' = 20000 ∨ ((it n P (absN kf) (absN b) a' (st0 (absN ms) 0)).2.2.1 = (it n P (absN kf) (absN b) (a' + L) (st0 (absN ms) 0)).2.2.1 ∧ (it n P (absN kf) (absN b) a' (st0 (absN ms) 0)).1.1 = (it n P (absN kf) (absN b) (a' + L) (st0 (absN ms) 0)).1.1)) := by
  obtain ⟨q1, q2, q3, q4, q5, q6⟩ := RV_abs hV
  have hG : GS n P (absN b) (st0 (absN ms) 0) := GS_0 hp0 (by omega) q5 (Z6_abs _)
  unfold f_X5_findAhead g_X5_findAhead_0
  rw [x_start, Option.bind_some, x_start, Option.bind_some]
  exact x_findA32 hn hw hX hV hG ha hL (y21 := cpI 0 ms d1) (y31 := cpI 0 ms k1) (R6_cpI q4) x4 FU L 0 (cpI 0 ms d2) (by omega) (by unfold FU; omega) (R6_cpI q4)
theorem x_seekE (hn : n ≤ 120) (hw : PWf n P) (hp0 : stp0 n P) (hX : RX n P c fi se nx ot) (hV : RV kf b ms rs) {A : Nat} (hA : A ≤ 20000) (ha : ∀ i, i < A → (it n P (absN kf) (absN b) i (st0 (absN ms) 0)).2.2.1 < n) (hAn : (it n P (absN kf) (absN b) A (st0 (absN ms) 0)).2.2.1 = n) (x3 x4 x5 : Int32) (d1 d2 : Nat → Int32) (e3 e4 e5 e6 e7 e8 : Int32) (k1 k2 : Nat → Int32) (l3 l4 l5 l6 l7 l8 : Int32) : ∃ u, f_X5_seek x3 x4 x5 c fi se nx ot (nI n) d1 d2 e3 e4 e5 e6 e7 e8 k1 k2 l3 l4 l5 l6 l7 l8 kf b ms rs = some u ∧ u.1 = 0 := by
  obtain ⟨q1, q2, q3, q4, q5, q6⟩ := RV_abs hV
  have hG : GS n P (absN b) (st0 (absN ms) 0) := GS_0 hp0 (by omega) q5 (Z6_abs _)
  obtain ⟨u, t1, t2⟩ := x_findLF hn hw hp0 hX hV x5 d1 d2 e3 e4 e5 e6 e7 e8 k1 k2 l3 l4 l5 l6 l7 l8
  unfold f_X5_seek g_X5_seek_0
  rw [t1, Option.bind_some]
  rcases t2 with ⟨-, p, L, -, g2, g3, g4, g5, g6⟩ | ⟨g1, q, g2, g3, g4, g5, g6⟩
  · exfalso
    have hk := same_key hw hG g4 (by omega) (Nat.le_refl _) (g4 p (by omega)) g5
    have := key_alive (by show 0 < 1009; omega) g2 hk.symm g4 A
    omega
  · have hq : q = A := by
      rcases g6 with z | z
      · rcases Nat.lt_trichotomy q A with w | w | w
        · have := ha q w; omega
        · exact w
        · have := g5 A w; omega
      · have := g5 A (by omega); omega
    subst hq
    rw [g1, if_pos rfl]
    unfold f_X0_isOver g_X0_isOver_0
    rw [g4, hAn, ite_lt (by omega) (by omega), if_neg (by omega), Option.bind_some, if_neg (by decide), g3, it_st]
    rw [show (20000 : Int32) = nI 20000 from rfl, ite_lt (by omega) (by show 0 + q < _; omega), if_neg (by show ¬ 20000 < 0 + q; omega)]
    exact ⟨_, rfl, rfl⟩
theorem x_seekN (hn : n ≤ 120) (hw : PWf n P) (hp0 : stp0 n P) (hX : RX n P c fi se nx ot) (hV : RV kf b ms rs) (ha : ∀ i, i ≤ 20000 → (it n P (absN kf) (absN b) i (st0 (absN ms) 0)).2.2.1 < n) (hno : ∀ i, i < 20000 → ¬ ((it n P (absN kf) (absN b) i (st0 (absN ms) 0)).2.2.1 = (it n P (absN kf) (absN b) 20000 (st0 (absN ms) 0)).2.2.1 ∧ (it n P (absN kf) (absN b) i (st0 (absN ms) 0)).1.1 = (it n P (absN kf) (absN b) 20000 (st0 (absN ms) 0)).1.1)) (x3 x4 x5 : Int32) (d1 d2 : Nat → Int32) (e3 e4 e5 e6 e7 e8 : Int32) (k1 k2 : Nat → Int32) (l3 l4 l5 l6 l7 l8 : Int32) : ∃ u, f_X5_seek x3 x4 x5 c fi se nx ot (nI n) d1 d2 e3 e4 e5 e6 e7 e8 k1 k2 l3 l4 l5 l6 l7 l8 kf b ms rs = some u ∧ u.1 = 2 := by
  obtain ⟨q1, q2, q3, q4, q5, q6⟩ := RV_abs hV
  have hG : GS n P (absN b) (st0 (absN ms) 0) := GS_0 hp0 (by omega) q5 (Z6_abs _)
  have hno2 : ∀ i L, 0 < L → i + L ≤ 20000 → ¬ ((it n P (absN kf) (absN b) i (st0 (absN ms) 0)).2.2.1 = (it n P (absN kf) (absN b) (i + L) (st0 (absN ms) 0)).2.2.1 ∧ (it n P (absN kf) (absN b) i (st0 (absN ms) 0)).1.1 = (it n P (absN kf) (absN b) (i + L) (st0 (absN ms) 0)).1.1) := by
    intro i L hL hi hs
    have hk := same_key hw hG (N := 20000) (fun t ht => ha t (by omega)) (by omega) hi (ha i (by omega)) hs
    have hk2 := key_D (n := n) (P := P) (K := absN kf) (B := absN b) (s0 := st0 (absN ms) 0) (by show 0 < 1009; omega) _ _ hk (20000 - (i + L))
    rw [show i + L + (20000 - (i + L)) = 20000 by omega] at hk2
    exact hno _ (by omega) (key_same hk2)
  obtain ⟨u, t1, t2⟩ := x_findLF hn hw hp0 hX hV x5 d1 d2 e3 e4 e5 e6 e7 e8 k1 k2 l3 l4 l5 l6 l7 l8
  unfold f_X5_seek g_X5_seek_0
  rw [t1, Option.bind_some]
  rcases t2 with ⟨g0, p, L, g1, g2, g3, g4, g5, g6⟩ | ⟨g1, q, g2, g3, g4, g5, g6⟩
  · rw [g0, if_neg (by decide), g1, show (20000 : Int32) = nI 20000 from rfl, ite_le (by omega) (by omega)]
    by_cases hL : L ≤ 20000
    · rw [if_pos hL]
      have hk := same_key hw hG g4 (by omega) (Nat.le_refl _) (g4 p (by omega)) g5
      have hal := key_alive (by show 0 < 1009; omega) g2 hk.symm g4
      obtain ⟨u2, t3, a', t4, t5, t6, t7⟩ := x_findAF hn hw hp0 hX hV hal hL x4 u.2.2.1 u.2.2.2.1 u.2.2.2.2.1 u.2.2.2.2.2.1 u.2.2.2.2.2.2.1 u.2.2.2.2.2.2.2.1 u.2.2.2.2.2.2.2.2.1 u.2.2.2.2.2.2.2.2.2.1 u.2.2.2.2.2.2.2.2.2.2.1 u.2.2.2.2.2.2.2.2.2.2.2.1 u.2.2.2.2.2.2.2.2.2.2.2.2.1 u.2.2.2.2.2.2.2.2.2.2.2.2.2.1 u.2.2.2.2.2.2.2.2.2.2.2.2.2.2.1 u.2.2.2.2.2.2.2.2.2.2.2.2.2.2.2.1 u.2.2.2.2.2.2.2.2.2.2.2.2.2.2.2.2.1 u.2.2.2.2.2.2.2.2.2.2.2.2.2.2.2.2.2
      rw [t3, Option.bind_some, t4, nI_add, ite_lt (by omega) (by omega)]
      have hbig : 20000 < a' + L := by
        rcases t7 with z | z
        · omega
        · rcases Nat.lt_or_ge 20000 (a' + L) with y | y
          · exact y
          · exact absurd z (hno2 a' L g2 y)
      rw [if_pos hbig]
      exact ⟨_, rfl, rfl⟩
    · rw [if_neg hL]
      exact ⟨_, rfl, rfl⟩
  · rw [g1, if_pos rfl]
    have hGq : GS n P (absN b) (it n P (absN kf) (absN b) q (st0 (absN ms) 0)) := GS_it hw q _ hG g5
    have hple := hGq.2.2.2.1
    unfold f_X0_isOver g_X0_isOver_0
    rw [g4, ite_lt (by omega) (by omega)]
    by_cases hov : (it n P (absN kf) (absN b) q (st0 (absN ms) 0)).2.2.1 < n
    · rw [if_pos hov, Option.bind_some, if_pos rfl]
      exact ⟨_, rfl, rfl⟩
    · rw [if_neg hov, Option.bind_some, if_neg (by decide), g3, it_st]
      have hq : 20000 < q := by
        rcases Nat.lt_or_ge 20000 q with z | z
        · exact z
        · have := ha q z; omega
      rw [show (20000 : Int32) = nI 20000 from rfl, ite_lt (by omega) (by show 0 + q < _; omega), if_pos (by show 20000 < 0 + q; omega)]
      exact ⟨_, rfl, rfl⟩
theorem x_seekR (hn : n ≤ 120) (hw : PWf n P) (hp0 : stp0 n P) (hX : RX n P c fi se nx ot) (hV : RV kf b ms rs) (ha : ∀ i, i ≤ 20000 → (it n P (absN kf) (absN b) i (st0 (absN ms) 0)).2.2.1 < n) {q M fst : Nat} (hqM : q + M = 20000) (hM : 0 < M) (h1 : ((it n P (absN kf) (absN b) q (st0 (absN ms) 0)).2.2.1 = (it n P (absN kf) (absN b) 20000 (st0 (absN ms) 0)).2.2.1 ∧ (it n P (absN kf) (absN b) q (st0 (absN ms) 0)).1.1 = (it n P (absN kf) (absN b) 20000 (st0 (absN ms) 0)).1.1)) (h2 : ∀ l, 0 < l → l < M → ¬ ((it n P (absN kf) (absN b) (20000 - l) (st0 (absN ms) 0)).2.2.1 = (it n P (absN kf) (absN b) 20000 (st0 (absN ms) 0)).2.2.1 ∧ (it n P (absN kf) (absN b) (20000 - l) (st0 (absN ms) 0)).1.1 = (it n P (absN kf) (absN b) 20000 (st0 (absN ms) 0)).1.1)) (h3 : ∀ i, i < fst → ¬ ((it n P (absN kf) (absN b) i (st0 (absN ms) 0)).2.2.1 = (it n P (absN kf) (absN b) (i + M) (st0 (absN ms) 0)).2.2.1 ∧ (it n P (absN kf) (absN b) i (st0 (absN ms) 0)).1.1 = (it n P (absN kf) (absN b) (i + M) (st0 (absN ms) 0)).1.1)) (h4 : ((it n P (absN kf) (absN b) fst (st0 (absN ms) 0)).2.2.1 = (it n P (absN kf) (absN b) (fst + M) (st0 (absN ms) 0)).2.2.1 ∧ (it n P (absN kf) (absN b) fst (st0 (absN ms) 0)).1.1 = (it n P (absN kf) (absN b) (fst + M) (st0 (absN ms) 0)).1.1)) (h5 : fst ≤ q) (x3 x4 x5 : Int32) (d1 d2 : Nat → Int32) (e3 e4 e5 e6 e7 e8 : Int32) (k1 k2 : Nat → Int32) (l3 l4 l5 l6 l7 l8 : Int32) : ∃ u, f_X5_seek x3 x4 x5 c fi se nx ot (nI n) d1 d2 e3 e4 e5 e6 e7 e8 k1 k2 l3 l4 l5 l6 l7 l8 kf b ms rs = some u ∧ u.1 = 1 ∧ u.2.1 = nI fst ∧ u.2.2.1 = nI M := by
  obtain ⟨q1, q2, q3, q4, q5, q6⟩ := RV_abs hV
  have hG : GS n P (absN b) (st0 (absN ms) 0) := GS_0 hp0 (by omega) q5 (Z6_abs _)
  have hc : (st0 (absN ms) 0).1.2.2.2 < 1009 := by show 0 < 1009; omega
  have hkq : keyA (it n P (absN kf) (absN b) q (st0 (absN ms) 0)) = keyA (it n P (absN kf) (absN b) 20000 (st0 (absN ms) 0)) := same_key hw hG (N := 20000) (fun t ht => ha t (by omega)) (by omega) (Nat.le_refl _) (ha q (by omega)) h1
  have hkq' : keyA (it n P (absN kf) (absN b) (q + M) (st0 (absN ms) 0)) = keyA (it n P (absN kf) (absN b) q (st0 (absN ms) 0)) := by rw [hqM]; exact hkq.symm
  have hal : ∀ i, (it n P (absN kf) (absN b) i (st0 (absN ms) 0)).2.2.1 < n := key_alive hc hM hkq' (fun i hi => ha i (by omega))
  obtain ⟨u, t1, t2⟩ := x_findLF hn hw hp0 hX hV x5 d1 d2 e3 e4 e5 e6 e7 e8 k1 k2 l3 l4 l5 l6 l7 l8
  unfold f_X5_seek g_X5_seek_0
  rw [t1, Option.bind_some]
  rcases t2 with ⟨g0, p, L, g1, g2, g3, g4, g5, g6⟩ | ⟨g1, q', g2, g3, g4, g5, g6⟩
  · have hk := same_key hw hG g4 (by omega) (Nat.le_refl _) (g4 p (by omega)) g5
    have hLM : L = M := per_min (y := fun i => keyA (it n P (absN kf) (absN b) i (st0 (absN ms) 0))) (key_D hc) g2 hM hk.symm (fun l hl1 hl2 hh => g6 l hl1 hl2 (key_same (show keyA (it n P (absN kf) (absN b) p (st0 (absN ms) 0)) = keyA (it n P (absN kf) (absN b) (p + l) (st0 (absN ms) 0)) from hh.symm))) hkq' (fun l hl1 hl2 hh => by
      have hh' : keyA (it n P (absN kf) (absN b) (q + M - l) (st0 (absN ms) 0)) = keyA (it n P (absN kf) (absN b) (q + M) (st0 (absN ms) 0)) := hh
      rw [hqM] at hh'
      exact h2 l hl1 hl2 (key_same hh'))
    subst hLM
    rw [g0, if_neg (by decide), g1, show (20000 : Int32) = nI 20000 from rfl, ite_le (by omega) (by omega), if_pos (by omega)]
    obtain ⟨u2, t3, a', t4, t5, t6, t7⟩ := x_findAF hn hw hp0 hX hV hal (L := L) (by omega) x4 u.2.2.1 u.2.2.2.1 u.2.2.2.2.1 u.2.2.2.2.2.1 u.2.2.2.2.2.2.1 u.2.2.2.2.2.2.2.1 u.2.2.2.2.2.2.2.2.1 u.2.2.2.2.2.2.2.2.2.1 u.2.2.2.2.2.2.2.2.2.2.1 u.2.2.2.2.2.2.2.2.2.2.2.1 u.2.2.2.2.2.2.2.2.2.2.2.2.1 u.2.2.2.2.2.2.2.2.2.2.2.2.2.1 u.2.2.2.2.2.2.2.2.2.2.2.2.2.2.1 u.2.2.2.2.2.2.2.2.2.2.2.2.2.2.2.1 u.2.2.2.2.2.2.2.2.2.2.2.2.2.2.2.2.1 u.2.2.2.2.2.2.2.2.2.2.2.2.2.2.2.2.2
    have hfa : a' = fst := by
      rcases Nat.lt_trichotomy a' fst with z | z | z
      · rcases t7 with y | y
        · omega
        · exact absurd y (h3 a' z)
      · exact z
      · exact absurd h4 (t6 fst z)
    subst hfa
    rw [t3, Option.bind_some, t4, nI_add, ite_lt (by omega) (by omega), if_neg (by omega)]
    exact ⟨_, rfl, rfl, rfl, rfl⟩
  · exfalso
    rcases g6 with z | ⟨-, z⟩
    · have := hal q'; omega
    · have := per_1 (y := fun i => keyA (it n P (absN kf) (absN b) i (st0 (absN ms) 0))) (key_D hc) hkq' (i := 32767) (by omega)
      exact z M hM (by omega) (key_same (show keyA (it n P (absN kf) (absN b) 32767 (st0 (absN ms) 0)) = keyA (it n P (absN kf) (absN b) (32767 + M) (st0 (absN ms) 0)) from this.symm))
end SEEK
