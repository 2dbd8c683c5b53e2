/-! acts of both -/
section ACTSR
variable {t : Nat → Int32} {N : Nat} {K : Int32 → (Nat → Int32) → (Nat → Int32) → (Nat → Int32) → (Nat → Int32) → Int32 → Int32 → (Nat → Int32) → Int32 → Int32 → Int32 → Option (Int32 × (Nat → Int32) × (Nat → Int32) × (Nat → Int32) × (Nat → Int32) × Int32 × Int32 × Int32 × Int32)}
theorem RA_zB {q : Int32 → Prop} {fr c p : Nat} {yc y1 y2 yo op a b fk fa : Nat → Int32} {X : Option (Int32 × (Nat → Int32) × (Nat → Int32) × (Nat → Int32) × (Nat → Int32) × Int32 × Int32 × Int32 × Int32)} {M : Option (Int32 × Int32 × Int32 × Int32 × (Nat → Int32) × (Nat → Int32) × (Nat → Int32) × (Nat → Int32) × (Nat → Int32) × Int32 × Int32 × Int32)} (h : RA q t N fr c p yc y1 y2 yo op a b fk fa X M) : RA q t N fr c p yc y1 y2 yo op a b fk fa (X.bind (fun u => (if zB u.1 = true then some (u.1, u.2.1, u.2.2.1, u.2.2.2.1, u.2.2.2.2.1, u.2.2.2.2.2.1, u.2.2.2.2.2.2.1, u.2.2.2.2.2.2.2.1, u.2.2.2.2.2.2.2.2) else none))) M := by
  rcases h with ⟨u, w, u1, u2, w1, w2, w3⟩ | ⟨c', p', n', m', yc', y1', y2', yo', op', a', b', fk', fa', ac', fx', fm', lt', x1, xr⟩
  · rw [u1, Option.bind_some, if_pos (by rw [u2]; rfl)]
    exact Or.inl ⟨_, w, rfl, u2, w1, w2, w3⟩
  · rw [x1, Option.bind_some, if_pos (show zB 1 = true from rfl)]
    exact Or.inr ⟨c', p', n', m', yc', y1', y2', yo', op', a', b', fk', fa', ac', fx', fm', lt', rfl, xr⟩
theorem act_both (hN : N ≤ 120) {f n fr c p : Nat} {yc y1 y2 yo op a b fk fa : Nat → Int32} {ac fx fl lt : Int32} (hfr : fr ≤ 6) (hc : c ≤ p) (hp : p ≤ N) (hf : N - p < f + 1) (hn : N - p + 1 < n) (hK : fr < 6 → CAt t N (fr + 1) K) : RA (fun _ => True) t N fr c p yc y1 y2 yo op a b fk fa (f_X4_readAct K (nI fr) yc y1 y2 yo (nI c) ac t (nI p) (nI N) fx) (MA (f + 1) n t (nI p) (nI N) fl (nI c) op a b fk fa (nI fr) ac lt) := by
  by_cases s5 : sgn t N p = 119
  · have hlt : p < N := sgn_lt (by rw [s5]; decide)
    have e : f_X4_readAct K (nI fr) yc y1 y2 yo (nI c) ac t (nI p) (nI N) fx = (f_X4_readWhile K (nI fr) yc y1 y2 yo (nI c) ac t (nI (p + 1)) (nI N) fx).bind (fun u => (if zB u.1 = true then some (u.1, u.2.1, u.2.2.1, u.2.2.2.1, u.2.2.2.2.1, u.2.2.2.2.2.1, u.2.2.2.2.2.2.1, u.2.2.2.2.2.2.2.1, u.2.2.2.2.2.2.2.2) else none)) := by
      unfold f_X4_readAct g_X4_readAct_0
      rw [x_sgn hN (by omega), Option.bind_some, x_bg, s5, if_pos (show bg 119 by decide), Option.bind_some, if_neg (by decide)]
      show (some (nI p + 1)).bind _ = _
      rw [Option.bind_some, nI_p, if_neg (by decide), if_neg (by decide), if_neg (by decide), if_neg (by decide), if_neg (by decide), if_pos rfl]
    rw [e]
    exact RA_zB (while_both hN hfr hc hlt hf hn s5 hK)
  · by_cases s6 : sgn t N p = 105
    · have hlt : p < N := sgn_lt (by rw [s6]; decide)
      have e : f_X4_readAct K (nI fr) yc y1 y2 yo (nI c) ac t (nI p) (nI N) fx = (f_X4_readIf K (nI fr) yc y1 y2 yo (nI c) ac t (nI (p + 1)) (nI N) fx).bind (fun u => (if zB u.1 = true then some (u.1, u.2.1, u.2.2.1, u.2.2.2.1, u.2.2.2.2.1, u.2.2.2.2.2.1, u.2.2.2.2.2.2.1, u.2.2.2.2.2.2.2.1, u.2.2.2.2.2.2.2.2) else none)) := by
        unfold f_X4_readAct g_X4_readAct_0
        rw [x_sgn hN (by omega), Option.bind_some, x_bg, s6, if_pos (show bg 105 by decide), Option.bind_some, if_neg (by decide)]
        show (some (nI p + 1)).bind _ = _
        rw [Option.bind_some, nI_p, if_neg (by decide), if_neg (by decide), if_pos rfl]
      rw [e]
      exact RA_zB (if_both hN hfr hc hlt hf hn s6 hK)
    · exact act_simple hN hfr hc hp hn s5 s6
theorem ral_0 (v4 : Int32) (yc y1 y2 yo : Nat → Int32) (v2 x5 x6 x12 x13 x14 : Int32) (fu : Nat) : g_X4_readActs_10 K (fu + 1) v2 0 v4 yc y1 y2 yo x5 x6 t x12 x13 x14 = some (0, yc, y1, y2, yo, x5, x6, x12, x14) := by
  simp only [g_X4_readActs_10]
  rw [if_pos trivial, if_pos (show zB 0 = true from rfl), ite_self]
theorem acts_loop (hN : N ≤ 120) {fr c0 p0 : Nat} {zc z1 z2 zo zp za zb zk zf : Nat → Int32} (hfr : fr ≤ 6) (hK : fr < 6 → CAt t N (fr + 1) K) : ∀ (fu k c p n m : Nat) (yc y1 y2 yo op a b fk fa : Nat → Int32) (ac fx fl lt : Int32), 120 - k < fu → k + 1 ≤ p → c0 < c → c ≤ p → p0 < p → p ≤ N → N - p + 2 < n → fr < m → (∀ i, i < c0 → yc i = zc i ∧ y1 i = z1 i ∧ y2 i = z2 i ∧ yo i = zo i ∧ op i = zp i ∧ a i = za i ∧ b i = zb i) → (∀ i, c0 ≤ i → i < c → GIt c0 c i yc y1 y2 yo op a b) → ¬ op c0 = 5 → (∀ i, i < fr → fk i = zk i ∧ fa i = zf i) →
    RA (fun s => ¬ bg s) t N fr c0 p0 zc z1 z2 zo zp za zb zk zf (g_X4_readActs_10 K fu (nI fr) 1 (nI k) yc y1 y2 yo (nI c) ac t (nI p) (nI N) fx) (g_X12_readsRecipe_19 (g_X12_readsRecipe_10 n) m t (nI p) (nI N) fl (nI c) op a b fk fa (nI fr) ac lt) := by
  intro fu
  induction fu with
  | zero => intro k c p n m yc y1 y2 yo op a b fk fa ac fx fl lt h1; omega
  | succ fu ih =>
    intro k c p n m yc y1 y2 yo op a b fk fa ac fx fl lt h1 h2 h3 h4 h5 h6 h7 h8 h9 h10 h11 h12
    simp only [g_X4_readActs_10]
    rw [if_neg (show ¬ (120 : Int32) ≤ nI k from fun z => by have := (nI_leI (a := 120) (by omega) (by omega)).mp z; omega), if_neg (by decide), x_sgn hN (by omega), Option.bind_some, x_bg, Option.bind_some]
    by_cases hb : bg (sgn t N p)
    · have hlt : p < N := sgn_lt (fun z => by rw [z] at hb; exact absurd hb (by decide))
      obtain ⟨n, rfl⟩ : ∃ k, n = k + 1 := ⟨n - 1, by omega⟩
      obtain ⟨m, rfl⟩ : ∃ k, m = k + 1 := ⟨m - 1, by omega⟩
      rw [if_pos hb, if_neg (by decide), R19_on hN h6 hfr n m (Or.inl hlt) (fun h => by rw [h] at hb; exact absurd hb (by decide)) (fun h => by rw [h] at hb; exact absurd hb (by decide)), nI_s]
      have hab := act_both (K := K) (f := 999999) (n := n) (fr := fr) (c := c) (p := p) (yc := yc) (y1 := y1) (y2 := y2) (yo := yo) (op := op) (a := a) (b := b) (fk := fk) (fa := fa) (ac := ac) (fx := fx) (fl := fl) (lt := lt) hN hfr h4 h6 (by omega) (by omega) hK
      rcases hab with ⟨u, w, u1, u2, w1, w2, w3⟩ | ⟨c', p', n', m', yc', y1', y2', yo', op', a', b', fk', fa', ac', fx', fm', lt', x1, x2, x3, x4, x5, x6, x7, x8, x9, x10, x11, x12, x13⟩
      · rw [u1, Option.bind_some, u2]
        obtain ⟨fu, rfl⟩ : ∃ k, fu = k + 1 := ⟨fu - 1, by omega⟩
        rw [ral_0]
        exact Or.inl ⟨_, w, rfl, rfl, w1, w2, w3⟩
      · have x2' : MA FU n t (nI p) (nI N) fl (nI c) op a b fk fa (nI fr) ac lt = _ := x2
        rw [x1, Option.bind_some, x2']
        refine ih (k + 1) c' p' n' m' yc' y1' y2' yo' op' a' b' fk' fa' ac' fx' fm' lt' (by omega) (by omega) (by omega) x5 (by omega) x7 x8 x9 (fun i hi => ?_) (fun i hi1 hi2 => ?_) ?_ (fun i hi => ?_)
        · obtain ⟨g1, g2, g3, g4, g5, g6, g7⟩ := x10 i (by omega)
          obtain ⟨q1, q2, q3, q4, q5, q6, q7⟩ := h9 i hi
          exact ⟨g1.trans q1, g2.trans q2, g3.trans q3, g4.trans q4, g5.trans q5, g6.trans q6, g7.trans q7⟩
        · rcases Nat.lt_or_ge i c with z | z
          · exact GIt_mono (h10 i hi1 z) (Nat.le_refl _) (by omega) hi1 z (fun j hj1 hj2 => x10 j hj2)
          · exact GIt_mono (x11 i z hi2) (by omega) (Nat.le_refl _) z hi2 (fun j _ _ => ⟨rfl, rfl, rfl, rfl, rfl, rfl, rfl⟩)
        · rw [(x10 c0 h3).2.2.2.2.1]; exact h11
        · exact ⟨(x13 i hi).1.trans (h12 i hi).1, (x13 i hi).2.trans (h12 i hi).2⟩
    · rw [if_neg hb, if_pos rfl, if_pos (show zB 1 = true from rfl)]
      exact Or.inr ⟨c, p, n, m, yc, y1, y2, yo, op, a, b, fk, fa, ac, fx, fl, lt, rfl, rfl, hb, h3, h4, h5, h6, h7, h8, h9, h10, h11, h12⟩
theorem acts_CA (hN : N ≤ 120) : ∀ (d fr : Nat), fr ≤ 6 → 7 ≤ d + fr → CAt t N fr (f_X4_readActs d) := by
  intro d
  induction d with
  | zero => intro fr h1 h2; omega
  | succ d ih =>
    intro fr h1 h2 f n c p yc y1 y2 yo op a b fk fa ac fx fl lt hc hp hf hn
    obtain ⟨f, rfl⟩ : ∃ k, f = k + 1 := ⟨f - 1, by omega⟩
    have hK : fr < 6 → CAt t N (fr + 1) (f_X4_readActs d) := fun h => ih (fr + 1) (by omega) (by omega)
    show RA _ t N fr c p yc y1 y2 yo op a b fk fa (g_X4_readActs_0 (f_X4_readActs d) (nI fr) yc y1 y2 yo (nI c) ac t (nI p) (nI N) fx) _
    unfold g_X4_readActs_0
    have hab := act_both (K := f_X4_readActs d) (f := f) (n := n) (fr := fr) (c := c) (p := p) (yc := yc) (y1 := y1) (y2 := y2) (yo := yo) (op := op) (a := a) (b := b) (fk := fk) (fa := fa) (ac := ac) (fx := fx) (fl := fl) (lt := lt) hN h1 hc hp hf hn hK
    rcases hab with ⟨u, w, u1, u2, w1, w2, w3⟩ | ⟨c', p', n', m', yc', y1', y2', yo', op', a', b', fk', fa', ac', fx', fm', lt', x1, x2, x3, x4, x5, x6, x7, x8, x9, x10, x11, x12, x13⟩
    · rw [u1, Option.bind_some, u2]
      have := ral_0 (t := t) (K := f_X4_readActs d) 0 u.2.1 u.2.2.1 u.2.2.2.1 u.2.2.2.2.1 (nI fr) u.2.2.2.2.2.1 u.2.2.2.2.2.2.1 u.2.2.2.2.2.2.2.1 (nI N) u.2.2.2.2.2.2.2.2 999999
      have this' : g_X4_readActs_10 (f_X4_readActs d) FU (nI fr) 0 0 u.2.1 u.2.2.1 u.2.2.2.1 u.2.2.2.2.1 u.2.2.2.2.2.1 u.2.2.2.2.2.2.1 t u.2.2.2.2.2.2.2.1 (nI N) u.2.2.2.2.2.2.2.2 = _ := this
      rw [this']
      exact Or.inl ⟨_, w, rfl, rfl, w1, w2, w3⟩
    · rw [x1, Option.bind_some, x2]
      exact acts_loop hN h1 hK FU 0 c' p' n' m' yc' y1' y2' yo' op' a' b' fk' fa' ac' fx' fm' lt' (by unfold FU; omega) (by omega) x4 x5 x6 x7 x8 x9 x10 x11 x12 x13
end ACTSR
