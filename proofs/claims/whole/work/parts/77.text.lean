/-! texts: signs and faults of both -/
def sgn (t : Nat → Int32) (N p : Nat) : Int32 := if N ≤ p then -1 else t p &&& 255
def ft (k : Int32) (p : Nat) : Int32 := (-1000) * k - nI p
abbrev bg (s : Int32) : Prop := s = 100 ∨ s = 116 ∨ s = 112 ∨ s = 104 ∨ s = 119 ∨ s = 105 ∨ s = 107
section SIGN
variable {t : Nat → Int32} {N p : Nat}
theorem x_sgn (hN : N ≤ 120) (hp : p ≤ 1000) : f_X9_sign t (nI p) (nI N) = some (sgn t N p) := by
  unfold f_X9_sign g_X9_sign_0 sgn
  rw [ite_le (by omega) (by omega)]
  by_cases h : N ≤ p
  · rw [if_pos h, if_pos h]
  · rw [if_neg h, if_neg h, if_neg (show ¬ (160 : Int32) ≤ nI p from fun z => by have := (nI_leI (a := 160) (by omega) (by omega)).mp z; omega), if_pos (vin_nI (by omega) (by omega)), nc p (by omega)]
theorem m_sgn (hN : N ≤ 120) (hp : p ≤ 1000) : f_X12_here t (nI p) (nI N) = some (sgn t N p) := by
  unfold f_X12_here g_X12_here_0 sgn
  rw [ite_le (by omega) (by omega)]
  by_cases h : N ≤ p
  · rw [if_pos h, if_pos h]
  · rw [if_neg h, if_neg h, if_pos (vin_nI (by omega) (by omega)), nc p (by omega)]
theorem sgn_lt (h : ¬ sgn t N p = -1) : p < N := by
  unfold sgn at h
  rcases Nat.lt_or_ge p N with z | z
  · exact z
  · rw [if_pos z] at h; exact absurd rfl h
theorem x_bg (s : Int32) : f_X4_beginsAct s = some (if bg s then 1 else 0) := by
  unfold f_X4_beginsAct g_X4_beginsAct_0
  by_cases h1 : s = 100
  · rw [if_pos h1, if_pos (Or.inl h1)]
  by_cases h2 : s = 116
  · rw [if_neg h1, if_pos h2, if_pos (Or.inr (Or.inl h2))]
  by_cases h3 : s = 112
  · rw [if_neg h1, if_neg h2, if_pos h3, if_pos (Or.inr (Or.inr (Or.inl h3)))]
  by_cases h4 : s = 104
  · rw [if_neg h1, if_neg h2, if_neg h3, if_pos h4, if_pos (Or.inr (Or.inr (Or.inr (Or.inl h4))))]
  by_cases h5 : s = 119
  · rw [if_neg h1, if_neg h2, if_neg h3, if_neg h4, if_pos h5, if_pos (Or.inr (Or.inr (Or.inr (Or.inr (Or.inl h5)))))]
  by_cases h6 : s = 105
  · rw [if_neg h1, if_neg h2, if_neg h3, if_neg h4, if_neg h5, if_pos h6, if_pos (Or.inr (Or.inr (Or.inr (Or.inr (Or.inr (Or.inl h6))))))]
  by_cases h7 : s = 107
  · rw [if_neg h1, if_neg h2, if_neg h3, if_neg h4, if_neg h5, if_neg h6, if_pos h7, if_pos (Or.inr (Or.inr (Or.inr (Or.inr (Or.inr (Or.inr h7))))))]
  · rw [if_neg h1, if_neg h2, if_neg h3, if_neg h4, if_neg h5, if_neg h6, if_neg h7, if_neg (fun h => by
      rcases h with h | h | h | h | h | h | h
      · exact h1 h
      · exact h2 h
      · exact h3 h
      · exact h4 h
      · exact h5 h
      · exact h6 h
      · exact h7 h)]
/-- a vat's letter, both sides -/
theorem vat_both (hN : N ≤ 120) (hp : p ≤ 1000) (fl fl' lt : Int32) : (∃ v, v < 6 ∧ p < N ∧ f_X4_readVat t (nI p) (nI N) fl = some (nI v, nI (p + 1), fl) ∧ f_X12_takesVat t (nI p) (nI N) fl' lt = some (1, nI (p + 1), fl', nI v)) ∨ (f_X4_readVat t (nI p) (nI N) fl = some (-1, nI p, ft 1 p) ∧ ∃ l, f_X12_takesVat t (nI p) (nI N) fl' lt = some (0, nI p, ft 1 p, l)) := by
  unfold f_X4_readVat g_X4_readVat_0 f_X12_takesVat g_X12_takesVat_0
  rw [x_sgn hN hp, m_sgn hN hp, Option.bind_some, Option.bind_some, w_in, m_isVat, Option.bind_some, Option.bind_some]
  by_cases h : (0 : Int32) ≤ sgn t N p - 97 ∧ sgn t N p - 97 ≤ 5
  · left
    obtain ⟨v, hv, e⟩ := of_rng (x := sgn t N p - 97) (n := 5) (by omega) h.1 h.2
    have hlt : p < N := sgn_lt (fun z => by
      rw [z] at h
      exact absurd h.1 (by decide))
    refine ⟨v, by omega, hlt, ?_, ?_⟩
    · rw [if_pos h, if_neg (by decide), e]
      show some (nI v, nI p + 1, fl) = _
      rw [nI_p]
    · rw [if_pos h, if_neg (by decide), e, nI_p]
  · right
    refine ⟨?_, sgn t N p - 97, ?_⟩
    · rw [if_neg h, if_pos rfl]; rfl
    · rw [if_neg h, if_pos rfl]; rfl
end SIGN
/-- what the reference does from where an act is awaited -/
def MA (f n : Nat) (t : Nat → Int32) (p N fl c : Int32) (op a b fk fa : Nat → Int32) (fr ac lt : Int32) : Option (Int32 × Int32 × Int32 × Int32 × (Nat → Int32) × (Nat → Int32) × (Nat → Int32) × (Nat → Int32) × (Nat → Int32) × Int32 × Int32 × Int32) := (g_X12_readsAct_0 f t p N fl c op a b fk fa fr ac lt).bind (fun u1 => (if u1.1 = 0 then some (0, u1.2.1, u1.2.2.1, u1.2.2.2.1, u1.2.2.2.2.1, u1.2.2.2.2.2.1, u1.2.2.2.2.2.2.1, u1.2.2.2.2.2.2.2.1, u1.2.2.2.2.2.2.2.2.1, u1.2.2.2.2.2.2.2.2.2.1, u1.2.2.2.2.2.2.2.2.2.2.1, u1.2.2.2.2.2.2.2.2.2.2.2) else g_X12_readsRecipe_19 (g_X12_readsRecipe_10 n) FU t u1.2.1 N u1.2.2.1 u1.2.2.2.1 u1.2.2.2.2.1 u1.2.2.2.2.2.1 u1.2.2.2.2.2.2.1 u1.2.2.2.2.2.2.2.1 u1.2.2.2.2.2.2.2.2.1 u1.2.2.2.2.2.2.2.2.2.1 u1.2.2.2.2.2.2.2.2.2.2.1 u1.2.2.2.2.2.2.2.2.2.2.2))
theorem MA_10 (n : Nat) (t : Nat → Int32) (p N fl c : Int32) (op a b fk fa : Nat → Int32) (fr ac lt : Int32) : g_X12_readsRecipe_10 (n + 1) t p N fl c op a b fk fa fr ac lt = MA FU n t p N fl c op a b fk fa fr ac lt := rfl
section STUCK
variable {t : Nat → Int32} {N p c fr : Nat} {fl ac lt : Int32} {op a b fk fa : Nat → Int32}
theorem MA_wrong (hN : N ≤ 120) (hp : p ≤ 1000) (hb : ¬ bg (sgn t N p)) (f n : Nat) : ∃ w, MA (f + 1) n t (nI p) (nI N) fl (nI c) op a b fk fa (nI fr) ac lt = some w ∧ w.1 = 0 ∧ w.2.2.1 = ft 1 p := by
  unfold MA
  have h1 : ¬ sgn t N p = 100 := fun h => hb (Or.inl h)
  have h2 : ¬ sgn t N p = 116 := fun h => hb (Or.inr (Or.inl h))
  have h3 : ¬ sgn t N p = 112 := fun h => hb (Or.inr (Or.inr (Or.inl h)))
  have h4 : ¬ sgn t N p = 104 := fun h => hb (Or.inr (Or.inr (Or.inr (Or.inl h))))
  have h5 : ¬ sgn t N p = 119 := fun h => hb (Or.inr (Or.inr (Or.inr (Or.inr (Or.inl h)))))
  have h6 : ¬ sgn t N p = 105 := fun h => hb (Or.inr (Or.inr (Or.inr (Or.inr (Or.inr (Or.inl h))))))
  have h7 : ¬ sgn t N p = 107 := fun h => hb (Or.inr (Or.inr (Or.inr (Or.inr (Or.inr (Or.inr h))))))
  simp only [g_X12_readsAct_0, m_sgn hN hp, Option.bind_some, if_neg h1, if_neg h2, if_neg h3, if_neg h4, if_neg h5, if_neg h6, if_neg h7]
  exact ⟨_, rfl, rfl, rfl⟩
theorem m_frameN (hfr : fr ≤ 6) : f_X12_frameNow fk (nI fr) = some (if fr = 0 then 0 else fk (fr - 1)) := by
  unfold f_X12_frameNow g_X12_frameNow_0
  by_cases h : fr = 0
  · subst h; rw [if_pos (show nI 0 = 0 from rfl), if_pos rfl]
  · rw [if_neg (show ¬ nI fr = 0 from fun z => h ((nI_eq (b := 0) (by omega) (by omega)).mp z)), if_neg h, show nI fr - 1 = nI (fr - 1) from nI_m (by omega), if_pos (vin_nI (by omega) (by omega)), nc _ (by omega)]
/-- behind an act: on to the next one -/
theorem R53_on (hN : N ≤ 120) (hp : p ≤ N) (hfr : fr ≤ 6) (n : Nat) (h0 : p < N ∨ 0 < fr) (h58 : sgn t N p = 58 → ¬ (if fr = 0 then 0 else fk (fr - 1)) = 105) : g_X12_readsRecipe_53 (g_X12_readsRecipe_10 (n + 1)) t (nI p) (nI N) fl (nI c) op a b fk fa (nI fr) ac lt = MA FU n t (nI p) (nI N) fl (nI c) op a b fk fa (nI fr) ac lt := by
  have e73 : g_X12_readsRecipe_73 (g_X12_readsRecipe_10 (n + 1)) t (nI p) (nI N) fl (nI c) op a b fk fa (nI fr) ac lt = MA FU n t (nI p) (nI N) fl (nI c) op a b fk fa (nI fr) ac lt := by
    unfold g_X12_readsRecipe_73
    rw [m_sgn hN (by omega), Option.bind_some]
    by_cases h : sgn t N p = 58
    · rw [if_pos h, m_frameN hfr, Option.bind_some, if_neg (h58 h), MA_10]
    · rw [if_neg h, MA_10]
  unfold g_X12_readsRecipe_53
  rw [e73]
  by_cases h : nI p = nI N
  · have hpN := (nI_eq (by omega) (by omega)).mp h
    rw [if_pos h, if_neg (show ¬ nI fr = 0 from fun z => by have := (nI_eq (b := 0) (by omega) (by omega)).mp z; omega)]
  · rw [if_neg h]
theorem R19_on (hN : N ≤ 120) (hp : p ≤ N) (hfr : fr ≤ 6) (n m : Nat) (h0 : p < N ∨ 0 < fr) (h41 : sgn t N p = 41 → ¬ (if fr = 0 then 0 else fk (fr - 1)) = 119 ∧ ¬ (if fr = 0 then 0 else fk (fr - 1)) = 58) (h58 : sgn t N p = 58 → ¬ (if fr = 0 then 0 else fk (fr - 1)) = 105) : g_X12_readsRecipe_19 (g_X12_readsRecipe_10 (n + 1)) (m + 1) t (nI p) (nI N) fl (nI c) op a b fk fa (nI fr) ac lt = MA FU n t (nI p) (nI N) fl (nI c) op a b fk fa (nI fr) ac lt := by
  simp only [g_X12_readsRecipe_19]
  rw [m_sgn hN (by omega), Option.bind_some]
  by_cases h : sgn t N p = 41
  · obtain ⟨k1, k2⟩ := h41 h
    rw [if_pos h, m_frameN hfr, Option.bind_some, if_neg k1, Option.bind_some, if_neg k2]
    exact R53_on hN hp hfr n h0 h58
  · rw [if_neg h]
    exact R53_on hN hp hfr n h0 h58
end STUCK
/-- an item that both hold alike, with its leaps within lo and hi -/
def GIt (lo hi i : Nat) (yc y1 y2 yo op a b : Nat → Int32) : Prop := ∃ o x y : Nat, op i = nI o ∧ a i = nI x ∧ b i = nI y ∧ yc i = nI (xop o) ∧ o ≤ 6 ∧ y ≤ 120 ∧ (o ≤ 4 → x < 6 ∧ y1 i = nI x) ∧ (o ≤ 3 → y < 6 ∧ y2 i = nI y) ∧ (o = 4 → y ≤ hi ∧ yo i = nI y) ∧ (o = 5 → yo i = nI y ∧ ((lo ≤ y ∧ y < hi ∧ op y = nI 4) ∨ (i < y ∧ y ≤ hi)))
theorem GIt_mono {lo hi lo' hi' i : Nat} {yc y1 y2 yo op a b yc' y1' y2' yo' op' a' b' : Nat → Int32} (h : GIt lo hi i yc y1 y2 yo op a b) (hlo : lo' ≤ lo) (hhi : hi ≤ hi') (hi1 : lo ≤ i) (hi2 : i < hi) (hs : ∀ j, lo ≤ j → j < hi → yc' j = yc j ∧ y1' j = y1 j ∧ y2' j = y2 j ∧ yo' j = yo j ∧ op' j = op j ∧ a' j = a j ∧ b' j = b j) : GIt lo' hi' i yc' y1' y2' yo' op' a' b' := by
  obtain ⟨o, x, y, q1, q2, q3, q4, q5, q6, q7, q8, q9, q10⟩ := h
  obtain ⟨s1, s2, s3, s4, s5, s6, s7⟩ := hs i hi1 hi2
  refine ⟨o, x, y, s5.trans q1, s6.trans q2, s7.trans q3, s1.trans q4, q5, q6, fun h => ⟨(q7 h).1, s2.trans (q7 h).2⟩, fun h => ⟨(q8 h).1, s3.trans (q8 h).2⟩, fun h => ⟨by have := (q9 h).1; omega, s4.trans (q9 h).2⟩, fun h => ⟨s4.trans (q10 h).1, ?_⟩⟩
  rcases (q10 h).2 with ⟨z1, z2, z3⟩ | ⟨z1, z2⟩
  · exact Or.inl ⟨by omega, by omega, (hs y z1 z2).2.2.2.2.1.trans z3⟩
  · exact Or.inr ⟨z1, by omega⟩
/-- both read on, or both find the same fault; q: what must hold of the next sign -/
def RA (q : Int32 → Prop) (t : Nat → Int32) (N fr c p : Nat) (yc y1 y2 yo op a b fk fa : Nat → Int32) (X : Option (Int32 × (Nat → Int32) × (Nat → Int32) × (Nat → Int32) × (Nat → Int32) × Int32 × Int32 × Int32 × Int32)) (M : Option (Int32 × Int32 × Int32 × Int32 × (Nat → Int32) × (Nat → Int32) × (Nat → Int32) × (Nat → Int32) × (Nat → Int32) × Int32 × Int32 × Int32)) : Prop :=
  (∃ u w, X = some u ∧ u.1 = 0 ∧ M = some w ∧ w.1 = 0 ∧ u.2.2.2.2.2.2.2.2 = w.2.2.1) ∨
  (∃ (c' p' n' m' : Nat) (yc' y1' y2' yo' op' a' b' fk' fa' : Nat → Int32) (ac' fx' fm' lt' : Int32), X = some (1, yc', y1', y2', yo', nI c', ac', nI p', fx') ∧ M = g_X12_readsRecipe_19 (g_X12_readsRecipe_10 n') m' t (nI p') (nI N) fm' (nI c') op' a' b' fk' fa' (nI fr) ac' lt' ∧ q (sgn t N p') ∧ c < c' ∧ c' ≤ p' ∧ p < p' ∧ p' ≤ N ∧ N - p' + 2 < n' ∧ fr < m' ∧ (∀ i, i < c → yc' i = yc i ∧ y1' i = y1 i ∧ y2' i = y2 i ∧ yo' i = yo i ∧ op' i = op i ∧ a' i = a i ∧ b' i = b i) ∧ (∀ i, c ≤ i → i < c' → GIt c c' i yc' y1' y2' yo' op' a' b') ∧ ¬ op' c = 5 ∧ (∀ i, i < fr → fk' i = fk i ∧ fa' i = fa i))
section ADD
variable {c : Nat} {yc y1 y2 op a b : Nat → Int32}
theorem xr_add (hc : c < 120) {o : Int32} (ho : ¬ o = 6) (x y ac : Int32) : f_X4_add o x y yc y1 y2 (nI c) ac = some (nI c, upd yc c o, upd y1 c x, upd y2 c y, nI (c + 1), ac + 1) := by
  unfold f_X4_add g_X4_add_0
  rw [if_neg (show ¬ (120 : Int32) ≤ nI c from fun z => by have := (nI_leI (a := 120) (by omega) (by omega)).mp z; omega), if_pos (vin_nI hc (by omega)), nc c (by omega), if_neg ho, nI_p]
theorem xr_add6 (hc : c < 120) (x y ac : Int32) : f_X4_add 6 x y yc y1 y2 (nI c) ac = some (nI c, upd yc c 6, upd y1 c x, upd y2 c y, nI (c + 1), ac) := by
  unfold f_X4_add g_X4_add_0
  rw [if_neg (show ¬ (120 : Int32) ≤ nI c from fun z => by have := (nI_leI (a := 120) (by omega) (by omega)).mp z; omega), if_pos (vin_nI hc (by omega)), nc c (by omega), if_pos rfl, nI_p]
theorem m_puts (hc : c < 160) (o x y : Int32) : f_X12_puts o x y (nI c) op a b = some (nI (c + 1), upd op c o, upd a c x, upd b c y) := by
  unfold f_X12_puts g_X12_puts_0
  rw [if_pos (vin_nI hc (by omega)), nc c (by omega), nI_p]
theorem x_lead {i : Nat} (hi : i < 120) (v : Int32) (yo : Nat → Int32) : f_X4_lead (nI i) v yo = some (upd yo i v) := by
  unfold f_X4_lead g_X4_lead_0
  rw [w_nI (a := 0) (b := 119) (aa := 0) (bb := 119) (by omega) (by omega) (by omega) rfl rfl, if_pos (by omega), Option.bind_some, if_neg (by decide), if_pos (vin_nI hi (by omega)), nc i (by omega)]
theorem x_pass {t : Nat → Int32} {N p : Nat} (hN : N ≤ 120) (hp : p ≤ 1000) (s fl : Int32) : f_X9_pass s t (nI p) (nI N) fl = if sgn t N p = s then some (1, nI (p + 1), fl) else some (0, nI p, ft 1 p) := by
  unfold f_X9_pass g_X9_pass_0
  rw [x_sgn hN hp, Option.bind_some, nI_p]
  rfl
end ADD
