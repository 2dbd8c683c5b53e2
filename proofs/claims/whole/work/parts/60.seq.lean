/-! rows that come back -/
section SEQ
variable {α : Type} {y : Nat → α}
theorem per_1 (D : ∀ i j, y i = y j → ∀ k, y (i + k) = y (j + k)) {p L : Nat} (h : y (p + L) = y p) {i : Nat} (hi : p ≤ i) : y (i + L) = y i := by
  have := D _ _ h (i - p)
  rw [show p + L + (i - p) = i + L by omega, show p + (i - p) = i by omega] at this
  exact this
theorem per_u (D : ∀ i j, y i = y j → ∀ k, y (i + k) = y (j + k)) {p L : Nat} (h : y (p + L) = y p) : ∀ (u i : Nat), p ≤ i → y (i + u * L) = y i
  | 0, i, _ => by rw [Nat.zero_mul, Nat.add_zero]
  | u + 1, i, hi => by
    rw [Nat.succ_mul, ← Nat.add_assoc, per_1 D h (show p ≤ i + u * L by omega)]
    exact per_u D h u i hi
/-- the least round is one and the same, wherever it is looked for -/
theorem per_min (D : ∀ i j, y i = y j → ∀ k, y (i + k) = y (j + k)) {p L q M : Nat} (hL : 0 < L) (hM : 0 < M) (h1 : y (p + L) = y p) (h2 : ∀ l, 0 < l → l < L → ¬ y (p + l) = y p) (h3 : y (q + M) = y q) (h4 : ∀ l, 0 < l → l < M → ¬ y (q + M - l) = y (q + M)) : L = M := by
  have a1 : ¬ M < L := by
    intro hlt
    have hc : q ≤ p + q * L := by
      have : q * 1 ≤ q * L := Nat.mul_le_mul_left q hL
      omega
    have e1 := per_1 D h3 hc
    have e2 := per_u D h1 q p (Nat.le_refl _)
    have e3 := per_u D h1 q (p + M) (by omega)
    rw [show p + M + q * L = p + q * L + M by omega, e1, e2] at e3
    exact h2 M hM hlt e3.symm
  have a2 : ¬ L < M := by
    intro hlt
    have hc : p ≤ q + p * M := by
      have : p * 1 ≤ p * M := Nat.mul_le_mul_left p hM
      omega
    have e1 := per_1 D h1 hc
    have e2 := per_u D h3 p q (Nat.le_refl _)
    have e3 := per_u D h3 p (q + L) (by omega)
    rw [show q + L + p * M = q + p * M + L by omega, e1, e2] at e3
    have e4 := D _ _ e3.symm (M - L)
    rw [show q + L + (M - L) = q + M by omega, show q + (M - L) = q + M - L by omega] at e4
    exact h4 L hL hlt e4.symm
  omega
end SEQ
/-! standings: place, end, measures -/
def keyA (s : AS) : (Nat × Nat) × (Nat → Nat) := (s.2.2, s.1.1)
section KEY
variable {n : Nat} {P : PG} {K B : Nat → Nat} {s0 : AS}
theorem key_D (hc : s0.1.2.2.2 < 1009) : ∀ i j, keyA (it n P K B i s0) = keyA (it n P K B j s0) → ∀ k, keyA (it n P K B (i + k) s0) = keyA (it n P K B (j + k) s0) := by
  intro i j h k
  have h1 : (it n P K B i s0).2.2 = (it n P K B j s0).2.2 := congrArg Prod.fst h
  have h2 : (it n P K B i s0).1.1 = (it n P K B j s0).1.1 := congrArg Prod.snd h
  obtain ⟨q1, q2⟩ := it_same (n := n) (P := P) (K := K) (B := B) h2 h1 (it_co hc i) (it_co hc j) k
  rw [it_add, it_add]
  show ((it n P K B k (it n P K B i s0)).2.2, (it n P K B k (it n P K B i s0)).1.1) = ((it n P K B k (it n P K B j s0)).2.2, (it n P K B k (it n P K B j s0)).1.1)
  rw [q1, q2]
/-- equal places and measures of living standings are equal standings -/
theorem key_eq {s s' : AS} (h : GS n P B s) (h' : GS n P B s') (hl : s.2.2.1 < n) (hp : s.2.2.1 = s'.2.2.1) (hm : s.1.1 = s'.1.1) : keyA s = keyA s' := by
  have e1 := GS_en h hl
  have e2 := GS_en h' (by omega)
  show (s.2.2, s.1.1) = (s'.2.2, s'.1.1)
  rw [hm, show s.2.2 = s'.2.2 from Prod.ext hp (e1.trans e2.symm)]
theorem key_place {s s' : AS} (h : keyA s = keyA s') : s.2.2.1 = s'.2.2.1 := congrArg (fun x : (Nat × Nat) × (Nat → Nat) => x.1.1) h
/-- what comes back goes on for ever -/
theorem key_alive (hc : s0.1.2.2.2 < 1009) {p L : Nat} (hL : 0 < L) (h : keyA (it n P K B (p + L) s0) = keyA (it n P K B p s0)) (ha : ∀ i, i < p + L → (it n P K B i s0).2.2.1 < n) : ∀ i, (it n P K B i s0).2.2.1 < n := by
  intro i
  rcases Nat.lt_or_ge i p with hi | hi
  · exact ha i (by omega)
  · have e : i = (p + (i - p) % L) + (i - p) / L * L := by
      have := Nat.div_add_mod (i - p) L
      rw [Nat.mul_comm] at this
      omega
    have hm := Nat.mod_lt (i - p) hL
    have := per_u (y := fun i => keyA (it n P K B i s0)) (key_D hc) h ((i - p) / L) (p + (i - p) % L) (by omega)
    rw [e]
    rw [key_place this]
    exact ha _ (by omega)
end KEY
/-! the class's looks at standings -/
section RINGX
variable {n : Nat} {P : PG} {kf b ms c fi se nx ot : Nat → Int32} {rs : Int32} {s0 : AS}
theorem GS_99 {K B : Nat → Nat} {s : AS} (h : GS n P B s) : ∀ j, j < 6 → s.1.1 j < 1000 := by
  intro j hj
  have := h.1.1 j hj
  omega
theorem x_stands (hn : n ≤ 120) {B : Nat → Nat} {s s' : AS} (h : GS n P B s) (h' : GS n P B s') {f g : Nat → Int32} (hf : R6 f s.1.1) (hg : R6 g s'.1.1) : ((s.2.2.1 = s'.2.2.1 ∧ s.1.1 = s'.1.1) → f_X0_standsWith f (nI s.2.2.1) g (nI s'.2.2.1) = some 1) ∧ (¬ (s.2.2.1 = s'.2.2.1 ∧ s.1.1 = s'.1.1) → f_X0_standsWith f (nI s.2.2.1) g (nI s'.2.2.1) = some 0) := by
  have p1 := h.2.2.2.1
  have p2 := h'.2.2.2.1
  obtain ⟨m1, m2⟩ := has_measF f g
  unfold f_X0_standsWith g_X0_standsWith_0
  rw [ite_eq (by omega) (by omega)]
  refine ⟨fun hh => ?_, fun hh => ?_⟩
  · rw [if_pos hh.1, m1 (fun j hj => by rw [hf j hj, hg j hj, hh.2]), Option.bind_some, if_neg (by decide)]
  · by_cases hp : s.2.2.1 = s'.2.2.1
    · rw [if_pos hp, m2 (fun q => hh ⟨hp, R6_inj hf hg h.2.1 h'.2.1 (GS_99 (K := B) h) (GS_99 (K := B) h') q⟩), Option.bind_some, if_pos rfl]
    · rw [if_neg hp]
end RINGX
