/-! the class's go -/
/-- measures behind the sixth are 0: so six numbers tell a standing -/
def Z6 (m : Nat → Nat) : Prop := ∀ j, 6 ≤ j → m j = 0
theorem Z6_upd {m : Nat → Nat} (h : Z6 m) {k x : Nat} (hk : k < 6) : Z6 (updN m k x) := by
  intro j hj
  rw [updN_ne (by omega)]; exact h j hj
theorem Z6_act {B : Nat → Nat} {s : PH} (h : Z6 s.1) {o x y : Nat} (hx : x < 6) (hy : y < 6) : Z6 (aAct B o x y s).1 := by
  unfold aAct
  by_cases o0 : o = 0
  · rw [if_pos o0]; split
    · exact Z6_upd h hx
    · exact h
  · rw [if_neg o0]
    by_cases o1 : o = 1
    · rw [if_pos o1]; split
      · exact Z6_upd h hx
      · exact h
    · rw [if_neg o1]
      by_cases hxy : x = y
      · rw [if_pos hxy]; exact h
      · rw [if_neg hxy]; exact Z6_upd (Z6_upd h hx) hy
theorem Z6_rep {B : Nat → Nat} {o x y : Nat} (hx : x < 6) (hy : y < 6) : ∀ (t : Nat) (s : PH), Z6 s.1 → Z6 (aRep B o x y t s).1
  | 0, s, h => h
  | t + 1, s, h => Z6_rep hx hy t _ (Z6_act h hx hy)
theorem Z6_leaks {K : Nat → Nat} : ∀ (k : Nat) (s : (Nat → Nat) × Nat), k ≤ 6 → Z6 s.1 → Z6 (leaks K k s).1
  | 0, s, _, h => h
  | k + 1, s, hk, h => by
    apply Z6_leaks k _ (by omega)
    unfold leak1
    split
    · exact Z6_upd h (by omega)
    · exact h
theorem Z6_flows {K B : Nat → Nat} : ∀ (k : Nat) (m : Nat → Nat), k ≤ 6 → Z6 m → Z6 (flows K B k m)
  | 0, m, _, h => h
  | k + 1, m, hk, h => by
    apply Z6_flows k _ (by omega)
    unfold flow1
    split
    · exact Z6_upd (Z6_upd h (by omega)) (nxt_lt (by omega))
    · exact h
theorem Z6_kinds {K B : Nat → Nat} {s : PH} (h : Z6 s.1) : Z6 (kindsPH K B s).1 := Z6_flows 6 _ (by omega) (Z6_leaks 6 _ (by omega) h)
theorem Z6_step {n : Nat} {P : PG} {K B : Nat → Nat} (hw : PWf n P) {s : AS} (h : Z6 s.1.1) (hpl : s.2.2.1 < n) (hno : stopd n P s.2.2.1) (t : Nat) : Z6 (aStep n P K B t s).1.1 := by
  obtain ⟨w1, w2, w3, w4, w5⟩ := hw _ hpl
  unfold aStep
  by_cases h4 : (P s.2.2.1).1 = 4
  · rw [if_pos h4]; exact Z6_kinds h
  · by_cases h6 : (P s.2.2.1).1 = 6
    · rw [if_neg h4, if_pos h6]; exact Z6_kinds h
    · rw [if_neg h4, if_neg h6]
      have h5 : ¬ (P s.2.2.1).1 = 5 := fun h => hno ⟨hpl, h⟩
      exact Z6_kinds (Z6_rep (w2 (by omega)) (w3 (by omega)) t _ h)
theorem R6_inj {f g : Nat → Int32} {m m' : Nat → Nat} (h1 : R6 f m) (h2 : R6 g m') (z1 : Z6 m) (z2 : Z6 m') (b1 : ∀ j, j < 6 → m j < 1000) (b2 : ∀ j, j < 6 → m' j < 1000) (e : ∀ j, j < 6 → f j = g j) : m = m' := by
  funext j
  by_cases hj : j < 6
  · have := e j hj
    rw [h1 j hj, h2 j hj, nI_eq (by have := b1 j hj; omega) (by have := b2 j hj; omega)] at this
    exact this
  · rw [z1 j (by omega), z2 j (by omega)]
theorem at_mark (f g : Nat → Int32) : ∀ (fu i : Nat), i ≤ 6 → 7 ≤ fu + i → ((∀ j, i ≤ j → j < 6 → f j = g j) → g_X0_isAtMark_2 fu (nI i) f g = some 1) ∧ ((¬ ∀ j, i ≤ j → j < 6 → f j = g j) → g_X0_isAtMark_2 fu (nI i) f g = some 0) := by
  intro fu
  induction fu with
  | zero => intro i h1 h2; omega
  | succ fu ih =>
    intro i h1 h2
    rcases Nat.lt_or_ge i 6 with hi | hi
    · have e : g_X0_isAtMark_2 (fu + 1) (nI i) f g = (if f i = g i then g_X0_isAtMark_2 fu (nI (i + 1)) f g else some 0) := by
        simp only [g_X0_isAtMark_2]
        rw [if_neg (c6_le hi), if_pos (vin_nI hi (by omega)), nc i (by omega), nI_s]
      rw [e]
      obtain ⟨q1, q2⟩ := ih (i + 1) (by omega) (by omega)
      by_cases h : f i = g i
      · rw [if_pos h]
        refine ⟨fun hh => q1 (fun j hj hj6 => hh j (by omega) hj6), fun hh => q2 (fun hj => hh (fun j hj1 hj6 => ?_))⟩
        rcases Nat.lt_or_ge i j with q | q
        · exact hj j q hj6
        · rw [show j = i by omega]; exact h
      · rw [if_neg h]
        exact ⟨fun hh => absurd (hh i (Nat.le_refl i) hi) h, fun _ => rfl⟩
    · have hi6 : i = 6 := by omega
      subst hi6
      have e : g_X0_isAtMark_2 (fu + 1) (nI 6) f g = some 1 := by
        simp only [g_X0_isAtMark_2]
        rw [if_pos c6_ge]
      exact ⟨fun _ => e, fun hh => absurd (fun j h3 h4 => absurd h4 (by omega)) hh⟩
