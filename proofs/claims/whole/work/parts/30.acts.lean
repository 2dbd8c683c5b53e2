/-! the runs: an abstract machine over plain numbers, and how the class's and the reference's acts do it -/
def R6 (f : Nat → Int32) (m : Nat → Nat) : Prop := ∀ j, j < 6 → f j = nI (m j)
def updN (m : Nat → Nat) (k x : Nat) : Nat → Nat := fun j => if j = k then x else m j
theorem updN_same (m : Nat → Nat) (k x : Nat) : updN m k x k = x := if_pos rfl
theorem updN_ne {m : Nat → Nat} {k j x : Nat} (h : j ≠ k) : updN m k x j = m j := if_neg h
theorem R6_upd {f : Nat → Int32} {m : Nat → Nat} (h : R6 f m) (k x : Nat) : R6 (upd f k (nI x)) (updN m k x) := by
  intro j hj
  by_cases hk : j = k
  · subst hk; rw [upd_same, updN_same]
  · rw [upd_ne hk, updN_ne hk]; exact h j hj
/-- measures within brims of at most 99 -/
def MB (B m : Nat → Nat) : Prop := ∀ j, j < 6 → m j ≤ B j ∧ B j ≤ 99
theorem MB_upd {B m : Nat → Nat} (h : MB B m) {k x : Nat} (hx : x ≤ B k) : MB B (updN m k x) := by
  intro j hj
  by_cases hk : j = k
  · subst hk; rw [updN_same]; exact ⟨hx, (h j hj).2⟩
  · rw [updN_ne hk]; exact h j hj
abbrev PH : Type := (Nat → Nat) × Nat × Nat × Nat
def aAct (B : Nat → Nat) (o x y : Nat) (s : PH) : PH :=
  if o = 0 then (if s.1 x < B x then (updN s.1 x (s.1 x + 1), s.2) else (s.1, s.2.1 + 1, s.2.2))
  else if o = 1 then (if 0 < s.1 x then (updN s.1 x (s.1 x - 1), s.2.1, s.2.2.1 + 1, (7 * s.2.2.2 + x + 1) % 1009) else s)
  else if x = y then s
  else (updN (updN s.1 x (s.1 x - min (if o = 2 then s.1 x else s.1 x / 2) (B y - s.1 y))) y (s.1 y + min (if o = 2 then s.1 x else s.1 x / 2) (B y - s.1 y)), s.2)
def PHb (B : Nat → Nat) (s : PH) : Prop := MB B s.1 ∧ 0 ≤ s.2.1 ∧ 0 ≤ s.2.2.1 ∧ s.2.2.2 < 1009
theorem ite_le {α : Type} {a b : Nat} (ha : a < 2 ^ 31) (hb : b < 2 ^ 31) {p q : α} [inst : Decidable (nI a ≤ nI b)] : (if nI a ≤ nI b then p else q) = (if a ≤ b then p else q) := by
  by_cases h : a ≤ b
  · rw [if_pos ((nI_leI ha hb).mpr h), if_pos h]
  · rw [if_neg (fun x => h ((nI_leI ha hb).mp x)), if_neg h]
theorem ite_lt {α : Type} {a b : Nat} (ha : a < 2 ^ 31) (hb : b < 2 ^ 31) {p q : α} [inst : Decidable (nI a < nI b)] : (if nI a < nI b then p else q) = (if a < b then p else q) := by
  by_cases h : a < b
  · rw [if_pos ((nI_ltI ha hb).mpr h), if_pos h]
  · rw [if_neg (fun x => h ((nI_ltI ha hb).mp x)), if_neg h]
theorem ite_eq {α : Type} {a b : Nat} (ha : a < 2 ^ 31) (hb : b < 2 ^ 31) {p q : α} [inst : Decidable (nI a = nI b)] : (if nI a = nI b then p else q) = (if a = b then p else q) := by
  by_cases h : a = b
  · rw [if_pos ((nI_eq ha hb).mpr h), if_pos h]
  · rw [if_neg (fun x => h ((nI_eq ha hb).mp x)), if_neg h]
theorem nI_p (a : Nat) : nI a + 1 = nI (a + 1) := nI_1 a
theorem nI_m {a : Nat} (h : 0 < a) : nI a - 1 = nI (a - 1) := by
  rw [show (1 : Int32) = nI 1 from rfl, pk_sub (by omega)]
theorem x_dip {B : Nat → Nat} {b f : Nat → Int32} {m : Nat → Nat} (hb : R6 b B) (hf : R6 f m) (hm : MB B m) {x : Nat} (hx : x < 6) (sp : Nat) : f_X0_dip (nI x) f (nI sp) b = some ((if m x < B x then upd f x (nI (m x + 1)) else f), (if m x < B x then nI sp else nI (sp + 1))) := by
  obtain ⟨h1, h2⟩ := hm x hx
  unfold f_X0_dip g_X0_dip_0
  rw [if_pos (vin_nI hx (by omega)), nc x (by omega), hb x hx, hf x hx, ite_le (by omega) (by omega), nI_p, nI_p]
  by_cases h : m x < B x
  · rw [if_neg (by omega), if_pos h, if_pos h]
  · rw [if_pos (by omega), if_neg h, if_neg h]
theorem m_dip {B : Nat → Nat} {b f : Nat → Int32} {m : Nat → Nat} (hb : R6 b B) (hf : R6 f m) (hm : MB B m) {x : Nat} (hx : x < 6) (sp : Nat) : f_X12_dips (nI x) b f (nI sp) = some ((if m x < B x then upd f x (nI (m x + 1)) else f), (if m x < B x then nI sp else nI (sp + 1))) := by
  obtain ⟨h1, h2⟩ := hm x hx
  unfold f_X12_dips g_X12_dips_0
  rw [if_pos (vin_nI hx (by omega)), nc x (by omega), hb x hx, hf x hx, ite_eq (by omega) (by omega), nI_p, nI_p]
  by_cases h : m x < B x
  · rw [if_neg (by omega), if_pos h, if_pos h]
  · rw [if_pos (by omega), if_neg h, if_neg h]
theorem col32 {co x : Nat} (hc : co < 1009) (hx : x < 6) : (((7 * nI co) + nI x) + 1) - (((7 * nI co) + nI x) + 1) / 1009 * 1009 = nI ((7 * co + x + 1) % 1009) := by
  have e : ((7 * nI co) + nI x) + 1 = nI (7 * co + x + 1) := by rw [show (7 : Int32) = nI 7 from rfl, pk_mul, nI_add, nI_p]
  rw [e]
  exact rem32 (by omega) (d := 1009) (by omega) (by omega) 1009 rfl
theorem x_take {B : Nat → Nat} {f : Nat → Int32} {m : Nat → Nat} (hf : R6 f m) (hm : MB B m) {x cl co : Nat} (hx : x < 6) (hc : co < 1009) : f_X0_take (nI x) f (nI cl) (nI co) = some ((if 0 < m x then upd f x (nI (m x - 1)) else f), (if 0 < m x then nI (cl + 1) else nI cl), (if 0 < m x then nI ((7 * co + x + 1) % 1009) else nI co)) := by
  obtain ⟨h1, h2⟩ := hm x hx
  unfold f_X0_take g_X0_take_0
  rw [if_pos (vin_nI hx (by omega)), nc x (by omega), hf x hx, col32 hc hx, show (0 : Int32) = nI 0 from rfl, ite_le (by omega) (by omega), nI_p]
  by_cases h : 0 < m x
  · rw [if_neg (by omega), if_pos h, if_pos h, if_pos h, nI_m h]
  · rw [if_pos (by omega), if_neg h, if_neg h, if_neg h]
theorem m_take {B : Nat → Nat} {f : Nat → Int32} {m : Nat → Nat} (hf : R6 f m) (hm : MB B m) {x cl co : Nat} (hx : x < 6) (hc : co < 1009) : f_X12_takesOut (nI x) f (nI cl) (nI co) = some ((if 0 < m x then upd f x (nI (m x - 1)) else f), (if 0 < m x then nI (cl + 1) else nI cl), (if 0 < m x then nI ((7 * co + x + 1) % 1009) else nI co)) := by
  obtain ⟨h1, h2⟩ := hm x hx
  unfold f_X12_takesOut g_X12_takesOut_0
  rw [if_pos (vin_nI hx (by omega)), nc x (by omega), hf x hx, col32 hc hx, show (0 : Int32) = nI 0 from rfl, ite_eq (by omega) (by omega), nI_p]
  by_cases h : 0 < m x
  · rw [if_neg (by omega), if_pos h, if_pos h, if_pos h, nI_m h]
  · rw [if_pos (by omega), if_neg h, if_neg h, if_neg h]
/-- the new rows of a pouring -/
def pourF (f : Nat → Int32) (m : Nat → Nat) (x y p : Nat) : Nat → Int32 := upd (upd f x (nI (m x - p))) y (nI (m y + p))
theorem x_min (a b : Nat) (ha : a < 2 ^ 31) (hb : b < 2 ^ 31) : f_J9_min_7cf53 (nI a) (nI b) = some (nI (min a b)) := by
  unfold f_J9_min_7cf53 g_J9_min_7cf53_0
  rw [ite_lt hb ha]
  by_cases h : b < a
  · rw [if_pos h, Nat.min_eq_right (by omega)]
  · rw [if_neg h, Nat.min_eq_left (by omega)]
theorem m_min (a b : Nat) (ha : a < 2 ^ 31) (hb : b < 2 ^ 31) : f_X12_min (nI a) (nI b) = some (nI (min a b)) := by
  unfold f_X12_min g_X12_min_0
  rw [ite_le hb ha]
  by_cases h : b ≤ a
  · rw [if_pos h, Nat.min_eq_right h]
  · rw [if_neg h, Nat.min_eq_left (by omega)]
theorem x_pour {B : Nat → Nat} {b f : Nat → Int32} {m : Nat → Nat} (hb : R6 b B) (hf : R6 f m) (hm : MB B m) {x y a : Nat} (hx : x < 6) (hy : y < 6) (hxy : x ≠ y) (ha : a ≤ m x) (sp cl co : Int32) : g_X0_act_52 (nI x) (nI y) (nI a) f sp cl co b = some (pourF f m x y (min a (B y - m y)), sp, cl, co) := by
  obtain ⟨h1, h2⟩ := hm x hx
  obtain ⟨h3, h4⟩ := hm y hy
  unfold g_X0_act_52
  rw [if_pos (vin_nI hy (by omega)), nc y (by omega), hb y hy, hf y hy, pk_sub h3, x_min _ _ (by omega) (by omega), Option.bind_some, if_pos (vin_nI hx (by omega)), nc x (by omega), hf x hx, pk_sub (by omega), upd_ne (Ne.symm hxy), hf y hy, nI_add]
  rfl
theorem m_pour {B : Nat → Nat} {b f : Nat → Int32} {m : Nat → Nat} (hb : R6 b B) (hf : R6 f m) (hm : MB B m) {x y a : Nat} (hx : x < 6) (hy : y < 6) (hxy : x ≠ y) (ha : a ≤ m x) : f_X12_pours (nI x) (nI y) (nI a) b f = some (pourF f m x y (min a (B y - m y))) := by
  obtain ⟨h1, h2⟩ := hm x hx
  obtain ⟨h3, h4⟩ := hm y hy
  unfold f_X12_pours g_X12_pours_0
  rw [ite_eq (by omega) (by omega), if_neg hxy, if_pos (vin_nI hy (by omega)), nc y (by omega), hb y hy, hf y hy, pk_sub h3, m_min _ _ (by omega) (by omega), Option.bind_some, if_pos (vin_nI hx (by omega)), nc x (by omega), hf x hx, pk_sub (by omega), upd_ne (Ne.symm hxy), hf y hy, nI_add]
  rfl
theorem R6_pour {f : Nat → Int32} {m : Nat → Nat} (hf : R6 f m) (x y p : Nat) : R6 (pourF f m x y p) (updN (updN m x (m x - p)) y (m y + p)) := R6_upd (R6_upd hf _ _) _ _
theorem aAct0 (B : Nat → Nat) (x y : Nat) (s : PH) : aAct B 0 x y s = (if s.1 x < B x then (updN s.1 x (s.1 x + 1), s.2) else (s.1, s.2.1 + 1, s.2.2)) := if_pos rfl
theorem aAct1 (B : Nat → Nat) (x y : Nat) (s : PH) : aAct B 1 x y s = (if 0 < s.1 x then (updN s.1 x (s.1 x - 1), s.2.1, s.2.2.1 + 1, (7 * s.2.2.2 + x + 1) % 1009) else s) := by
  unfold aAct; rw [if_neg (by decide), if_pos rfl]
theorem aAct2 (B : Nat → Nat) (x y : Nat) (s : PH) : aAct B 2 x y s = (if x = y then s else (updN (updN s.1 x (s.1 x - min (s.1 x) (B y - s.1 y))) y (s.1 y + min (s.1 x) (B y - s.1 y)), s.2)) := by
  unfold aAct; rw [if_neg (by decide), if_neg (by decide), if_pos rfl]
theorem aAct3 (B : Nat → Nat) (x y : Nat) (s : PH) : aAct B 3 x y s = (if x = y then s else (updN (updN s.1 x (s.1 x - min (s.1 x / 2) (B y - s.1 y))) y (s.1 y + min (s.1 x / 2) (B y - s.1 y)), s.2)) := by
  unfold aAct; rw [if_neg (show ¬ 3 = 0 by decide), if_neg (show ¬ 3 = 1 by decide), if_neg (show ¬ 3 = 2 by decide)]
/-- an act of the class, as the abstract machine has it -/
theorem x_act {B : Nat → Nat} {b f : Nat → Int32} {s : PH} (hb : R6 b B) (hf : R6 f s.1) (hs : PHb B s) {o x y : Nat} (ho : o < 4) (hx : x < 6) (hy : y < 6) : ∃ f', f_X0_act (nI o) (nI x) (nI y) f (nI s.2.1) (nI s.2.2.1) (nI s.2.2.2) b = some (f', nI (aAct B o x y s).2.1, nI (aAct B o x y s).2.2.1, nI (aAct B o x y s).2.2.2) ∧ R6 f' (aAct B o x y s).1 := by
  obtain ⟨m, sp, cl, co⟩ := s
  obtain ⟨hm, h1, h2, h3⟩ := hs
  replace hm : MB B m := hm
  replace hf : R6 f m := hf
  replace h3 : co < 1009 := h3
  have hq := hm x hx
  rcases (show o = 0 ∨ o = 1 ∨ o = 2 ∨ o = 3 by omega) with rfl | rfl | rfl | rfl
  · rw [aAct0]
    by_cases h : m x < B x
    · simp only [if_pos h]
      refine ⟨upd f x (nI (m x + 1)), ?_, R6_upd hf _ _⟩
      unfold f_X0_act g_X0_act_0
      simp only [if_pos (show nI 0 = 0 from rfl), if_neg (show ¬ nI 0 = 1 by decide), if_neg (show ¬ nI 0 = 2 by decide), if_neg (show ¬ nI 0 = 3 by decide), x_dip hb hf hm hx, Option.bind_some, if_pos h]
    · simp only [if_neg h]
      refine ⟨f, ?_, hf⟩
      unfold f_X0_act g_X0_act_0
      simp only [if_pos (show nI 0 = 0 from rfl), if_neg (show ¬ nI 0 = 1 by decide), if_neg (show ¬ nI 0 = 2 by decide), if_neg (show ¬ nI 0 = 3 by decide), x_dip hb hf hm hx, Option.bind_some, if_neg h]
  · rw [aAct1]
    by_cases h : 0 < m x
    · simp only [if_pos h]
      refine ⟨upd f x (nI (m x - 1)), ?_, R6_upd hf _ _⟩
      unfold f_X0_act g_X0_act_0
      simp only [if_neg (show ¬ nI 1 = 0 by decide), if_pos (show nI 1 = 1 from rfl), if_neg (show ¬ nI 1 = 2 by decide), if_neg (show ¬ nI 1 = 3 by decide), x_take hf hm hx h3, Option.bind_some, if_pos h]
    · simp only [if_neg h]
      refine ⟨f, ?_, hf⟩
      unfold f_X0_act g_X0_act_0
      simp only [if_neg (show ¬ nI 1 = 0 by decide), if_pos (show nI 1 = 1 from rfl), if_neg (show ¬ nI 1 = 2 by decide), if_neg (show ¬ nI 1 = 3 by decide), x_take hf hm hx h3, Option.bind_some, if_neg h]
  · rw [aAct2]
    by_cases h : x = y
    · simp only [if_pos h]
      refine ⟨f, ?_, hf⟩
      unfold f_X0_act g_X0_act_0
      rw [if_neg (show ¬ nI 2 = 0 by decide), if_neg (show ¬ nI 2 = 1 by decide), if_pos (by rw [h])]
    · simp only [if_neg h]
      refine ⟨pourF f m x y (min (m x) (B y - m y)), ?_, R6_pour hf _ _ _⟩
      unfold f_X0_act g_X0_act_0
      rw [if_neg (show ¬ nI 2 = 0 by decide), if_neg (show ¬ nI 2 = 1 by decide), ite_eq (by omega) (by omega), if_neg h, if_pos (show nI 2 = 2 from rfl), if_pos (vin_nI hx (by omega)), nc x (by omega), hf x hx, x_pour hb hf hm hx hy h (Nat.le_refl _)]
  · rw [aAct3]
    by_cases h : x = y
    · simp only [if_pos h]
      refine ⟨f, ?_, hf⟩
      unfold f_X0_act g_X0_act_0
      rw [if_neg (show ¬ nI 3 = 0 by decide), if_neg (show ¬ nI 3 = 1 by decide), if_pos (by rw [h])]
    · simp only [if_neg h]
      refine ⟨pourF f m x y (min (m x / 2) (B y - m y)), ?_, R6_pour hf _ _ _⟩
      unfold f_X0_act g_X0_act_0
      rw [if_neg (show ¬ nI 3 = 0 by decide), if_neg (show ¬ nI 3 = 1 by decide), ite_eq (by omega) (by omega), if_neg h, if_neg (show ¬ nI 3 = 2 by decide), if_pos (vin_nI hx (by omega)), nc x (by omega), hf x hx, div32 (d := 2) (by omega) (by omega) (by omega) 2 rfl, x_pour hb hf hm hx hy h (by omega)]
theorem m_act {B : Nat → Nat} {b f : Nat → Int32} {s : PH} (hb : R6 b B) (hf : R6 f s.1) (hs : PHb B s) {o x y : Nat} (ho : o < 4) (hx : x < 6) (hy : y < 6) : ∃ f', f_X12_does (nI o) (nI x) (nI y) b f (nI s.2.1) (nI s.2.2.1) (nI s.2.2.2) = some (f', nI (aAct B o x y s).2.1, nI (aAct B o x y s).2.2.1, nI (aAct B o x y s).2.2.2) ∧ R6 f' (aAct B o x y s).1 := by
  obtain ⟨m, sp, cl, co⟩ := s
  obtain ⟨hm, h1, h2, h3⟩ := hs
  replace hm : MB B m := hm
  replace hf : R6 f m := hf
  replace h3 : co < 1009 := h3
  have hq := hm x hx
  rcases (show o = 0 ∨ o = 1 ∨ o = 2 ∨ o = 3 by omega) with rfl | rfl | rfl | rfl
  · rw [aAct0]
    by_cases h : m x < B x
    · simp only [if_pos h]
      refine ⟨upd f x (nI (m x + 1)), ?_, R6_upd hf _ _⟩
      unfold f_X12_does g_X12_does_0 g_X12_does_9 g_X12_does_19 g_X12_does_36
      simp only [if_pos (show nI 0 = 0 from rfl), if_neg (show ¬ nI 0 = 1 by decide), if_neg (show ¬ nI 0 = 2 by decide), if_neg (show ¬ nI 0 = 3 by decide), m_dip hb hf hm hx, Option.bind_some, if_pos h]
    · simp only [if_neg h]
      refine ⟨f, ?_, hf⟩
      unfold f_X12_does g_X12_does_0 g_X12_does_9 g_X12_does_19 g_X12_does_36
      simp only [if_pos (show nI 0 = 0 from rfl), if_neg (show ¬ nI 0 = 1 by decide), if_neg (show ¬ nI 0 = 2 by decide), if_neg (show ¬ nI 0 = 3 by decide), m_dip hb hf hm hx, Option.bind_some, if_neg h]
  · rw [aAct1]
    by_cases h : 0 < m x
    · simp only [if_pos h]
      refine ⟨upd f x (nI (m x - 1)), ?_, R6_upd hf _ _⟩
      unfold f_X12_does g_X12_does_0 g_X12_does_9 g_X12_does_19 g_X12_does_36
      simp only [if_neg (show ¬ nI 1 = 0 by decide), if_pos (show nI 1 = 1 from rfl), if_neg (show ¬ nI 1 = 2 by decide), if_neg (show ¬ nI 1 = 3 by decide), m_take hf hm hx h3, Option.bind_some, if_pos h]
    · simp only [if_neg h]
      refine ⟨f, ?_, hf⟩
      unfold f_X12_does g_X12_does_0 g_X12_does_9 g_X12_does_19 g_X12_does_36
      simp only [if_neg (show ¬ nI 1 = 0 by decide), if_pos (show nI 1 = 1 from rfl), if_neg (show ¬ nI 1 = 2 by decide), if_neg (show ¬ nI 1 = 3 by decide), m_take hf hm hx h3, Option.bind_some, if_neg h]
  · rw [aAct2]
    by_cases h : x = y
    · simp only [if_pos h]
      refine ⟨f, ?_, hf⟩
      have e : f_X12_pours (nI x) (nI y) (nI (m x)) b f = some f := by unfold f_X12_pours g_X12_pours_0; rw [if_pos (by rw [h])]
      unfold f_X12_does g_X12_does_0 g_X12_does_9 g_X12_does_19 g_X12_does_36
      simp only [if_neg (show ¬ nI 2 = 0 by decide), if_neg (show ¬ nI 2 = 1 by decide), if_pos (show nI 2 = 2 from rfl), if_neg (show ¬ nI 2 = 3 by decide), if_pos (vin_nI hx (show 6 < 2 ^ 31 by omega)), nc x (show x < 2 ^ 31 by omega), hf x hx, e, Option.bind_some]
    · simp only [if_neg h]
      refine ⟨pourF f m x y (min (m x) (B y - m y)), ?_, R6_pour hf _ _ _⟩
      unfold f_X12_does g_X12_does_0 g_X12_does_9 g_X12_does_19 g_X12_does_36
      simp only [if_neg (show ¬ nI 2 = 0 by decide), if_neg (show ¬ nI 2 = 1 by decide), if_pos (show nI 2 = 2 from rfl), if_neg (show ¬ nI 2 = 3 by decide), if_pos (vin_nI hx (show 6 < 2 ^ 31 by omega)), nc x (show x < 2 ^ 31 by omega), hf x hx, m_pour hb hf hm hx hy h (Nat.le_refl _), Option.bind_some]
  · rw [aAct3]
    have ed : nI (m x) / 2 = nI (m x / 2) := div32 (d := 2) (by omega) (by omega) (by omega) 2 rfl
    by_cases h : x = y
    · simp only [if_pos h]
      refine ⟨f, ?_, hf⟩
      have e : f_X12_pours (nI x) (nI y) (nI (m x / 2)) b f = some f := by unfold f_X12_pours g_X12_pours_0; rw [if_pos (by rw [h])]
      unfold f_X12_does g_X12_does_0 g_X12_does_9 g_X12_does_19 g_X12_does_36
      simp only [if_neg (show ¬ nI 3 = 0 by decide), if_neg (show ¬ nI 3 = 1 by decide), if_neg (show ¬ nI 3 = 2 by decide), if_pos (show nI 3 = 3 from rfl), if_pos (vin_nI hx (show 6 < 2 ^ 31 by omega)), nc x (show x < 2 ^ 31 by omega), hf x hx, ed, e, Option.bind_some]
    · simp only [if_neg h]
      refine ⟨pourF f m x y (min (m x / 2) (B y - m y)), ?_, R6_pour hf _ _ _⟩
      unfold f_X12_does g_X12_does_0 g_X12_does_9 g_X12_does_19 g_X12_does_36
      simp only [if_neg (show ¬ nI 3 = 0 by decide), if_neg (show ¬ nI 3 = 1 by decide), if_neg (show ¬ nI 3 = 2 by decide), if_pos (show nI 3 = 3 from rfl), if_pos (vin_nI hx (show 6 < 2 ^ 31 by omega)), nc x (show x < 2 ^ 31 by omega), hf x hx, ed, m_pour hb hf hm hx hy h (show m x / 2 ≤ m x by omega), Option.bind_some]
/-- what an act keeps -/
theorem aAct_MB {B : Nat → Nat} {s : PH} (hm : MB B s.1) {o x y : Nat} (hx : x < 6) (hy : y < 6) : MB B (aAct B o x y s).1 := by
  have h1 := hm x hx
  have h2 := hm y hy
  unfold aAct
  by_cases o0 : o = 0
  · rw [if_pos o0]
    by_cases h : s.1 x < B x
    · rw [if_pos h]; exact MB_upd hm (by omega)
    · rw [if_neg h]; exact hm
  · rw [if_neg o0]
    by_cases o1 : o = 1
    · rw [if_pos o1]
      by_cases h : 0 < s.1 x
      · rw [if_pos h]; exact MB_upd hm (by omega)
      · rw [if_neg h]; exact hm
    · rw [if_neg o1]
      by_cases h : x = y
      · rw [if_pos h]; exact hm
      · rw [if_neg h]
        exact MB_upd (MB_upd hm (by omega)) (by omega)
theorem aAct_n {B : Nat → Nat} {s : PH} (hc : s.2.2.2 < 1009) (o x y : Nat) : (aAct B o x y s).2.1 ≤ s.2.1 + 1 ∧ (aAct B o x y s).2.2.1 ≤ s.2.2.1 + 1 ∧ (aAct B o x y s).2.2.2 < 1009 := by
  unfold aAct
  by_cases o0 : o = 0
  · rw [if_pos o0]
    by_cases h : s.1 x < B x
    · rw [if_pos h]; exact ⟨by show s.2.1 ≤ _; omega, by show s.2.2.1 ≤ _; omega, hc⟩
    · rw [if_neg h]; exact ⟨Nat.le_refl _, by show s.2.2.1 ≤ _; omega, hc⟩
  · rw [if_neg o0]
    by_cases o1 : o = 1
    · rw [if_pos o1]
      by_cases h : 0 < s.1 x
      · rw [if_pos h]; exact ⟨by show s.2.1 ≤ _; omega, Nat.le_refl _, Nat.mod_lt _ (by omega)⟩
      · rw [if_neg h]; exact ⟨by omega, by omega, hc⟩
    · rw [if_neg o1]
      by_cases h : x = y
      · rw [if_pos h]; exact ⟨by omega, by omega, hc⟩
      · rw [if_neg h]; exact ⟨by show s.2.1 ≤ _; omega, by show s.2.2.1 ≤ _; omega, hc⟩
