/-! the reference's round -/
def eN (m : Nat → Nat) : Nat → Nat → Nat
  | 0, acc => acc
  | k + 1, acc => eN m k (100 * acc + m (5 - k))
theorem eN_lt {m : Nat → Nat} (hm : ∀ j, j < 6 → m j < 100) : ∀ (k acc : Nat), eN m k acc < 100 ^ k * (acc + 1)
  | 0, acc => by show acc < 1 * (acc + 1); omega
  | k + 1, acc => by
    have h := eN_lt hm k (100 * acc + m (5 - k))
    have h2 := hm (5 - k) (by omega)
    refine Nat.lt_of_lt_of_le h ?_
    rw [Nat.pow_succ, Nat.mul_assoc]
    exact Nat.mul_le_mul_left _ (by omega)
theorem eN_inj {m m' : Nat → Nat} (hm : ∀ j, j < 6 → m j < 100) (hm' : ∀ j, j < 6 → m' j < 100) : ∀ (k acc acc' : Nat), k ≤ 6 → eN m k acc = eN m' k acc' → acc = acc' ∧ ∀ j, 6 - k ≤ j → j < 6 → m j = m' j
  | 0, acc, acc', _, h => ⟨h, fun j h1 h2 => absurd h2 (by omega)⟩
  | k + 1, acc, acc', hk, h => by
    obtain ⟨i1, i2⟩ := eN_inj hm hm' k (100 * acc + m (5 - k)) (100 * acc' + m' (5 - k)) (by omega) h
    have h1 := hm (5 - k) (by omega)
    have h2 := hm' (5 - k) (by omega)
    refine ⟨by omega, fun j hj hj6 => ?_⟩
    rcases Nat.lt_or_ge j (6 - k) with z | z
    · have : j = 5 - k := by omega
      subst this
      omega
    · exact i2 j z hj6
theorem m_stand8 {f : Nat → Int32} {m : Nat → Nat} (hf : R6 f m) (hm : ∀ j, j < 6 → m j < 100) (x : Int32) : ∀ (fu k acc : Nat), k ≤ 6 → k < fu → g_X12_standingNow_8 fu (lN acc) (nI (6 - k)) f x = some (lN (eN m k acc)) := by
  intro fu
  induction fu with
  | zero => intro k acc h1 h2; omega
  | succ fu ih =>
    intro k acc h1 h2
    simp only [g_X12_standingNow_8]
    cases k with
    | zero => rw [if_pos c6_ge]; rfl
    | succ k =>
      have h5 : 6 - (k + 1) = 5 - k := by omega
      have hm5 := hm (5 - k) (by omega)
      rw [h5, if_neg (c6_le (by omega)), if_pos (vin_nI (by omega) (by omega)), nc _ (by omega), hf _ (by omega), nI_l (by omega), show (100 : Int64) = lN 100 from rfl, lN_mul, lN_add, nI_s, show 5 - k + 1 = 6 - k by omega]
      exact ih k _ (by omega) (by omega)
theorem m_standing {f : Nat → Int32} {m : Nat → Nat} (hf : R6 f m) (hm : ∀ j, j < 6 → m j < 100) {p : Nat} (hp : p ≤ 120) : f_X12_standingNow f (nI p) = some (lN (eN m 6 p)) := by
  unfold f_X12_standingNow g_X12_standingNow_0
  rw [nI_l (by omega)]
  exact m_stand8 hf hm (nI p) FU 6 p (by omega) (by unfold FU; omega)
theorem cmp_lN {a b : Nat} (ha : a < 2 ^ 63) (hb : b < 2 ^ 63) : lg_cmp (lN a) (lN b) = 0 ↔ a = b := by
  unfold lg_cmp
  show (if lN b < lN a then (1 : Int32) else if lN a = lN b then 0 else -1) = 0 ↔ a = b
  by_cases h1 : b < a
  · rw [if_pos ((pk_lLT hb ha).mpr h1)]
    exact ⟨fun h => absurd h (by decide), fun h => by omega⟩
  · rw [if_neg (fun h => h1 ((pk_lLT hb ha).mp h))]
    by_cases h2 : a = b
    · rw [if_pos (by rw [h2])]; exact ⟨fun _ => h2, fun _ => rfl⟩
    · rw [if_neg (fun h => h2 ((pk_lEQ ha hb).mp h))]
      exact ⟨fun h => absurd h (by decide), fun h => absurd h h2⟩
def enS (s : AS) : Nat := eN s.1.1 6 s.2.2.1
section MR
variable {w n : Nat} {P : PG} {kf b ms op a bb lo y35 : Nat → Int32} {rs : Int32} {s0 : AS}
theorem GS_100 {B : Nat → Nat} {s : AS} (h : GS n P B s) : ∀ j, j < 6 → s.1.1 j < 100 := by
  intro j hj
  have := h.1.1 j hj
  omega
theorem enS_lt (hn : n ≤ 120) {B : Nat → Nat} {s : AS} (h : GS n P B s) : enS s < 2 ^ 63 := by
  have h1 := eN_lt (GS_100 h) 6 s.2.2.1
  have h2 := h.2.2.2.1
  have h3 : 100 ^ 6 * (s.2.2.1 + 1) ≤ 100 ^ 6 * 121 := Nat.mul_le_mul_left _ (by omega)
  have h4 : (100 : Nat) ^ 6 * 121 < 2 ^ 63 := by decide
  unfold enS
  omega
theorem enS_eq {B : Nat → Nat} {s s' : AS} (h : GS n P B s) (h' : GS n P B s') : enS s = enS s' ↔ (s.2.2.1 = s'.2.2.1 ∧ s.1.1 = s'.1.1) := by
  refine ⟨fun e => ?_, fun e => by unfold enS; rw [e.1, e.2]⟩
  obtain ⟨i1, i2⟩ := eN_inj (GS_100 h) (GS_100 h') 6 _ _ (Nat.le_refl _) e
  refine ⟨i1, ?_⟩
  funext j
  rcases Nat.lt_or_ge j 6 with z | z
  · exact i2 j (by omega) z
  · rw [h.2.1 j z, h'.2.1 j z]
theorem m_hasN (hw3 : w < 3) (hn : n ≤ 120) (hlo : lo w = nI n) {B : Nat → Nat} {s : AS} (h : GS n P B s) {p : Nat} (hp : s.2.2.2 = 0 → p = s.2.2.1) : f_X12_hasNext (nI w) lo (nI p) (nI s.2.2.2) = some (if s.2.2.1 < n then 1 else 0) := by
  unfold f_X12_hasNext g_X12_hasNext_0
  have hle := h.2.2.2.1
  rcases h.2.2.2.2 with z | z
  · rw [z, if_pos (show nI 0 = 0 from rfl), if_pos (vin_nI hw3 (by omega)), nc w (by omega), hlo, hp z, ite_le (by omega) (by omega)]
    by_cases h2 : n ≤ s.2.2.1
    · rw [if_pos h2, if_neg (by omega)]
    · rw [if_neg h2, if_pos (by omega)]
  · rw [z.1, if_neg (by decide), if_neg (by omega)]
section TB
variable {tb : Nat → Int64} {v2 : Int32} {y36 : Nat → Int32} {e1 e2 e3 e4 e5 e6 : Int32} {x : Nat → Nat}
theorem m_round160 (hv2 : v2 = 0 ∨ v2 = 1 ∨ v2 = 2) (hx : ∀ i, i ≤ 20000 → tb i = lN (x i) ∧ x i < 2 ^ 63) {q M : Nat} (hqM : q + M = 20000) (hq : x q = x (q + M)) : ∀ (fu r i : Nat), i + r = q → r < fu → (∀ j, j < i → ¬ x j = x (j + M)) → ∃ fst, fst ≤ q ∧ (∀ j, j < fst → ¬ x j = x (j + M)) ∧ x fst = x (fst + M) ∧ ∃ u, g_X12_round_160 fu v2 (nI M) (nI i) kf b ms op a bb lo y35 y36 e1 e2 e3 e4 e5 e6 tb = some u ∧ u.1 = (if v2 = 0 then 1 else if v2 = 1 then nI fst else nI M) := by
  intro fu
  induction fu with
  | zero => intro r i h1 h2; omega
  | succ fu ih =>
    intro r i h1 h2 hno
    simp only [g_X12_round_160]
    rw [if_pos (vin_nI (by omega) (by omega)), nI_add, if_pos (vin_nI (by omega) (by omega)), nc i (by omega), nc (i + M) (by omega), (hx i (by omega)).1, (hx (i + M) (by omega)).1]
    by_cases h : x i = x (i + M)
    · rw [if_pos ((cmp_lN (hx i (by omega)).2 (hx (i + M) (by omega)).2).mpr h)]
      refine ⟨i, by omega, hno, h, ?_⟩
      by_cases a0 : v2 = 0
      · rw [if_pos a0, if_pos a0]; exact ⟨_, rfl, rfl⟩
      · rw [if_neg a0, if_neg a0]
        by_cases a1 : v2 = 1
        · rw [if_pos a1, if_pos a1]; exact ⟨_, rfl, rfl⟩
        · rw [if_neg a1, if_neg a1]; exact ⟨_, rfl, rfl⟩
    · rw [if_neg (fun z => h ((cmp_lN (hx i (by omega)).2 (hx (i + M) (by omega)).2).mp z)), nI_s]
      cases r with
      | zero => exact absurd (show x i = x (i + M) by rw [show i = q by omega]; exact hq) h
      | succ r =>
        refine ih r (i + 1) (by omega) (by omega) (fun j hj => ?_)
        rcases Nat.lt_or_ge j i with z | z
        · exact hno j z
        · rw [show j = i by omega]; exact h
theorem m_round106 (hv2 : v2 = 0 ∨ v2 = 1 ∨ v2 = 2) (hx : ∀ i, i ≤ 20000 → tb i = lN (x i) ∧ x i < 2 ^ 63) : ∀ (fu k : Nat), k ≤ 20000 → k < fu → (∀ i, k ≤ i → i < 20000 → ¬ x i = x 20000) →
    ∃ u, g_X12_round_106 fu v2 (nI k - 1) kf b ms op a bb lo y35 y36 e1 e2 e3 e4 e5 e6 tb = some u ∧ (((∀ i, i < 20000 → ¬ x i = x 20000) ∧ u.1 = (if v2 = 0 then 2 else -2)) ∨ (∃ q M fst, q + M = 20000 ∧ 0 < M ∧ x q = x 20000 ∧ (∀ i, q < i → i < 20000 → ¬ x i = x 20000) ∧ fst ≤ q ∧ (∀ j, j < fst → ¬ x j = x (j + M)) ∧ x fst = x (fst + M) ∧ u.1 = (if v2 = 0 then 1 else if v2 = 1 then nI fst else nI M))) := by
  intro fu
  induction fu with
  | zero => intro k h1 h2; omega
  | succ fu ih =>
    intro k h1 h2 hno
    simp only [g_X12_round_106]
    cases k with
    | zero =>
      rw [if_pos (by decide)]
      unfold g_X12_round_135
      rw [if_neg (by decide)]
      by_cases a0 : v2 = 0
      · rw [if_pos a0]; exact ⟨_, rfl, Or.inl ⟨fun i hi => hno i (Nat.zero_le _) hi, by rw [if_pos a0]⟩⟩
      · rw [if_neg a0]; exact ⟨_, rfl, Or.inl ⟨fun i hi => hno i (Nat.zero_le _) hi, by rw [if_neg a0]⟩⟩
    | succ k =>
      rw [show nI (k + 1) - 1 = nI k from nI_m (by omega), if_neg (c0_lt (by omega)), if_pos (vin_nI (by omega) (by omega)), nc k (by omega), show (20000 : Int32).toNatClampNeg = 20000 from rfl, (hx k (by omega)).1, (hx 20000 (by omega)).1]
      by_cases h : x k = x 20000
      · rw [if_pos ((cmp_lN (hx k (by omega)).2 (hx 20000 (by omega)).2).mpr h)]
        unfold g_X12_round_135
        rw [if_pos (by rw [i_le, nI_toInt (by omega)]; show (0 : Int) ≤ _; omega), show (20000 : Int32) - nI k = nI (20000 - k) from pk_sub (a := 20000) (by omega)]
        obtain ⟨fst, t1, t2, t3, u, t4, t5⟩ := m_round160 (kf := kf) (b := b) (ms := ms) (op := op) (a := a) (bb := bb) (lo := lo) (y35 := y35) (y36 := y36) (e1 := e1) (e2 := e2) (e3 := e3) (e4 := e4) (e5 := e5) (e6 := e6) hv2 hx (q := k) (M := 20000 - k) (by omega) (by rw [show k + (20000 - k) = 20000 by omega]; exact h) FU k 0 (by omega) (by unfold FU; omega) (fun j hj => absurd hj (by omega))
        exact ⟨u, t4, Or.inr ⟨k, 20000 - k, fst, by omega, by omega, h, fun i hi hi2 => hno i (by omega) hi2, t1, t2, t3, t5⟩⟩
      · rw [if_neg (fun z => h ((cmp_lN (hx k (by omega)).2 (hx 20000 (by omega)).2).mp z))]
        refine ih k (by omega) (by omega) (fun i hi hi2 => ?_)
        rcases Nat.lt_or_ge k i with z | z
        · exact hno i (by omega) hi2
        · rw [show i = k by omega]; exact h
end TB
theorem m_round31 (hw3 : w < 3) (hn : n ≤ 120) (hlo : lo w = nI n) (hw : PWf n P) (hm : RMo w n P op a bb) (hV : RV kf b ms rs) (hG : GS n P (absN b) s0) (hst0 : s0.2.1 = 0) {A : Nat} (hA : A ≤ 20000) (ha : ∀ i, i < A → (it n P (absN kf) (absN b) i s0).2.2.1 < n) (hAe : A = 20000 ∨ (it n P (absN kf) (absN b) A s0).2.2.1 = n) {v2 : Int32} (hv2 : v2 = 0 ∨ v2 = 1 ∨ v2 = 2) :
    ∀ (fu r i p : Nat) (f : Nat → Int32) (tb : Nat → Int64), i + r = A → r < fu → R6 f (it n P (absN kf) (absN b) i s0).1.1 → ((it n P (absN kf) (absN b) i s0).2.2.2 = 0 → p = (it n P (absN kf) (absN b) i s0).2.2.1) → (∀ j, j < i → tb j = lN (enS (it n P (absN kf) (absN b) j s0))) →
      ∃ u, g_X12_round_31 fu (nI w) v2 kf b ms op a bb lo y35 f (nI p) (nI (it n P (absN kf) (absN b) i s0).2.1) (nI (it n P (absN kf) (absN b) i s0).1.2.1) (nI (it n P (absN kf) (absN b) i s0).1.2.2.1) (nI (it n P (absN kf) (absN b) i s0).1.2.2.2) (nI (it n P (absN kf) (absN b) i s0).2.2.2) tb = some u ∧ (((it n P (absN kf) (absN b) A s0).2.2.1 = n ∧ u.1 = (if v2 = 0 then 0 else -2)) ∨ ((∀ i, i ≤ 20000 → (it n P (absN kf) (absN b) i s0).2.2.1 < n) ∧ (∀ i, i < 20000 → ¬ ((it n P (absN kf) (absN b) i s0).2.2.1 = (it n P (absN kf) (absN b) 20000 s0).2.2.1 ∧ (it n P (absN kf) (absN b) i s0).1.1 = (it n P (absN kf) (absN b) 20000 s0).1.1)) ∧ u.1 = (if v2 = 0 then 2 else -2)) ∨ ((∀ i, i ≤ 20000 → (it n P (absN kf) (absN b) i s0).2.2.1 < n) ∧ ∃ q M fst, q + M = 20000 ∧ 0 < M ∧ ((it n P (absN kf) (absN b) q s0).2.2.1 = (it n P (absN kf) (absN b) 20000 s0).2.2.1 ∧ (it n P (absN kf) (absN b) q s0).1.1 = (it n P (absN kf) (absN b) 20000 s0).1.1) ∧ (∀ l, 0 < l → l < M → ¬ ((it n P (absN kf) (absN b) (20000 - l) s0).2.2.1 = (it n P (absN kf) (absN b) 20000 s0).2.2.1 ∧ (it n P (absN kf) (absN b) (20000 - l) s0).1.1 = (it n P (absN kf) (absN b) 20000 s0).1.1)) ∧ fst ≤ q ∧ (∀ j, j < fst → ¬ ((it n P (absN kf) (absN b) j s0).2.2.1 = (it n P (absN kf) (absN b) (j + M) s0).2.2.1 ∧ (it n P (absN kf) (absN b) j s0).1.1 = (it n P (absN kf) (absN b) (j + M) s0).1.1)) ∧ ((it n P (absN kf) (absN b) fst s0).2.2.1 = (it n P (absN kf) (absN b) (fst + M) s0).2.2.1 ∧ (it n P (absN kf) (absN b) fst s0).1.1 = (it n P (absN kf) (absN b) (fst + M) s0).1.1) ∧ u.1 = (if v2 = 0 then 1 else if v2 = 1 then nI fst else nI M))) := by
  obtain ⟨k1, k2, k3, k4, k5, k6⟩ := RV_abs hV
  intro fu
  induction fu with
  | zero => intro r i p f tb h1 h2; omega
  | succ fu ih =>
    intro r i p f tb h1 h2 hf hp htb
    simp only [g_X12_round_31]
    have hGi : GS n P (absN b) (it n P (absN kf) (absN b) i s0) := GS_it hw i s0 hG (fun j hj => ha j (by omega))
    have hle := hGi.2.2.2.1
    have est : (it n P (absN kf) (absN b) i s0).2.1 = i := by rw [it_st, hst0, Nat.zero_add]
    have e71 : r = 0 → ∃ u, g_X12_round_71 (nI w) v2 kf b ms op a bb lo y35 f (nI p) (nI (it n P (absN kf) (absN b) i s0).2.1) (nI (it n P (absN kf) (absN b) i s0).1.2.1) (nI (it n P (absN kf) (absN b) i s0).1.2.2.1) (nI (it n P (absN kf) (absN b) i s0).1.2.2.2) (nI (it n P (absN kf) (absN b) i s0).2.2.2) tb = some u ∧ (((it n P (absN kf) (absN b) A s0).2.2.1 = n ∧ u.1 = (if v2 = 0 then 0 else -2)) ∨ ((∀ i, i ≤ 20000 → (it n P (absN kf) (absN b) i s0).2.2.1 < n) ∧ (∀ i, i < 20000 → ¬ ((it n P (absN kf) (absN b) i s0).2.2.1 = (it n P (absN kf) (absN b) 20000 s0).2.2.1 ∧ (it n P (absN kf) (absN b) i s0).1.1 = (it n P (absN kf) (absN b) 20000 s0).1.1)) ∧ u.1 = (if v2 = 0 then 2 else -2)) ∨ ((∀ i, i ≤ 20000 → (it n P (absN kf) (absN b) i s0).2.2.1 < n) ∧ ∃ q M fst, q + M = 20000 ∧ 0 < M ∧ ((it n P (absN kf) (absN b) q s0).2.2.1 = (it n P (absN kf) (absN b) 20000 s0).2.2.1 ∧ (it n P (absN kf) (absN b) q s0).1.1 = (it n P (absN kf) (absN b) 20000 s0).1.1) ∧ (∀ l, 0 < l → l < M → ¬ ((it n P (absN kf) (absN b) (20000 - l) s0).2.2.1 = (it n P (absN kf) (absN b) 20000 s0).2.2.1 ∧ (it n P (absN kf) (absN b) (20000 - l) s0).1.1 = (it n P (absN kf) (absN b) 20000 s0).1.1)) ∧ fst ≤ q ∧ (∀ j, j < fst → ¬ ((it n P (absN kf) (absN b) j s0).2.2.1 = (it n P (absN kf) (absN b) (j + M) s0).2.2.1 ∧ (it n P (absN kf) (absN b) j s0).1.1 = (it n P (absN kf) (absN b) (j + M) s0).1.1)) ∧ ((it n P (absN kf) (absN b) fst s0).2.2.1 = (it n P (absN kf) (absN b) (fst + M) s0).2.2.1 ∧ (it n P (absN kf) (absN b) fst s0).1.1 = (it n P (absN kf) (absN b) (fst + M) s0).1.1) ∧ u.1 = (if v2 = 0 then 1 else if v2 = 1 then nI fst else nI M))) := by
      intro hr
      have hiA : i = A := by omega
      unfold g_X12_round_71
      rw [m_hasN hw3 hn hlo hGi hp, Option.bind_some]
      by_cases hl : (it n P (absN kf) (absN b) i s0).2.2.1 < n
      · rw [if_pos hl, if_neg (by decide), hp (GS_en hGi hl), m_standing hf (GS_100 hGi) (by omega), Option.bind_some]
        have hA2 : A = 20000 := by
          rcases hAe with z | z
          · exact z
          · rw [hiA] at hl; omega
        have hall : ∀ i, i ≤ 20000 → (it n P (absN kf) (absN b) i s0).2.2.1 < n := by
          intro j hj
          rcases Nat.lt_or_ge j A with z | z
          · exact ha j z
          · rw [show j = i by omega]; exact hl
        have hGall : ∀ j, j ≤ 20000 → GS n P (absN b) (it n P (absN kf) (absN b) j s0) := fun j hj => GS_it hw j s0 hG (fun t ht => hall t (by omega))
        have hi2 : i = 20000 := by omega
        have hx : ∀ j, j ≤ 20000 → vp_updL tb (20000 : Int32).toNatClampNeg (lN (eN (it n P (absN kf) (absN b) i s0).1.1 6 (it n P (absN kf) (absN b) i s0).2.2.1)) j = lN (enS (it n P (absN kf) (absN b) j s0)) ∧ enS (it n P (absN kf) (absN b) j s0) < 2 ^ 63 := by
          intro j hj
          refine ⟨?_, enS_lt hn (hGall j hj)⟩
          show (if j = 20000 then _ else tb j) = _
          by_cases hj2 : j = 20000
          · rw [if_pos hj2, hj2, ← hi2]; rfl
          · rw [if_neg hj2]; exact htb j (by omega)
        obtain ⟨u, t1, t2⟩ := m_round106 (kf := kf) (b := b) (ms := ms) (op := op) (a := a) (bb := bb) (lo := lo) (y35 := y35) (y36 := f) (e1 := nI (it n P (absN kf) (absN b) i s0).2.2.1) (e2 := nI (it n P (absN kf) (absN b) i s0).2.1) (e3 := nI (it n P (absN kf) (absN b) i s0).1.2.1) (e4 := nI (it n P (absN kf) (absN b) i s0).1.2.2.1) (e5 := nI (it n P (absN kf) (absN b) i s0).1.2.2.2) (e6 := nI (it n P (absN kf) (absN b) i s0).2.2.2) (x := fun j => enS (it n P (absN kf) (absN b) j s0)) hv2 hx FU 20000 (Nat.le_refl _) (by unfold FU; omega) (fun i h1 h2 => absurd h2 (by omega))
        refine ⟨u, t1, Or.inr ?_⟩
        rcases t2 with ⟨t3, t4⟩ | ⟨q, M, fst, s1, s2, s3, s4, s5, s6, s7, s8⟩
        · exact Or.inl ⟨hall, fun j hj hs => t3 j hj ((enS_eq (hGall j (by omega)) (hGall 20000 (by omega))).mpr hs), t4⟩
        · refine Or.inr ⟨hall, q, M, fst, s1, s2, (enS_eq (hGall q (by omega)) (hGall 20000 (by omega))).mp s3, fun l hl1 hl2 hs => s4 (20000 - l) (by omega) (by omega) ((enS_eq (hGall _ (by omega)) (hGall 20000 (by omega))).mpr hs), s5, fun j hj hs => s6 j hj ((enS_eq (hGall j (by omega)) (hGall _ (by omega))).mpr hs), (enS_eq (hGall fst (by omega)) (hGall _ (by omega))).mp s7, s8⟩
      · rw [if_neg hl, if_pos rfl]
        have hpn : (it n P (absN kf) (absN b) A s0).2.2.1 = n := by rw [← hiA]; omega
        by_cases a0 : v2 = 0
        · rw [if_pos a0]; exact ⟨_, rfl, Or.inl ⟨hpn, by rw [if_pos a0]⟩⟩
        · rw [if_neg a0]; exact ⟨_, rfl, Or.inl ⟨hpn, by rw [if_neg a0]⟩⟩
    rw [m_hasN hw3 hn hlo hGi hp, Option.bind_some]
    cases r with
    | zero =>
      have := e71 rfl
      by_cases hl : (it n P (absN kf) (absN b) i s0).2.2.1 < n
      · have hA2 : A = 20000 := by
          rcases hAe with z | z
          · exact z
          · rw [show A = i by omega] at z; omega
        rw [if_pos hl, if_neg (by decide), show (if (20000 : Int32) ≤ nI (it n P (absN kf) (absN b) i s0).2.1 then g_X12_round_71 (nI w) v2 kf b ms op a bb lo y35 f (nI p) (nI (it n P (absN kf) (absN b) i s0).2.1) (nI (it n P (absN kf) (absN b) i s0).1.2.1) (nI (it n P (absN kf) (absN b) i s0).1.2.2.1) (nI (it n P (absN kf) (absN b) i s0).1.2.2.2) (nI (it n P (absN kf) (absN b) i s0).2.2.2) tb else _) = g_X12_round_71 (nI w) v2 kf b ms op a bb lo y35 f (nI p) (nI (it n P (absN kf) (absN b) i s0).2.1) (nI (it n P (absN kf) (absN b) i s0).1.2.1) (nI (it n P (absN kf) (absN b) i s0).1.2.2.1) (nI (it n P (absN kf) (absN b) i s0).1.2.2.2) (nI (it n P (absN kf) (absN b) i s0).2.2.2) tb from if_pos (by rw [est, show (20000 : Int32) = nI 20000 from rfl, nI_leI (by omega) (by omega)]; omega)]
        exact this
      · rw [if_neg hl, if_pos rfl]
        exact this
    | succ r =>
      have hl := ha i (by omega)
      rw [if_pos hl, if_neg (by decide), hp (GS_en hGi hl), m_standing hf (GS_100 hGi) (by omega), Option.bind_some]
      obtain ⟨f', p', t1, t2, t3, t4⟩ := m_stepG hw3 hn hlo hw hm k1 k2 k3 hf hGi hl 1 (by omega)
      rw [est] at t1
      have t1' : f_X12_steps (nI w) 1 kf b op a bb lo f (nI (it n P (absN kf) (absN b) i s0).2.2.1) (nI i) (nI (it n P (absN kf) (absN b) i s0).1.2.1) (nI (it n P (absN kf) (absN b) i s0).1.2.2.1) (nI (it n P (absN kf) (absN b) i s0).1.2.2.2) (nI (it n P (absN kf) (absN b) i s0).2.2.2) = _ := t1
      rw [est, if_neg (by rw [show (20000 : Int32) = nI 20000 from rfl, nI_leI (by omega) (by omega)]; omega), if_pos (vin_nI (by omega) (by omega)), t1', Option.bind_some, nc i (by omega)]
      have hz := ih r (i + 1) p' f' (vp_updL tb i (lN (eN (it n P (absN kf) (absN b) i s0).1.1 6 (it n P (absN kf) (absN b) i s0).2.2.1))) (by omega) (by omega) (by rw [it_succ]; exact t2) (by rw [it_succ]; exact t3) (fun j hj => by
        show (if j = i then _ else tb j) = _
        by_cases hji : j = i
        · rw [if_pos hji, hji]; rfl
        · rw [if_neg hji]; exact htb j (by omega))
      rw [it_succ] at hz
      exact hz
end MR
