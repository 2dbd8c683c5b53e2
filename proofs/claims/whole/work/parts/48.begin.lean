/-! beginnings: the abstract walk over them -/
def nextB (W : Nat → Nat) : Nat → (Nat → Nat) → Bool × (Nat → Nat)
  | 0, m => (false, m)
  | k + 1, m => if W k ≤ 1 then nextB W k m else if m k + 1 < W k then (true, updN m k (m k + 1)) else nextB W k (updN m k 0)
def rkB (W : Nat → Nat) : Nat → (Nat → Nat) → Nat
  | 0, _ => 0
  | k + 1, m => rkB W k m * W k + (if W k ≤ 1 then 0 else m k)
def prB (W : Nat → Nat) : Nat → Nat
  | 0 => 1
  | k + 1 => prB W k * W k
theorem rkB_upd (W : Nat → Nat) (x : Nat) : ∀ (k j : Nat) (m : Nat → Nat), k ≤ j → rkB W k (updN m j x) = rkB W k m
  | 0, _, _, _ => rfl
  | k + 1, j, m, h => by
    show rkB W k (updN m j x) * W k + (if W k ≤ 1 then 0 else updN m j x k) = rkB W k m * W k + (if W k ≤ 1 then 0 else m k)
    rw [rkB_upd W x k j m (by omega), updN_ne (show k ≠ j by omega)]
theorem rkB_lt {W : Nat → Nat} : ∀ (k : Nat) (m : Nat → Nat), (∀ j, j < k → 1 ≤ W j) → (∀ j, j < k → 1 < W j → m j < W j) → rkB W k m < prB W k
  | 0, _, _, _ => Nat.zero_lt_one
  | k + 1, m, h1, h2 => by
    have ih := rkB_lt k m (fun j hj => h1 j (by omega)) (fun j hj => h2 j (by omega))
    have g1 := h1 k (by omega)
    have g2 := h2 k (by omega)
    show rkB W k m * W k + (if W k ≤ 1 then 0 else m k) < prB W k * W k
    have g3 : (rkB W k m + 1) * W k ≤ prB W k * W k := Nat.mul_le_mul_right _ ih
    rw [Nat.succ_mul] at g3
    by_cases hw : W k ≤ 1
    · rw [if_pos hw]; omega
    · rw [if_neg hw]
      have := g2 (by omega)
      omega
theorem nextB_ok {W : Nat → Nat} : ∀ (k : Nat) (m : Nat → Nat), (∀ j, j < k → 1 ≤ W j) → (∀ j, j < k → 1 < W j → m j < W j) → ((nextB W k m).1 = true → rkB W k (nextB W k m).2 = rkB W k m + 1) ∧ ((nextB W k m).1 = false → rkB W k m + 1 = prB W k) ∧ (∀ j, k ≤ j → (nextB W k m).2 j = m j) ∧ (∀ j, j < k → (W j ≤ 1 → (nextB W k m).2 j = m j) ∧ (1 < W j → (nextB W k m).2 j < W j))
  | 0, m, _, _ => ⟨fun h => absurd (show false = true from h) (by decide), fun _ => rfl, fun _ _ => rfl, fun j hj => absurd hj (by omega)⟩
  | k + 1, m, h1, h2 => by
    have g1 := h1 k (by omega)
    by_cases hw : W k ≤ 1
    · have e : nextB W (k + 1) m = nextB W k m := if_pos hw
      obtain ⟨i1, i2, i3, i4⟩ := nextB_ok k m (fun j hj => h1 j (by omega)) (fun j hj => h2 j (by omega))
      have hw1 : W k = 1 := by omega
      rw [e]
      refine ⟨fun h => ?_, fun h => ?_, fun j hj => i3 j (by omega), fun j hj => ?_⟩
      · show rkB W k _ * W k + (if W k ≤ 1 then 0 else _) = rkB W k m * W k + (if W k ≤ 1 then 0 else _) + 1
        rw [if_pos hw, if_pos hw, hw1, i1 h]; omega
      · show rkB W k m * W k + (if W k ≤ 1 then 0 else _) + 1 = prB W k * W k
        rw [if_pos hw, hw1, ← i2 h]; omega
      · by_cases hjk : j = k
        · subst hjk; exact ⟨fun _ => i3 j (Nat.le_refl _), fun x => by omega⟩
        · exact i4 j (by omega)
    · have g2 := h2 k (by omega) (by omega)
      by_cases hm : m k + 1 < W k
      · have e : nextB W (k + 1) m = (true, updN m k (m k + 1)) := by
          show (if W k ≤ 1 then _ else if m k + 1 < W k then _ else _) = _
          rw [if_neg hw, if_pos hm]
        rw [e]
        refine ⟨fun _ => ?_, fun h => absurd (show true = false from h) (by decide), fun j hj => updN_ne (by omega), fun j hj => ?_⟩
        · show rkB W k (updN m k (m k + 1)) * W k + (if W k ≤ 1 then 0 else updN m k (m k + 1) k) = rkB W k m * W k + (if W k ≤ 1 then 0 else m k) + 1
          rw [if_neg hw, if_neg hw, rkB_upd _ _ _ _ _ (Nat.le_refl _), updN_same]; omega
        · show (_ → updN m k (m k + 1) j = m j) ∧ (_ → updN m k (m k + 1) j < W j)
          by_cases hjk : j = k
          · subst hjk; rw [updN_same]; exact ⟨fun x => by omega, fun _ => hm⟩
          · rw [updN_ne hjk]; exact ⟨fun _ => rfl, h2 j hj⟩
      · have e : nextB W (k + 1) m = nextB W k (updN m k 0) := by
          show (if W k ≤ 1 then _ else if m k + 1 < W k then _ else _) = _
          rw [if_neg hw, if_neg hm]
        obtain ⟨i1, i2, i3, i4⟩ := nextB_ok k (updN m k 0) (fun j hj => h1 j (by omega)) (fun j hj hx => by rw [updN_ne (show j ≠ k by omega)]; exact h2 j (by omega) hx)
        rw [rkB_upd _ _ _ _ _ (Nat.le_refl _)] at i1 i2
        rw [e]
        have i3k := i3 k (Nat.le_refl _)
        rw [updN_same] at i3k
        refine ⟨fun h => ?_, fun h => ?_, fun j hj => ?_, fun j hj => ?_⟩
        · show rkB W k _ * W k + (if W k ≤ 1 then 0 else _) = rkB W k m * W k + (if W k ≤ 1 then 0 else m k) + 1
          rw [if_neg hw, if_neg hw, i1 h, i3k, Nat.succ_mul]; omega
        · show rkB W k m * W k + (if W k ≤ 1 then 0 else m k) + 1 = prB W k * W k
          rw [if_neg hw, ← i2 h, Nat.succ_mul]; omega
        · rw [i3 j (by omega), updN_ne (show j ≠ k by omega)]
        · by_cases hjk : j = k
          · subst hjk; exact ⟨fun x => by omega, fun _ => by rw [i3k]; omega⟩
          · have := i4 j (by omega)
            rw [updN_ne hjk] at this
            exact this
/-- how many beginnings the test finds, and the first of them -/
def walkB (p : (Nat → Nat) → Bool) (W : Nat → Nat) : Nat → (Nat → Nat) → Nat → (Nat → Nat) → Nat × (Nat → Nat)
  | 0, _, c, f => (c, f)
  | r + 1, m, c, f => walkB p W r (nextB W 6 m).2 (if p m = true then c + 1 else c) (if p m = true ∧ c = 0 then m else f)
theorem walkB_pos {p : (Nat → Nat) → Bool} {W : Nat → Nat} : ∀ (r : Nat) (m : Nat → Nat) (c : Nat) (f : Nat → Nat), 0 < c → (walkB p W r m c f).2 = f ∧ c ≤ (walkB p W r m c f).1
  | 0, m, c, f, _ => ⟨rfl, Nat.le_refl _⟩
  | r + 1, m, c, f, h => by
    have e : (if p m = true ∧ c = 0 then m else f) = f := if_neg (fun x => by omega)
    have h2 : c ≤ (if p m = true then c + 1 else c) := by split <;> omega
    obtain ⟨q1, q2⟩ := walkB_pos (p := p) (W := W) r (nextB W 6 m).2 (if p m = true then c + 1 else c) f (by omega)
    show (walkB p W r _ _ _).2 = f ∧ c ≤ (walkB p W r _ _ _).1
    rw [e]
    exact ⟨q1, by omega⟩
def ansB (v : Int32) (q : Nat × (Nat → Nat)) : Int32 := if v = -1 then nI q.1 else if q.1 = 0 then -2 else nI (q.2 v.toNatClampNeg)
/-- which vats are chosen, how many measures each goes through, where it begins -/
def waysB (C : Nat → Bool) (bnd : Nat) (B : Nat → Nat) (j : Nat) : Nat := if C j = true then min bnd (B j) + 1 else 1
def begB (C : Nat → Bool) (M : Nat → Nat) (j : Nat) : Nat := if j < 6 then (if C j = true then 0 else M j) else 0
def InvB (C : Nat → Bool) (bnd : Nat) (B M : Nat → Nat) (m : Nat → Nat) : Prop := (∀ j, j < 6 → (C j = true → m j < waysB C bnd B j) ∧ (C j = false → m j = M j)) ∧ Z6 m
theorem waysB_1 (C : Nat → Bool) (bnd : Nat) (B : Nat → Nat) (j : Nat) : 1 ≤ waysB C bnd B j := by
  unfold waysB; split <;> omega
theorem waysB_t {C : Nat → Bool} {bnd : Nat} {B : Nat → Nat} {j : Nat} (h : C j = true) : waysB C bnd B j = min bnd (B j) + 1 := if_pos h
theorem waysB_f {C : Nat → Bool} {bnd : Nat} {B : Nat → Nat} {j : Nat} (h : C j = false) : waysB C bnd B j = 1 := if_neg (by rw [h]; decide)
section INVB
variable {C : Nat → Bool} {bnd : Nat} {B M : Nat → Nat}
theorem InvB_dig {m : Nat → Nat} (h : InvB C bnd B M m) : ∀ j, j < 6 → 1 < waysB C bnd B j → m j < waysB C bnd B j := by
  intro j hj hw
  cases hc : C j with
  | false => rw [waysB_f hc] at hw; omega
  | true => exact (h.1 j hj).1 hc
theorem InvB_0 : InvB C bnd B M (begB C M) := by
  refine ⟨fun j hj => ⟨fun h => ?_, fun h => ?_⟩, fun j hj => if_neg (by omega)⟩
  · unfold begB; rw [if_pos hj, if_pos h]; exact waysB_1 _ _ _ _
  · unfold begB; rw [if_pos hj, if_neg (by rw [h]; decide)]
theorem InvB_next {m : Nat → Nat} (h : InvB C bnd B M m) : InvB C bnd B M (nextB (waysB C bnd B) 6 m).2 := by
  obtain ⟨-, -, i3, i4⟩ := nextB_ok (W := waysB C bnd B) 6 m (fun j _ => waysB_1 _ _ _ _) (InvB_dig h)
  refine ⟨fun j hj => ⟨fun hc => ?_, fun hc => ?_⟩, fun j hj => by rw [i3 j hj]; exact h.2 j hj⟩
  · rcases Nat.lt_or_ge 1 (waysB C bnd B j) with q | q
    · exact (i4 j hj).2 q
    · rw [(i4 j hj).1 q]; exact (h.1 j hj).1 hc
  · rw [(i4 j hj).1 (by rw [waysB_f hc]; exact Nat.le_refl _)]; exact (h.1 j hj).2 hc
theorem InvB_MB {m : Nat → Nat} (h : InvB C bnd B M m) (hM : MB B M) : MB B m := by
  intro j hj
  have h1 := h.1 j hj
  refine ⟨?_, (hM j hj).2⟩
  cases hc : C j with
  | false => rw [h1.2 hc]; exact (hM j hj).1
  | true =>
    have := h1.1 hc
    rw [waysB_t hc] at this
    omega
theorem nI_neg1 (k : Nat) : nI k + (-1) = nI k - 1 := (Int32.sub_eq_add_neg (a := nI k) (b := 1)).symm
theorem c0_lt {k : Nat} (hk : k < 2 ^ 31) : ¬ nI k < 0 := by rw [i_lt, nI_toInt hk]; show ¬ _ < (0 : Int); omega
/-- the class's goOn -/
theorem x_goOn {W : Nat → Nat} {wy : Nat → Int32} (hwy : R6 wy W) (hW : ∀ j, j < 6 → W j < 1000) : ∀ (fu k : Nat) (y : Nat → Int32) (m : Nat → Nat), k ≤ 6 → k < fu → R6 y m → (∀ j, j < 6 → m j < 1000) → ∃ y', g_X8_goOn_2 fu (nI k - 1) y wy = some y' ∧ R6 y' (nextB W k m).2 := by
  intro fu
  induction fu with
  | zero => intro k y m h1 h2; omega
  | succ fu ih =>
    intro k y m h1 h2 hy hm
    simp only [g_X8_goOn_2]
    cases k with
    | zero => rw [if_pos (by decide)]; exact ⟨y, rfl, hy⟩
    | succ k =>
      have hk : k < 6 := by omega
      have w1 := hW k hk
      have m1 := hm k hk
      rw [show nI (k + 1) - 1 = nI k from nI_m (by omega), if_neg (c0_lt (by omega)), if_pos (vin_nI hk (by omega)), nc k (by omega), hwy k hk, nI_neg1, upd_same, hy k hk, nI_p, show (if nI (W k) ≤ 1 then g_X8_goOn_2 fu (nI k - 1) y wy else (if nI (W k) ≤ nI (m k + 1) then g_X8_goOn_2 fu (nI k - 1) (upd (upd y k (nI (m k + 1))) k 0) wy else some (upd y k (nI (m k + 1))))) = (if W k ≤ 1 then g_X8_goOn_2 fu (nI k - 1) y wy else (if nI (W k) ≤ nI (m k + 1) then g_X8_goOn_2 fu (nI k - 1) (upd (upd y k (nI (m k + 1))) k 0) wy else some (upd y k (nI (m k + 1))))) from ite_le (a := W k) (b := 1) (by omega) (by omega), ite_le (by omega) (by omega)]
      show ∃ y', _ ∧ R6 y' (if W k ≤ 1 then nextB W k m else if m k + 1 < W k then (true, updN m k (m k + 1)) else nextB W k (updN m k 0)).2
      by_cases hw : W k ≤ 1
      · rw [if_pos hw, if_pos hw]; exact ih k y m (by omega) (by omega) hy hm
      · rw [if_neg hw, if_neg hw]
        by_cases hk2 : m k + 1 < W k
        · rw [if_neg (by omega), if_pos hk2]; exact ⟨_, rfl, R6_upd hy _ _⟩
        · rw [if_pos (by omega), if_neg hk2]
          refine ih k _ _ (by omega) (by omega) (fun j hj => ?_) (fun j hj => ?_)
          · by_cases hjk : j = k
            · subst hjk; rw [upd_same, updN_same]; rfl
            · rw [upd_ne hjk, upd_ne hjk, updN_ne hjk]; exact hy j hj
          · by_cases hjk : j = k
            · subst hjk; rw [updN_same]; omega
            · rw [updN_ne hjk]; exact hm j hj
def bitB (msk : Int32) (C : Nat → Bool) : Prop := ∀ j, j < 6 → ((msk >>> (nI j &&& 31)) &&& 1) = (if C j = true then 1 else 0)
theorem bit_0 {msk : Int32} (h : bitB msk C) {j : Nat} (hj : j < 6) {α : Type} {p q : α} : (if ((msk >>> (nI j &&& 31)) &&& 1) = 0 then p else q) = if C j = true then q else p := by
  rw [h j hj]
  cases C j with
  | false => rfl
  | true => rfl
theorem bit_1 {msk : Int32} (h : bitB msk C) {j : Nat} (hj : j < 6) {α : Type} {p q : α} : (if ((msk >>> (nI j &&& 31)) &&& 1) = 1 then p else q) = if C j = true then p else q := by
  rw [h j hj]
  cases C j with
  | false => rfl
  | true => rfl
/-- the reference's goesToNext -/
theorem m_goesN {msk : Int32} (hb : bitB msk C) {b : Nat → Int32} (hB : R6 b B) (hB9 : ∀ j, j < 6 → B j ≤ 99) (hbnd : bnd ≤ 20) : ∀ (fu k : Nat) (y : Nat → Int32) (m : Nat → Nat), k ≤ 6 → k < fu → R6 y m → (∀ j, j < k → C j = true → m j < waysB C bnd B j) → (∀ j, j < 6 → m j < 1000) → ∃ y', g_X12_goesToNext_2 fu msk (nI bnd) (nI k - 1) b y = some ((if (nextB (waysB C bnd B) k m).1 = true then 1 else 0), y') ∧ R6 y' (nextB (waysB C bnd B) k m).2 := by
  intro fu
  induction fu with
  | zero => intro k y m h1 h2; omega
  | succ fu ih =>
    intro k y m h1 h2 hy hd hm
    simp only [g_X12_goesToNext_2]
    cases k with
    | zero => rw [if_pos (by decide)]; exact ⟨y, rfl, hy⟩
    | succ k =>
      have hk : k < 6 := by omega
      have b1 := hB9 k hk
      have m1 := hm k hk
      rw [show nI (k + 1) - 1 = nI k from nI_m (by omega), if_neg (c0_lt (by omega)), bit_0 hb hk, if_pos (vin_nI hk (by omega)), nc k (by omega), hB k hk, m_min _ _ (by omega) (by omega), Option.bind_some, hy k hk, ite_le (by omega) (by omega), nI_p, nI_neg1]
      have en : nextB (waysB C bnd B) (k + 1) m = if waysB C bnd B k ≤ 1 then nextB (waysB C bnd B) k m else if m k + 1 < waysB C bnd B k then (true, updN m k (m k + 1)) else nextB (waysB C bnd B) k (updN m k 0) := rfl
      cases hc : C k with
      | false =>
        rw [if_neg (by decide)]
        rw [waysB_f hc, if_pos (Nat.le_refl _)] at en
        rw [en]
        exact ih k y m (by omega) (by omega) hy (fun j hj => hd j (by omega)) hm
      | true =>
        have d1 := hd k (by omega) hc
        rw [waysB_t hc] at en d1
        rw [if_pos rfl]
        have hz : ∀ hh : min bnd (B k) ≤ m k, ∃ y', g_X12_goesToNext_2 fu msk (nI bnd) (nI k - 1) b (upd y k 0) = some ((if (nextB (waysB C bnd B) k (updN m k 0)).1 = true then 1 else 0), y') ∧ R6 y' (nextB (waysB C bnd B) k (updN m k 0)).2 := by
          intro hh
          refine ih k _ _ (by omega) (by omega) (R6_upd hy k 0) (fun j hj hcj => ?_) (fun j hj => ?_)
          · rw [updN_ne (show j ≠ k by omega)]; exact hd j (by omega) hcj
          · by_cases hjk : j = k
            · subst hjk; rw [updN_same]; omega
            · rw [updN_ne hjk]; exact hm j hj
        by_cases hw : min bnd (B k) ≤ m k
        · rw [if_pos hw]
          by_cases hw1 : min bnd (B k) + 1 ≤ 1
          · rw [if_pos hw1] at en
            have hmk : m k = 0 := by omega
            have eu : updN m k 0 = m := by
              funext j
              by_cases hjk : j = k
              · subst hjk; rw [updN_same, hmk]
              · rw [updN_ne hjk]
            have := hz hw
            rw [eu, ← en] at this
            exact this
          · rw [if_neg hw1, if_neg (by omega)] at en
            rw [en]
            exact hz hw
        · rw [if_neg hw]
          rw [if_neg (by omega), if_pos (by omega)] at en
          rw [en]
          exact ⟨_, rfl, R6_upd hy _ _⟩
theorem m_startsB {msk : Int32} (hb : bitB msk C) {ms : Nat → Int32} (hM : R6 ms M) (x : Int32) : ∀ (fu i : Nat) (y : Nat → Int32), i ≤ 6 → 7 ≤ fu + i → (∀ j, j < i → y j = nI (begB C M j)) → ∃ y', g_X12_startsBeginnings_7 fu msk (nI i) ms y x = some (y', x) ∧ R6 y' (begB C M) := by
  intro fu
  induction fu with
  | zero => intro i y h1 h2; omega
  | succ fu ih =>
    intro i y h1 h2 hy
    simp only [g_X12_startsBeginnings_7]
    rcases Nat.lt_or_ge i 6 with hi | hi
    · rw [if_neg (c6_le hi), bit_1 hb hi, if_pos (vin_nI hi (by omega)), nc i (by omega), nI_s]
      have key : ∀ v : Int32, v = nI (begB C M i) → ∃ y', g_X12_startsBeginnings_7 fu msk (nI (i + 1)) ms (upd y i v) x = some (y', x) ∧ R6 y' (begB C M) := by
        intro v hv
        refine ih (i + 1) _ (by omega) (by omega) (fun j hj => ?_)
        by_cases hji : j = i
        · subst hji; rw [upd_same, hv]
        · rw [upd_ne hji]; exact hy j (by omega)
      cases hc : C i with
      | false =>
        rw [if_neg (by decide), if_pos (vin_nI hi (by omega))]
        exact key (ms i) (by rw [hM i hi]; unfold begB; rw [if_pos hi, if_neg (by rw [hc]; decide)])
      | true =>
        rw [if_pos rfl]
        exact key 0 (by unfold begB; rw [if_pos hi, if_pos hc]; rfl)
    · have hi6 : i = 6 := by omega
      subst hi6
      rw [if_pos c6_ge]
      exact ⟨y, rfl, hy⟩
theorem x_lay {msk : Int32} (hb : bitB msk C) {b ms : Nat → Int32} (hB : R6 b B) (hB9 : ∀ j, j < 6 → B j ≤ 99) (hbnd : bnd ≤ 20) (hM : R6 ms M) : ∀ (fu i : Nat) (y3 y4 : Nat → Int32), i ≤ 6 → 7 ≤ fu + i → (∀ j, j < i → y3 j = nI (begB C M j) ∧ y4 j = nI (waysB C bnd B j)) → ∃ y3' y4', g_X8_lay_7 fu msk (nI bnd) (nI i) y3 y4 (nI (prB (waysB C bnd B) i)) b ms = some (y3', y4', nI (prB (waysB C bnd B) 6)) ∧ R6 y3' (begB C M) ∧ R6 y4' (waysB C bnd B) := by
  intro fu
  induction fu with
  | zero => intro i y3 y4 h1 h2; omega
  | succ fu ih =>
    intro i y3 y4 h1 h2 hy
    simp only [g_X8_lay_7]
    rcases Nat.lt_or_ge i 6 with hi | hi
    · have b1 := hB9 i hi
      rw [if_neg (c6_le hi), bit_0 hb hi]
      have key : ∀ v w : Int32, v = nI (begB C M i) → w = nI (waysB C bnd B i) → ∃ y3' y4', g_X8_lay_81 (g_X8_lay_7 fu) msk (nI bnd) (nI i) (nI i) v y3 (upd y4 i w) (nI (prB (waysB C bnd B) i)) b ms = some (y3', y4', nI (prB (waysB C bnd B) 6)) ∧ R6 y3' (begB C M) ∧ R6 y4' (waysB C bnd B) := by
        intro v w hv hw
        unfold g_X8_lay_81
        rw [if_pos (vin_nI hi (by omega)), if_pos (vin_nI hi (by omega)), nc i (by omega), upd_same, nI_s, hw, pk_mul]
        refine ih (i + 1) _ _ (by omega) (by omega) (fun j hj => ?_)
        by_cases hji : j = i
        · subst hji; rw [upd_same, upd_same]; exact ⟨hv, rfl⟩
        · rw [upd_ne hji, upd_ne hji]; exact hy j (by omega)
      cases hc : C i with
      | false =>
        rw [if_neg (by decide)]
        unfold g_X8_lay_26 g_X8_lay_57
        rw [if_pos rfl, if_pos (vin_nI hi (by omega)), if_pos rfl, if_pos (vin_nI hi (by omega)), nc i (by omega)]
        exact key _ _ (by rw [hM i hi]; unfold begB; rw [if_pos hi, if_neg (by rw [hc]; decide)]) (by rw [waysB_f hc]; rfl)
      | true =>
        rw [if_pos rfl]
        unfold g_X8_lay_26 g_X8_lay_57
        rw [if_neg (by decide), if_pos (vin_nI hi (by omega)), nc i (by omega), hB i hi, x_min _ _ (by omega) (by omega), Option.bind_some, if_pos (vin_nI hi (by omega)), if_neg (by decide)]
        exact key _ _ (by unfold begB; rw [if_pos hi, if_pos hc]; rfl) (by rw [waysB_t hc, nI_p])
    · have hi6 : i = 6 := by omega
      subst hi6
      rw [if_pos c6_ge]
      exact ⟨y3, y4, rfl, fun j hj => (hy j hj).1, fun j hj => (hy j hj).2⟩
end INVB
