/-! prices -/
def prc (t du pc bs : Nat → Nat) (S i : Nat) : Nat := pc i * (tsum (S ||| 2 ^ i) t 8 - du i) + bs (S ||| 2 ^ i)
theorem c8_le {i : Nat} (h : i < 8) : ¬ (8 : Int32) ≤ nI i := by
  rw [i_le, nI_toInt (by omega)]; show ¬ (8 : Int) ≤ _; omega
theorem c8_ge : (8 : Int32) ≤ nI 8 := by decide
section PRC
variable {sm S i : Nat} {t du pc bs : Nat → Nat} {y4 y5 y8 y9 : Nat → Int32}
theorem x_prices10 (hS : S < 256) (hi : i < 8) (hsub : subS S sm) (hc : cnd sm S i = true) (ht : ∀ j, j < 8 → sm.testBit j = true → y8 j = nI (t j) ∧ t j ≤ 1000) (h4 : ∀ j, j < 8 → y4 j = nI (du j) ∧ du j ≤ 9999) (h5 : ∀ j, j < 8 → y5 j = nI (pc j) ∧ pc j ≤ 99) (h9 : y9 (S ||| 2 ^ i) = nI (bs (S ||| 2 ^ i))) : ∀ (fu k : Nat), k ≤ 8 → k < fu → g_X2_pricesBy_10 fu (nI S) (nI i) (nI (t i + tsum S t (8 - k))) (nI (8 - k)) y4 y5 y8 y9 = some (nI (prc t du pc bs S i)) := by
  have hSi : S.testBit i = false := by
    unfold cnd at hc
    cases hb : S.testBit i with
    | false => rfl
    | true => rw [hb] at hc; simp at hc
  have hsmi : sm.testBit i = true := by
    unfold cnd at hc
    cases hb : sm.testBit i with
    | true => rfl
    | false => rw [hb] at hc; simp at hc
  intro fu
  induction fu with
  | zero => intro k h1 h2; omega
  | succ fu ih =>
    intro k h1 h2
    simp only [g_X2_pricesBy_10]
    cases k with
    | zero =>
      rw [if_pos c8_ge, if_pos (vin_nI hi (by omega)), nc i (by omega), (h4 i hi).1, (h5 i hi).1, or_nI S hi, nc (S ||| 2 ^ i) (by have := (or_lt S hS i hi).1; omega), h9]
      have e1 : tsum (S ||| 2 ^ i) t 8 = tsum S t 8 + t i := by rw [tsum_or t hSi, if_pos hi]
      have b1 := tsum_le (S := S) (t := t) (c := 1000) (fun j hj hb => (ht j hj (hsub j hj hb)).2) 8 (by omega)
      have b2 := (ht i hi hsmi).2
      have b3 := (h4 i hi).2
      unfold f_J9_max_7cf53 g_J9_max_7cf53_0 prc
      rw [e1, show 8 - 0 = 8 from rfl]
      by_cases hd : du i < t i + tsum S t 8
      · rw [pk_sub (by omega), if_pos (by rw [show (0 : Int32) = nI 0 from rfl, nI_ltI (by omega) (by omega)]; omega), Option.bind_some, if_pos (vin_nI (or_lt S hS i hi).1 (by omega)), pk_mul, nI_add, show t i + tsum S t 8 - du i = tsum S t 8 + t i - du i by omega]
      · have e0 : tsum S t 8 + t i - du i = 0 := by omega
        rw [if_neg (by
          rw [i_lt, pk_sub_toInt (by omega) (by omega)]
          show ¬ (0 : Int) < _
          omega), Option.bind_some, if_pos (vin_nI (or_lt S hS i hi).1 (by omega)), e0, Nat.mul_zero, show (0 : Int32) = nI 0 from rfl, pk_mul, nI_add, Nat.mul_zero]
    | succ k =>
      have hk : 8 - (k + 1) < 8 := by omega
      rw [if_neg (c8_le hk), bit_nI S hk, nI_s, show 8 - (k + 1) + 1 = 8 - k by omega]
      have es : tsum S t (8 - k) = tsum S t (8 - (k + 1)) + (if S.testBit (8 - (k + 1)) = true then t (8 - (k + 1)) else 0) := by
        rw [show 8 - k = (8 - (k + 1)) + 1 by omega]; rfl
      have := ih k (by omega) (by omega)
      rw [es] at this
      cases hb : S.testBit (8 - (k + 1)) with
      | false =>
        rw [hb, if_neg (by decide), Nat.add_zero] at this
        rw [if_neg (show ¬ false = true by decide), if_pos rfl]
        exact this
      | true =>
        rw [hb, if_pos rfl] at this
        rw [if_pos (show true = true from rfl), if_neg (by decide), if_pos (vin_nI hk (by omega)), nc _ (by omega), (ht _ hk (hsub _ hk hb)).1, nI_add, Nat.add_assoc]
        exact this
theorem x_prices (hS : S < 256) (hi : i < 8) (hsub : subS S sm) (hc : cnd sm S i = true) (ht : ∀ j, j < 8 → sm.testBit j = true → y8 j = nI (t j) ∧ t j ≤ 1000) (h4 : ∀ j, j < 8 → y4 j = nI (du j) ∧ du j ≤ 9999) (h5 : ∀ j, j < 8 → y5 j = nI (pc j) ∧ pc j ≤ 99) (h9 : y9 (S ||| 2 ^ i) = nI (bs (S ||| 2 ^ i))) : f_X2_pricesBy (nI S) (nI i) y4 y5 y8 y9 = some (nI (prc t du pc bs S i)) := by
  have hsmi : sm.testBit i = true := by
    unfold cnd at hc
    cases hb : sm.testBit i with
    | true => rfl
    | false => rw [hb] at hc; simp at hc
  unfold f_X2_pricesBy g_X2_pricesBy_0
  rw [if_pos (vin_nI hi (by omega)), nc i (by omega), (ht i hi hsmi).1]
  exact x_prices10 hS hi hsub hc ht h4 h5 h9 FU 8 (by omega) (by unfold FU; omega)
theorem m_price5 (hS : S < 256) (hi : i < 8) (hsub : subS S sm) (hc : cnd sm S i = true) {y60 y61 : Nat → Int32} (ht : ∀ j, j < 8 → sm.testBit j = true → y60 j = nI (t j) ∧ t j ≤ 1000) (h4 : ∀ j, j < 8 → y4 j = nI (du j) ∧ du j ≤ 9999) (h5 : ∀ j, j < 8 → y5 j = nI (pc j) ∧ pc j ≤ 99) (h9 : y61 (S ||| 2 ^ i) = nI (bs (S ||| 2 ^ i))) : ∀ (fu k : Nat), k ≤ 8 → k < fu → g_X12_priceBy_5 fu (nI S) (nI i) (nI (tsum (S ||| 2 ^ i) t (8 - k))) (nI (8 - k)) y4 y5 y60 y61 = some (nI (prc t du pc bs S i)) := by
  have hsmi : sm.testBit i = true := by
    unfold cnd at hc
    cases hb : sm.testBit i with
    | true => rfl
    | false => rw [hb] at hc; simp at hc
  intro fu
  induction fu with
  | zero => intro k h1 h2; omega
  | succ fu ih =>
    intro k h1 h2
    simp only [g_X12_priceBy_5]
    cases k with
    | zero =>
      have b1 := tsum_le (S := S ||| 2 ^ i) (t := t) (c := 1000) (fun j hj hb => (ht j hj (sub_or hsub hsmi j hj hb)).2) 8 (by omega)
      have b3 := (h4 i hi).2
      rw [if_pos c8_ge, if_pos (vin_nI hi (by omega)), nc i (by omega), (h4 i hi).1, show 8 - 0 = 8 from rfl, ite_le (by omega) (by omega)]
      have e61 : ∀ l : Nat, g_X12_priceBy_61 (nI S) (nI i) (nI l) y4 y5 y60 y61 = some (nI (pc i * l + bs (S ||| 2 ^ i))) := by
        intro l
        unfold g_X12_priceBy_61
        rw [if_pos (vin_nI hi (by omega)), or_nI S hi, if_pos (vin_nI (or_lt S hS i hi).1 (by omega)), nc i (by omega), nc _ (by have := (or_lt S hS i hi).1; omega), (h5 i hi).1, h9, pk_mul, nI_add, Nat.mul_comm l (pc i)]
      unfold prc
      by_cases hd : tsum (S ||| 2 ^ i) t 8 ≤ du i
      · rw [if_pos hd, show tsum (S ||| 2 ^ i) t 8 - du i = 0 by omega]
        exact e61 0
      · rw [if_neg hd, pk_sub (by omega)]
        exact e61 _
    | succ k =>
      have hk : 8 - (k + 1) < 8 := by omega
      rw [if_neg (c8_le hk), if_pos (vin_nI hk (by omega)), nc _ (by omega), or_nI S hi, bit_nI _ hk, nI_s, show 8 - (k + 1) + 1 = 8 - k by omega]
      have es : tsum (S ||| 2 ^ i) t (8 - k) = tsum (S ||| 2 ^ i) t (8 - (k + 1)) + (if (S ||| 2 ^ i).testBit (8 - (k + 1)) = true then t (8 - (k + 1)) else 0) := by
        rw [show 8 - k = (8 - (k + 1)) + 1 by omega]; rfl
      have := ih k (by omega) (by omega)
      rw [es] at this
      cases hb : (S ||| 2 ^ i).testBit (8 - (k + 1)) with
      | false =>
        rw [hb, if_neg (by decide), Nat.add_zero] at this
        rw [if_neg (show ¬ false = true by decide), Int32.zero_mul, Int32.add_zero]
        exact this
      | true =>
        rw [hb, if_pos rfl] at this
        rw [if_pos (show true = true from rfl), Int32.one_mul, (ht _ hk (sub_or hsub hsmi _ hk hb)).1, nI_add]
        exact this
theorem m_price (hS : S < 256) (hi : i < 8) (hsub : subS S sm) (hc : cnd sm S i = true) {y60 y61 : Nat → Int32} (ht : ∀ j, j < 8 → sm.testBit j = true → y60 j = nI (t j) ∧ t j ≤ 1000) (h4 : ∀ j, j < 8 → y4 j = nI (du j) ∧ du j ≤ 9999) (h5 : ∀ j, j < 8 → y5 j = nI (pc j) ∧ pc j ≤ 99) (h9 : y61 (S ||| 2 ^ i) = nI (bs (S ||| 2 ^ i))) : f_X12_priceBy (nI S) (nI i) y4 y5 y60 y61 = some (nI (prc t du pc bs S i)) :=
  m_price5 hS hi hsub hc ht h4 h5 h9 FU 8 (by omega) (by unfold FU; omega)
end PRC
/-! the first of the least -/
def fbA (C : Nat → Bool) (v : Nat → Nat) : Nat → Option Nat → Option Nat
  | 0, o => o
  | k + 1, o => fbA C v k (if C (7 - k) = true then (match o with | none => some (7 - k) | some a => if v (7 - k) < v a then some (7 - k) else some a) else o)
def oI : Option Nat → Int32
  | none => -1
  | some a => nI a
def mnA (C : Nat → Bool) (v : Nat → Nat) : Nat → Nat → Nat
  | 0, b => b
  | k + 1, b => mnA C v k (if C (7 - k) = true then min b (v (7 - k)) else b)
def fbI (C : Nat → Bool) (v : Nat → Nat) (k : Nat) : Option Nat → Prop
  | none => ∀ i, i < k → C i = false
  | some a => a < k ∧ C a = true ∧ (∀ i, i < k → C i = true → v a ≤ v i) ∧ ∀ i, i < a → C i = true → v a < v i
theorem fb_step {C : Nat → Bool} {v : Nat → Nat} {j : Nat} : ∀ (o : Option Nat), fbI C v j o → fbI C v (j + 1) (if C j = true then (match o with | none => some j | some a => if v j < v a then some j else some a) else o)
  | none, h => by
    cases hc : C j with
    | false =>
      rw [if_neg (by decide)]
      intro i hi
      rcases Nat.lt_or_ge i j with z | z
      · exact h i z
      · rw [show i = j by omega]; exact hc
    | true =>
      rw [if_pos rfl]
      refine ⟨by omega, hc, fun i hi hci => ?_, fun i hi hci => ?_⟩
      · rcases Nat.lt_or_ge i j with z | z
        · exact absurd ((h i z).symm.trans hci) (by decide)
        · rw [show i = j by omega]; exact Nat.le_refl _
      · exact absurd ((h i hi).symm.trans hci) (by decide)
  | some a, h => by
    obtain ⟨h1, h2, h3, h4⟩ := h
    cases hc : C j with
    | false =>
      rw [if_neg (by decide)]
      refine ⟨by omega, h2, fun i hi hci => ?_, h4⟩
      rcases Nat.lt_or_ge i j with z | z
      · exact h3 i z hci
      · rw [show i = j by omega] at hci; exact absurd (hc.symm.trans hci) (by decide)
    | true =>
      rw [if_pos rfl]
      show fbI C v (j + 1) (if v j < v a then some j else some a)
      by_cases hv : v j < v a
      · rw [if_pos hv]
        refine ⟨by omega, hc, fun i hi hci => ?_, fun i hi hci => ?_⟩
        · rcases Nat.lt_or_ge i j with z | z
          · have := h3 i z hci; omega
          · rw [show i = j by omega]; exact Nat.le_refl _
        · have := h3 i hi hci; omega
      · rw [if_neg hv]
        refine ⟨by omega, h2, fun i hi hci => ?_, h4⟩
        rcases Nat.lt_or_ge i j with z | z
        · exact h3 i z hci
        · rw [show i = j by omega]; omega
theorem fb_ok {C : Nat → Bool} {v : Nat → Nat} : ∀ (k : Nat) (o : Option Nat), k ≤ 8 → fbI C v (8 - k) o → fbI C v 8 (fbA C v k o)
  | 0, o, _, h => h
  | k + 1, o, hk, h => by
    have h1 := fb_step o h
    rw [show 8 - (k + 1) + 1 = 8 - k by omega, show 8 - (k + 1) = 7 - k by omega] at h1
    exact fb_ok k _ (by omega) h1
def oV (v : Nat → Nat) (b : Nat) : Option Nat → Nat
  | none => b
  | some a => v a
theorem mn_fb {C : Nat → Bool} {v : Nat → Nat} {b0 : Nat} (hb : ∀ i, i < 8 → C i = true → v i ≤ b0) : ∀ (k : Nat) (o : Option Nat), k ≤ 8 → mnA C v k (oV v b0 o) = oV v b0 (fbA C v k o)
  | 0, o, _ => rfl
  | k + 1, o, hk => by
    show mnA C v k _ = oV v b0 (fbA C v k _)
    rw [← mn_fb hb k _ (by omega)]
    congr 1
    cases hc : C (7 - k) with
    | false => rw [if_neg (by decide), if_neg (by decide)]
    | true =>
      rw [if_pos rfl, if_pos rfl]
      have h1 := hb (7 - k) (by omega) hc
      cases o with
      | none => show min b0 (v (7 - k)) = v (7 - k); omega
      | some a =>
        show min (v a) (v (7 - k)) = oV v b0 (if v (7 - k) < v a then some (7 - k) else some a)
        by_cases hv : v (7 - k) < v a
        · rw [if_pos hv]; show min (v a) (v (7 - k)) = v (7 - k); omega
        · rw [if_neg hv]; show min (v a) (v (7 - k)) = v a; omega
theorem x_firstB {sm S : Nat} {C : Nat → Bool} (hC : C = cnd sm S) {v : Nat → Nat} (hv : ∀ i, i < 8 → C i = true → v i < 2 ^ 31) {y4 y5 y8 y9 : Nat → Int32} (hp : ∀ i, i < 8 → C i = true → f_X2_pricesBy (nI S) (nI i) y4 y5 y8 y9 = some (nI (v i))) : ∀ (fu k : Nat) (o : Option Nat) (x4 : Int32), k ≤ 8 → k < fu → (∀ a, o = some a → a < 8 ∧ C a = true ∧ x4 = nI (v a)) → g_X2_firstBest_8 fu (nI sm) (nI S) (oI o) x4 (nI (8 - k)) y4 y5 y8 y9 = some (oI (fbA C v k o)) := by
  subst hC
  intro fu
  induction fu with
  | zero => intro k o x4 h1 h2; omega
  | succ fu ih =>
    intro k o x4 h1 h2 ho
    simp only [g_X2_firstBest_8]
    cases k with
    | zero => rw [if_pos c8_ge]; rfl
    | succ k =>
      have hk : 8 - (k + 1) < 8 := by omega
      have e7 : 8 - (k + 1) = 7 - k := by omega
      rw [if_neg (c8_le hk), bit_cnd sm S hk, nI_s, show 8 - (k + 1) + 1 = 8 - k by omega, e7]
      show _ = some (oI (fbA (cnd sm S) v k (if cnd sm S (7 - k) = true then _ else o)))
      cases hc : cnd sm S (7 - k) with
      | false =>
        rw [if_neg (show ¬ false = true by decide), if_pos rfl, if_neg (show ¬ false = true by decide)]
        exact ih k o x4 (by omega) (by omega) ho
      | true =>
        rw [if_pos (show true = true from rfl), if_neg (by decide), if_pos (show true = true from rfl), hp (7 - k) (by omega) hc, Option.bind_some]
        have e49 : g_X2_firstBest_49 (g_X2_firstBest_8 fu) (nI sm) (nI S) (nI (7 - k)) (nI (v (7 - k))) y4 y5 y8 y9 = some (oI (fbA (cnd sm S) v k (some (7 - k)))) := by
          unfold g_X2_firstBest_49
          rw [nI_s, show 7 - k + 1 = 8 - k by omega]
          exact ih k (some (7 - k)) _ (by omega) (by omega) (fun a ha => by
            have : 7 - k = a := Option.some.inj ha
            subst this
            exact ⟨by omega, hc, rfl⟩)
        cases o with
        | none => rw [if_pos (show oI none = -1 from rfl), e49]
        | some a =>
          obtain ⟨a1, a3, a2⟩ := ho a rfl
          have va := hv a a1 a3
          have v7 := hv (7 - k) (by omega) hc
          rw [if_neg (show ¬ oI (some a) = -1 from fun x => by
            have x : nI a = -1 := x
            rw [i_eq, nI_toInt (by omega)] at x
            have e2 : (-1 : Int32).toInt = -1 := rfl
            omega), a2, ite_le va v7]
          show _ = some (oI (fbA (cnd sm S) v k (if v (7 - k) < v a then some (7 - k) else some a)))
          by_cases hlt : v (7 - k) < v a
          · rw [if_neg (by omega), if_pos hlt, e49]
          · rw [if_pos (by omega), if_neg hlt]
            exact ih k (some a) _ (by omega) (by omega) (fun a' ha => by
              have : a = a' := Option.some.inj ha
              subst this
              exact ⟨a1, a3, rfl⟩)
