theorem fb_congr {C : Nat → Bool} {v v' : Nat → Nat} (h : ∀ i, i < 8 → C i = true → v i = v' i) : ∀ (k : Nat) (o : Option Nat), k ≤ 8 → (∀ a, o = some a → a < 8 ∧ C a = true) → fbA C v k o = fbA C v' k o
  | 0, o, _, _ => rfl
  | k + 1, o, hk, ho => by
    show fbA C v k _ = fbA C v' k _
    cases hc : C (7 - k) with
    | false =>
      rw [if_neg (by decide), if_neg (by decide)]
      exact fb_congr h k o (by omega) ho
    | true =>
      rw [if_pos rfl, if_pos rfl]
      cases o with
      | none => exact fb_congr h k _ (by omega) (fun a ha => by
          have : 7 - k = a := Option.some.inj ha
          subst this
          exact ⟨by omega, hc⟩)
      | some a =>
        obtain ⟨a1, a2⟩ := ho a rfl
        show fbA C v k (if v (7 - k) < v a then some (7 - k) else some a) = fbA C v' k (if v' (7 - k) < v' a then some (7 - k) else some a)
        rw [← h (7 - k) (by omega) hc, ← h a a1 a2]
        refine fb_congr h k _ (by omega) (fun a' ha => ?_)
        by_cases hv : v (7 - k) < v a
        · rw [if_pos hv] at ha
          have : 7 - k = a' := Option.some.inj ha
          subst this
          exact ⟨by omega, hc⟩
        · rw [if_neg hv] at ha
          have : a = a' := Option.some.inj ha
          subst this
          exact ⟨a1, a2⟩
def valB (t du pc bs : Nat → Nat) (sm S : Nat) : Nat := oV (prc t du pc bs S) 0 (fbA (cnd sm S) (prc t du pc bs S) 8 none)
theorem cnd_or {sm S i : Nat} (hS : S < 256) (hi : i < 8) (hc : cnd sm S i = true) : S < S ||| 2 ^ i ∧ (S ||| 2 ^ i) < 256 ∧ sm.testBit i = true ∧ S.testBit i = false := by
  unfold cnd at hc
  have h1 : sm.testBit i = true := by
    cases hb : sm.testBit i with
    | true => rfl
    | false => rw [hb] at hc; simp at hc
  have h2 : S.testBit i = false := by
    cases hb : S.testBit i with
    | false => rfl
    | true => rw [hb] at hc; simp at hc
  exact ⟨(or_lt S hS i hi).2 h2, (or_lt S hS i hi).1, h1, h2⟩
theorem fb_none8 (C : Nat → Bool) (v : Nat → Nat) : fbI C v 8 (fbA C v 8 none) := fb_ok 8 none (by omega) (fun i hi => absurd hi (by omega))
theorem val_congr {t du pc bs bs' : Nat → Nat} {sm S : Nat} (hS : S < 256) (h : ∀ S', S < S' → bs S' = bs' S') : valB t du pc bs sm S = valB t du pc bs' sm S := by
  have hv : ∀ i, i < 8 → cnd sm S i = true → prc t du pc bs S i = prc t du pc bs' S i := by
    intro i hi hc
    unfold prc
    rw [h _ (cnd_or hS hi hc).1]
  have e := fb_congr hv 8 none (by omega) (fun a ha => absurd ha (by simp))
  unfold valB
  rw [e]
  have hk := fb_none8 (cnd sm S) (prc t du pc bs' S)
  cases hr : fbA (cnd sm S) (prc t du pc bs' S) 8 none with
  | none => rfl
  | some a =>
    rw [hr] at hk
    exact hv a hk.1 hk.2.1
theorem sub_le {S sm : Nat} (hS : S < 256) (h : subS S sm) : S ≤ sm := by
  have e : S &&& sm = S := by
    apply Nat.eq_of_testBit_eq
    intro i
    rw [Nat.testBit_and]
    rcases Nat.lt_or_ge i 8 with z | z
    · cases hb : S.testBit i with
      | false => rfl
      | true => rw [h i z hb]; rfl
    · rw [big_bit hS z]; rfl
  rw [← e]
  exact Nat.and_le_right
theorem sub_eq {S sm : Nat} (hS : S < 256) (hsm : sm < 256) (h : subS S sm) (h2 : ∀ i, i < 8 → cnd sm S i = false) : S = sm := by
  apply Nat.le_antisymm (sub_le hS h)
  apply sub_le hsm
  intro i hi hb
  have := h2 i hi
  unfold cnd at this
  rw [hb, Bool.true_and, Bool.not_eq_false'] at this
  exact this
/-- the two rows of prices hold the same, from a set on -/
def WI (t du pc : Nat → Nat) (sm k : Nat) (bs : Nat → Nat) (y9 y61 : Nat → Int32) : Prop := ∀ S, k ≤ S → S < 256 → subS S sm → y9 S = nI (bs S) ∧ y61 S = nI (bs S) ∧ bs S ≤ 792000 * (255 - S) ∧ bs S = valB t du pc bs sm S
section WEIGH
variable {sm : Nat} {t du pc : Nat → Nat} {y4 y5 y8 y60 : Nat → Int32} {k4 k5 o25 o26 o27 o28 z35 z36 : Nat → Int32} {x37 x38 x39 x40 x41 x42 : Int32} {z43 : Nat → Int32} {x55 : Int32} {z56 z59 : Nat → Int32}
theorem prc_le (hS8 : ∀ j, j < 8 → sm.testBit j = true → t j ≤ 1000) (h5 : ∀ j, j < 8 → pc j ≤ 99) {bs : Nat → Nat} {S i : Nat} (hS : S < 256) (hsub : subS S sm) (hi : i < 8) (hc : cnd sm S i = true) (hb : bs (S ||| 2 ^ i) ≤ 792000 * (255 - (S ||| 2 ^ i))) : prc t du pc bs S i ≤ 792000 * (255 - S) := by
  obtain ⟨c1, c2, c3, c4⟩ := cnd_or hS hi hc
  have b1 := tsum_le (S := S ||| 2 ^ i) (t := t) (c := 1000) (fun j hj hbj => hS8 j hj (sub_or hsub c3 j hj hbj)) 8 (by omega)
  have b2 : pc i * (tsum (S ||| 2 ^ i) t 8 - du i) ≤ 99 * 8000 := Nat.mul_le_mul (h5 i hi) (by omega)
  unfold prc
  omega
theorem m_113 {v2 : Int32} {S : Nat} (hS : S < 256) {v : Nat → Nat} (hv : ∀ i, i < 8 → cnd sm S i = true → v i < 2 ^ 31) {y61 : Nat → Int32} (hp : ∀ i, i < 8 → cnd sm S i = true → f_X12_priceBy (nI S) (nI i) y4 y5 y60 y61 = some (nI (v i))) (kk : Int32 → Int32 → Int32 → (Nat → Int32) → (Nat → Int32) → (Nat → Int32) → (Nat → Int32) → (Nat → Int32) → (Nat → Int32) → (Nat → Int32) → (Nat → Int32) → Int32 → Int32 → Int32 → Int32 → Int32 → Int32 → (Nat → Int32) → Int32 → (Nat → Int32) → (Nat → Int32) → (Nat → Int32) → (Nat → Int32) → (Nat → Int32) → (Nat → Int32) → Option (Int32 × (Nat → Int32) × (Nat → Int32) × Int32 × Int32 × Int32 × Int32 × Int32 × Int32 × (Nat → Int32) × (Nat → Int32) × (Nat → Int32))) : ∀ (fu k b : Nat), k ≤ 8 → k < fu → b < 2 ^ 31 → g_X12_order_113 kk fu (nI sm) v2 (nI S) (nI b) (nI (8 - k)) k4 k5 o25 o26 o27 o28 z35 z36 x37 x38 x39 x40 x41 x42 z43 x55 z56 y4 y5 z59 y60 y61 = kk (nI sm) v2 (nI S + (-1)) k4 k5 o25 o26 o27 o28 z35 z36 x37 x38 x39 x40 x41 x42 z43 x55 z56 y4 y5 z59 y60 (upd y61 S (nI (mnA (cnd sm S) v k b))) := by
  intro fu
  induction fu with
  | zero => intro k b h1 h2; omega
  | succ fu ih =>
    intro k b h1 h2 hb
    simp only [g_X12_order_113]
    cases k with
    | zero => rw [if_pos c8_ge, if_pos (vin_nI hS (by omega)), nc S (by omega)]; rfl
    | succ k =>
      have hk : 8 - (k + 1) < 8 := by omega
      have e7 : 8 - (k + 1) = 7 - k := by omega
      rw [if_neg (c8_le hk), bit_cnd sm S hk, nI_s, show 8 - (k + 1) + 1 = 8 - k by omega, e7]
      show _ = kk (nI sm) v2 (nI S + (-1)) k4 k5 o25 o26 o27 o28 z35 z36 x37 x38 x39 x40 x41 x42 z43 x55 z56 y4 y5 z59 y60 (upd y61 S (nI (mnA (cnd sm S) v k (if cnd sm S (7 - k) = true then min b (v (7 - k)) else b))))
      cases hc : cnd sm S (7 - k) with
      | false =>
        rw [if_neg (show ¬ false = true by decide), if_neg (by decide), if_neg (show ¬ false = true by decide)]
        exact ih k b (by omega) (by omega) hb
      | true =>
        rw [if_pos (show true = true from rfl), if_pos rfl, if_pos (show true = true from rfl), hp (7 - k) (by omega) hc, Option.bind_some, m_min _ _ hb (hv _ (by omega) hc), Option.bind_some]
        exact ih k _ (by omega) (by omega) (by omega)
theorem weigh_both (hsm : sm < 256) {v2 : Int32} (ht : ∀ j, j < 8 → sm.testBit j = true → y8 j = nI (t j) ∧ t j ≤ 1000) (ht' : ∀ j, j < 8 → sm.testBit j = true → y60 j = nI (t j) ∧ t j ≤ 1000) (h4 : ∀ j, j < 8 → y4 j = nI (du j) ∧ du j ≤ 9999) (h5 : ∀ j, j < 8 → y5 j = nI (pc j) ∧ pc j ≤ 99) : ∀ (fu k : Nat) (bs : Nat → Nat) (y9 y61 : Nat → Int32), k ≤ 256 → k < fu → WI t du pc sm k bs y9 y61 →
    ∃ (bs' : Nat → Nat) (y9' y61' : Nat → Int32), g_X2_weigh_2 fu (nI sm) (nI k - 1) y4 y5 y8 y9 = some y9' ∧ g_X12_order_81 fu (nI sm) v2 (nI k - 1) k4 k5 o25 o26 o27 o28 z35 z36 x37 x38 x39 x40 x41 x42 z43 x55 z56 y4 y5 z59 y60 y61 = (if v2 = -1 then some (y61' 0, z35, z36, x37, x38, x39, x40, x41, x42, z43, y60, y61') else g_X12_order_185 FU (nI sm) v2 0 0 k4 k5 o25 o26 o27 o28 z35 z36 x37 x38 x39 x40 x41 x42 z43 x55 z56 y4 y5 z59 y60 y61') ∧ WI t du pc sm 0 bs' y9' y61' := by
  intro fu
  induction fu with
  | zero => intro k bs y9 y61 h1 h2; omega
  | succ fu ih =>
    intro k bs y9 y61 h1 h2 hW
    simp only [g_X2_weigh_2, g_X12_order_81]
    cases k with
    | zero =>
      rw [if_pos (by decide), if_pos (by decide)]
      exact ⟨bs, y9, y61, rfl, rfl, hW⟩
    | succ k =>
      have hk : k < 256 := by omega
      rw [show nI (k + 1) - 1 = nI k from nI_m (by omega), if_neg (c0_lt (by omega)), if_neg (c0_lt (by omega)), nI_neg1]
      by_cases hs : subS k sm
      · rw [if_pos ((sub_iff hk).mpr hs), if_pos ((sub_iff hk).mpr hs)]
        have hnx : ∀ i, i < 8 → cnd sm k i = true → y9 (k ||| 2 ^ i) = nI (bs (k ||| 2 ^ i)) ∧ y61 (k ||| 2 ^ i) = nI (bs (k ||| 2 ^ i)) ∧ bs (k ||| 2 ^ i) ≤ 792000 * (255 - (k ||| 2 ^ i)) := by
          intro i hi hc
          obtain ⟨c1, c2, c3, c4⟩ := cnd_or hk hi hc
          obtain ⟨w1, w2, w3, -⟩ := hW _ (by omega) c2 (sub_or hs c3)
          exact ⟨w1, w2, w3⟩
        have hple : ∀ i, i < 8 → cnd sm k i = true → prc t du pc bs k i ≤ 792000 * (255 - k) := fun i hi hc => prc_le (fun j hj hb => (ht j hj hb).2) (fun j hj => (h5 j hj).2) hk hs hi hc (hnx i hi hc).2.2
        have hpx : ∀ i, i < 8 → cnd sm k i = true → f_X2_pricesBy (nI k) (nI i) y4 y5 y8 y9 = some (nI (prc t du pc bs k i)) := fun i hi hc => x_prices hk hi hs hc ht h4 h5 (hnx i hi hc).1
        have hpm : ∀ i, i < 8 → cnd sm k i = true → f_X12_priceBy (nI k) (nI i) y4 y5 y60 y61 = some (nI (prc t du pc bs k i)) := fun i hi hc => m_price hk hi hs hc ht' h4 h5 (hnx i hi hc).2.1
        have efb : f_X2_firstBest (nI sm) (nI k) y4 y5 y8 y9 = some (oI (fbA (cnd sm k) (prc t du pc bs k) 8 none)) := x_firstB rfl (fun i hi hc => by have := hple i hi hc; omega) hpx FU 8 none 0 (by omega) (by unfold FU; omega) (fun a ha => absurd ha (by simp))
        rw [efb, Option.bind_some]
        have hfb := fb_none8 (cnd sm k) (prc t du pc bs k)
        have hval : valB t du pc bs sm k = oV (prc t du pc bs k) 0 (fbA (cnd sm k) (prc t du pc bs k) 8 none) := rfl
        -- the reference
        have hM : ∀ b0 : Nat, (∀ i, i < 8 → cnd sm k i = true → prc t du pc bs k i ≤ b0) → b0 < 2 ^ 31 → oV (prc t du pc bs k) b0 (fbA (cnd sm k) (prc t du pc bs k) 8 none) = valB t du pc bs sm k → g_X12_order_113 (g_X12_order_81 fu) FU (nI sm) v2 (nI k) (nI b0) 0 k4 k5 o25 o26 o27 o28 z35 z36 x37 x38 x39 x40 x41 x42 z43 x55 z56 y4 y5 z59 y60 y61 = g_X12_order_81 fu (nI sm) v2 (nI k - 1) k4 k5 o25 o26 o27 o28 z35 z36 x37 x38 x39 x40 x41 x42 z43 x55 z56 y4 y5 z59 y60 (upd y61 k (nI (valB t du pc bs sm k))) := by
          intro b0 hb0 hlt he
          have := m_113 (z59 := z59) (k4 := k4) (k5 := k5) (o25 := o25) (o26 := o26) (o27 := o27) (o28 := o28) (z35 := z35) (z36 := z36) (x37 := x37) (x38 := x38) (x39 := x39) (x40 := x40) (x41 := x41) (x42 := x42) (z43 := z43) (x55 := x55) (z56 := z56) (v2 := v2) hk (fun i hi hc => by have := hple i hi hc; omega) hpm (g_X12_order_81 fu) FU 8 b0 (by omega) (by unfold FU; omega) hlt
          have e2 := mn_fb hb0 8 none (by omega)
          have e2 : mnA (cnd sm k) (prc t du pc bs k) 8 b0 = _ := e2
          rw [e2, he, nI_neg1] at this
          exact this
        have eM : (if nI k = nI sm then g_X12_order_113 (g_X12_order_81 fu) FU (nI sm) v2 (nI k) 0 0 k4 k5 o25 o26 o27 o28 z35 z36 x37 x38 x39 x40 x41 x42 z43 x55 z56 y4 y5 z59 y60 y61 else g_X12_order_113 (g_X12_order_81 fu) FU (nI sm) v2 (nI k) 1000000000 0 k4 k5 o25 o26 o27 o28 z35 z36 x37 x38 x39 x40 x41 x42 z43 x55 z56 y4 y5 z59 y60 y61) = g_X12_order_81 fu (nI sm) v2 (nI k - 1) k4 k5 o25 o26 o27 o28 z35 z36 x37 x38 x39 x40 x41 x42 z43 x55 z56 y4 y5 z59 y60 (upd y61 k (nI (valB t du pc bs sm k))) := by
          rw [ite_eq (by omega) (by omega)]
          by_cases hks : k = sm
          · rw [if_pos hks]
            have hnc : ∀ i, i < 8 → ¬ cnd sm k i = true := by
              intro i hi hc
              obtain ⟨-, -, c3, c4⟩ := cnd_or hk hi hc
              rw [hks] at c4
              exact absurd (c4.symm.trans c3) (by decide)
            exact hM 0 (fun i hi hc => absurd hc (hnc i hi)) (by omega) rfl
          · rw [if_neg hks]
            have := hM 1000000000 (fun i hi hc => by have := hple i hi hc; omega) (by omega) (by
              rw [hval]
              cases hr : fbA (cnd sm k) (prc t du pc bs k) 8 none with
              | none =>
                rw [hr] at hfb
                exact absurd (sub_eq hk hsm hs hfb) hks
              | some a => rfl)
            exact this
        rw [eM]
        have hXe : (if oI (fbA (cnd sm k) (prc t du pc bs k) 8 none) = -1 then (if vin (nI k) 256 = true then g_X2_weigh_2 fu (nI sm) (nI k - 1) y4 y5 y8 (upd y9 (nI k).toNatClampNeg 0) else none) else (f_X2_pricesBy (nI k) (oI (fbA (cnd sm k) (prc t du pc bs k) 8 none)) y4 y5 y8 y9).bind (fun u2 => (if vin (nI k) 256 = true then g_X2_weigh_2 fu (nI sm) (nI k - 1) y4 y5 y8 (upd y9 (nI k).toNatClampNeg u2) else none))) = g_X2_weigh_2 fu (nI sm) (nI k - 1) y4 y5 y8 (upd y9 k (nI (valB t du pc bs sm k))) := by
          rw [hval]
          cases hr : fbA (cnd sm k) (prc t du pc bs k) 8 none with
          | none => rw [if_pos (show oI none = -1 from rfl), if_pos (vin_nI hk (by omega)), nc k (by omega)]; rfl
          | some a =>
            rw [hr] at hfb
            have hfb1 := hfb.1
            rw [if_neg (show ¬ oI (some a) = -1 from fun x => by
              have x : nI a = -1 := x
              rw [i_eq, nI_toInt (by omega)] at x
              have e2 : (-1 : Int32).toInt = -1 := rfl
              omega)]
            show (f_X2_pricesBy (nI k) (nI a) y4 y5 y8 y9).bind _ = _
            rw [hpx a hfb.1 hfb.2.1, Option.bind_some, if_pos (vin_nI hk (by omega)), nc k (by omega)]
            rfl
        rw [hXe]
        refine ih k (updN bs k (valB t du pc bs sm k)) _ _ (by omega) (by omega) (fun S hS1 hS2 hS3 => ?_)
        by_cases hSk : S = k
        · subst hSk
          rw [upd_same, upd_same, updN_same]
          refine ⟨rfl, rfl, ?_, ?_⟩
          · rw [hval]
            cases hr : fbA (cnd sm S) (prc t du pc bs S) 8 none with
            | none => exact Nat.zero_le _
            | some a =>
              rw [hr] at hfb
              exact hple a hfb.1 hfb.2.1
          · exact val_congr hS2 (fun S' hS' => by rw [updN_ne (by omega)])
        · rw [upd_ne hSk, upd_ne hSk, updN_ne hSk]
          obtain ⟨w1, w2, w3, w4⟩ := hW S (by omega) hS2 hS3
          refine ⟨w1, w2, w3, ?_⟩
          rw [w4]
          exact val_congr hS2 (fun S' hS' => by rw [updN_ne (by omega)])
      · rw [if_neg (fun h => hs ((sub_iff hk).mp h)), if_neg (fun h => hs ((sub_iff hk).mp h))]
        refine ih k bs y9 y61 (by omega) (by omega) (fun S hS1 hS2 hS3 => ?_)
        rcases Nat.lt_or_ge k S with z | z
        · exact hW S (by omega) hS2 hS3
        · rw [show S = k by omega] at hS3; exact absurd hS3 hs
theorem m_188 {v2 v4 : Int32} {S a : Nat} (hS : S < 256) (ha : a < 8) {v : Nat → Nat} {y61 : Nat → Int32} (hv : ∀ i, i ≤ a → cnd sm S i = true → v i < 2 ^ 31) (hp : ∀ i, i < 8 → cnd sm S i = true → f_X12_priceBy (nI S) (nI i) y4 y5 y60 y61 = some (nI (v i))) (hc : cnd sm S a = true) (hlt : ∀ i, i < a → cnd sm S i = true → v a < v i) (h61 : y61 S = nI (v a)) (kk : Int32 → Int32 → Int32 → Int32 → (Nat → Int32) → (Nat → Int32) → (Nat → Int32) → (Nat → Int32) → (Nat → Int32) → (Nat → Int32) → (Nat → Int32) → (Nat → Int32) → Int32 → Int32 → Int32 → Int32 → Int32 → Int32 → (Nat → Int32) → Int32 → (Nat → Int32) → (Nat → Int32) → (Nat → Int32) → (Nat → Int32) → (Nat → Int32) → (Nat → Int32) → Option (Int32 × (Nat → Int32) × (Nat → Int32) × Int32 × Int32 × Int32 × Int32 × Int32 × Int32 × (Nat → Int32) × (Nat → Int32) × (Nat → Int32))) : ∀ (fu i : Nat), i ≤ a → a - i < fu → g_X12_order_188 kk fu (nI sm) v2 (nI S) v4 (nI i) k4 k5 o25 o26 o27 o28 z35 z36 x37 x38 x39 x40 x41 x42 z43 x55 z56 y4 y5 z59 y60 y61 = (if v4 = v2 then some (nI a, z35, z36, x37, x38, x39, x40, x41, x42, z43, y60, y61) else kk (nI sm) v2 (nI (S ||| 2 ^ a)) (v4 + 1) k4 k5 o25 o26 o27 o28 z35 z36 x37 x38 x39 x40 x41 x42 z43 x55 z56 y4 y5 z59 y60 y61) := by
  intro fu
  induction fu with
  | zero => intro i h1 h2; omega
  | succ fu ih =>
    intro i h1 h2
    simp only [g_X12_order_188]
    rw [bit_cnd sm S (show i < 8 by omega)]
    by_cases hia : i = a
    · subst hia
      rw [if_pos hc, if_neg (by decide), hp i ha hc, Option.bind_some, if_pos (vin_nI hS (by omega)), nc S (by omega), h61, if_pos rfl, or_nI S ha]
    · cases hci : cnd sm S i with
      | false =>
        rw [if_neg (show ¬ false = true by decide), if_pos rfl, nI_s]
        exact ih (i + 1) (by omega) (by omega)
      | true =>
        have h3 := hlt i (by omega) hci
        have h4 := hv i (by omega) hci
        rw [if_pos (show true = true from rfl), if_neg (by decide), hp i (by omega) hci, Option.bind_some, if_pos (vin_nI hS (by omega)), nc S (by omega), h61, ite_eq (by omega) (by omega), if_neg (by omega), nI_s]
        exact ih (i + 1) (by omega) (by omega)
theorem place_both (hsm : sm < 256) {pl : Nat} (hpl : pl < tsum sm (fun _ => 1) 8) {bs : Nat → Nat} {y9 y61 : Nat → Int32} (ht : ∀ j, j < 8 → sm.testBit j = true → y8 j = nI (t j) ∧ t j ≤ 1000) (ht' : ∀ j, j < 8 → sm.testBit j = true → y60 j = nI (t j) ∧ t j ≤ 1000) (h4 : ∀ j, j < 8 → y4 j = nI (du j) ∧ du j ≤ 9999) (h5 : ∀ j, j < 8 → y5 j = nI (pc j) ∧ pc j ≤ 99) (hW : WI t du pc sm 0 bs y9 y61) : ∀ (fu fu' r k S : Nat) (last : Int32), k + r = pl → r + 1 < fu → r < fu' → S < 256 → subS S sm → tsum S (fun _ => 1) 8 = k →
    ∃ (ans : Int32), g_X2_placed_8 fu (nI sm) (nI pl) (nI S) last (nI k) y4 y5 y8 y9 = some ans ∧ ∃ u, g_X12_order_185 fu' (nI sm) (nI pl) (nI S) (nI k) k4 k5 o25 o26 o27 o28 z35 z36 x37 x38 x39 x40 x41 x42 z43 x55 z56 y4 y5 z59 y60 y61 = some u ∧ u.1 = ans := by
  have hpl8 : pl < 8 := by
    have := tsum_le (S := sm) (t := fun _ => 1) (c := 1) (fun j _ _ => Nat.le_refl _) 8 (by omega)
    omega
  intro fu
  induction fu with
  | zero => intro fu' r k S last h1 h2; omega
  | succ fu ih =>
    intro fu' r k S last h1 h2 h3 hS hs hcnt
    have hnx : ∀ i, i < 8 → cnd sm S i = true → y9 (S ||| 2 ^ i) = nI (bs (S ||| 2 ^ i)) ∧ y61 (S ||| 2 ^ i) = nI (bs (S ||| 2 ^ i)) ∧ bs (S ||| 2 ^ i) ≤ 792000 * (255 - (S ||| 2 ^ i)) := by
      intro i hi hc
      obtain ⟨c1, c2, c3, c4⟩ := cnd_or hS hi hc
      obtain ⟨w1, w2, w3, -⟩ := hW _ (Nat.zero_le _) c2 (sub_or hs c3)
      exact ⟨w1, w2, w3⟩
    have hple : ∀ i, i < 8 → cnd sm S i = true → prc t du pc bs S i ≤ 792000 * (255 - S) := fun i hi hc => prc_le (fun j hj hb => (ht j hj hb).2) (fun j hj => (h5 j hj).2) hS hs hi hc (hnx i hi hc).2.2
    have hpx : ∀ i, i < 8 → cnd sm S i = true → f_X2_pricesBy (nI S) (nI i) y4 y5 y8 y9 = some (nI (prc t du pc bs S i)) := fun i hi hc => x_prices hS hi hs hc ht h4 h5 (hnx i hi hc).1
    have hpm : ∀ i, i < 8 → cnd sm S i = true → f_X12_priceBy (nI S) (nI i) y4 y5 y60 y61 = some (nI (prc t du pc bs S i)) := fun i hi hc => m_price hS hi hs hc ht' h4 h5 (hnx i hi hc).2.1
    have efb : f_X2_firstBest (nI sm) (nI S) y4 y5 y8 y9 = some (oI (fbA (cnd sm S) (prc t du pc bs S) 8 none)) := x_firstB rfl (fun i hi hc => by have := hple i hi hc; omega) hpx FU 8 none 0 (by omega) (by unfold FU; omega) (fun a ha => absurd ha (by simp))
    have hfb := fb_none8 (cnd sm S) (prc t du pc bs S)
    obtain ⟨-, w2, -, w4⟩ := hW S (Nat.zero_le _) hS hs
    have hval : valB t du pc bs sm S = oV (prc t du pc bs S) 0 (fbA (cnd sm S) (prc t du pc bs S) 8 none) := rfl
    simp only [g_X2_placed_8]
    rw [ite_lt (by omega) (by omega), if_neg (by omega), if_neg (c8_le (by omega)), efb, Option.bind_some]
    cases hr : fbA (cnd sm S) (prc t du pc bs S) 8 none with
    | none =>
      rw [hr] at hfb
      have := sub_eq hS hsm hs hfb
      subst this
      omega
    | some a =>
      rw [hr] at hfb hval
      obtain ⟨a1, a2, a3, a4⟩ := hfb
      obtain ⟨c1, c2, c3, c4⟩ := cnd_or hS a1 a2
      have h61 : y61 S = nI (prc t du pc bs S a) := by rw [w2, w4, hval]; rfl
      obtain ⟨fu2, rfl⟩ : ∃ fu2, fu' = fu2 + 1 := ⟨fu' - 1, by omega⟩
      have e188 : g_X12_order_185 (fu2 + 1) (nI sm) (nI pl) (nI S) (nI k) k4 k5 o25 o26 o27 o28 z35 z36 x37 x38 x39 x40 x41 x42 z43 x55 z56 y4 y5 z59 y60 y61 = _ := m_188 (v2 := nI pl) (v4 := nI k) hS a1 (fun i hi hc => by have := hple i (by omega) hc; omega) hpm a2 a4 h61 (g_X12_order_185 fu2) FU 0 (Nat.zero_le _) (by unfold FU; omega)
      rw [e188, if_neg (show ¬ oI (some a) = -1 from fun x => by
        have x : nI a = -1 := x
        rw [i_eq, nI_toInt (by omega)] at x
        have e2 : (-1 : Int32).toInt = -1 := rfl
        omega), ite_eq (by omega) (by omega), nI_s]
      show ∃ ans, g_X2_placed_8 fu (nI sm) (nI pl) (nI S ||| (1 <<< (nI a &&& 31))) (nI a) (nI (k + 1)) y4 y5 y8 y9 = some ans ∧ _
      rw [or_nI S a1]
      by_cases hkp : k = pl
      · rw [if_pos hkp]
        obtain ⟨fu3, rfl⟩ : ∃ fu3, fu = fu3 + 1 := ⟨fu - 1, by omega⟩
        refine ⟨nI a, ?_, _, rfl, rfl⟩
        simp only [g_X2_placed_8]
        rw [ite_lt (by omega) (by omega), if_pos (by omega)]
      · rw [if_neg hkp]
        cases r with
        | zero => omega
        | succ r =>
          exact ih fu2 r (k + 1) (S ||| 2 ^ a) (nI a) (by omega) (by omega) (by omega) c2 (sub_or hs c3) (by rw [tsum_or _ c4, if_pos a1, hcnt])
end WEIGH
