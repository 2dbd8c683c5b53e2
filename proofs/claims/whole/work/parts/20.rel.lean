/-! the relation between the class's state and the reference's -/
/-- a recipe as rows of (what, first, second); what: 0 dip, 1 take, 2 pour, 3 half, 4 test, 5 goes, 6 ends -/
abbrev PG : Type := Nat → Nat × Nat × Nat
def chf (n : Nat) (P : PG) : Nat → Nat → Nat
  | 0, i => i
  | k + 1, i => if i < n ∧ (P i).1 = 5 then chf n P k (P i).2.2 else i
def PWf (n : Nat) (P : PG) : Prop := ∀ i, i < n → (P i).1 ≤ 6 ∧ ((P i).1 ≤ 4 → (P i).2.1 < 6) ∧ ((P i).1 ≤ 3 → (P i).2.2 < 6) ∧ ((P i).1 = 4 → (P i).2.2 ≤ n) ∧ ((P i).1 = 5 → ((P i).2.2 < n ∧ (P (P i).2.2).1 = 4) ∨ (i < (P i).2.2 ∧ (P i).2.2 ≤ n))
def xop (o : Nat) : Nat := if o = 5 then 6 else if o = 6 then 5 else o
/-- the class's rows hold the recipe -/
def RX (n : Nat) (P : PG) (c f s nx ot : Nat → Int32) : Prop := ∀ i, i < n → c i = nI (xop (P i).1) ∧ ((P i).1 ≤ 4 → f i = nI (P i).2.1) ∧ ((P i).1 ≤ 3 → s i = nI (P i).2.2) ∧ nx i = nI (chf n P n (i + 1)) ∧ ((P i).1 = 4 → ot i = nI (chf n P n (P i).2.2))
/-- the reference's rows hold it, from place 160 w on -/
def RMo (w n : Nat) (P : PG) (op a b : Nat → Int32) : Prop := ∀ i, i < n → op (160 * w + i) = nI (P i).1 ∧ a (160 * w + i) = nI (P i).2.1 ∧ b (160 * w + i) = nI (P i).2.2
/-- no run stands at a goes at its beginning -/
def stp0 (n : Nat) (P : PG) : Prop := ¬ (0 < n ∧ (P 0).1 = 5)
def RR (w : Nat) (c f s nx ot : Nat → Int32) (sz ac : Int32) (op a b lo ai : Nat → Int32) : Prop := ∃ (n : Nat) (P : PG), n ≤ 120 ∧ sz = nI n ∧ lo w = nI n ∧ ac = ai w ∧ PWf n P ∧ stp0 n P ∧ RX n P c f s nx ot ∧ RMo w n P op a b
/-- a spec as rows of (what, value); what as the reference has it: 0 number, 1 letter, 2 + 3 - 4 * 5 / 6 % 7 < 8 > 9 = 10 not 11 if-not 12 if -/
abbrev SG : Type := Nat → Nat × Nat
def xsp (o : Nat) : Nat := if o = 0 then 0 else if o = 1 then 1 else if o = 2 then 43 else if o = 3 then 45 else if o = 4 then 42 else if o = 5 then 47 else if o = 6 then 37 else if o = 7 then 60 else if o = 8 then 62 else if o = 9 then 61 else if o = 10 then 2 else if o = 11 then 3 else 4
/-- how deep the heap of numbers stands at each place, and whether its one value is a truth -/
def SWf (n : Nat) (P : SG) (d : Nat → Nat) (bo : Nat → Bool) : Prop := (0 < n → d 0 = 0 ∧ bo 0 = false ∧ d n = 1 ∧ bo n = true) ∧ ∀ i, i < n →
  (P i).1 ≤ 12 ∧
  ((P i).1 = 0 → (P i).2 < 100000 ∧ d (i + 1) = d i + 1 ∧ bo i = false ∧ bo (i + 1) = false) ∧
  ((P i).1 = 1 → (P i).2 < 16 ∧ d (i + 1) = d i + 1 ∧ bo i = false ∧ bo (i + 1) = false) ∧
  (2 ≤ (P i).1 ∧ (P i).1 ≤ 6 → (P i).2 = 0 ∧ 2 ≤ d i ∧ d (i + 1) + 1 = d i ∧ bo i = false ∧ bo (i + 1) = false) ∧
  (7 ≤ (P i).1 ∧ (P i).1 ≤ 9 → (P i).2 = 0 ∧ d i = 2 ∧ d (i + 1) = 1 ∧ bo i = false ∧ bo (i + 1) = true) ∧
  ((P i).1 = 10 → (P i).2 = 0 ∧ d i = 1 ∧ d (i + 1) = 1 ∧ bo i = true ∧ bo (i + 1) = true) ∧
  (11 ≤ (P i).1 → i < (P i).2 ∧ (P i).2 ≤ n ∧ d i = 1 ∧ bo i = true ∧ d (i + 1) = 0 ∧ bo (i + 1) = false ∧ d (P i).2 = 1 ∧ bo (P i).2 = true)
def RS (c wi : Nat → Int32) (sz : Int32) (co : Nat → Int32) (sm : Int32) : Prop := ∃ (n : Nat) (P : SG) (d : Nat → Nat) (bo : Nat → Bool), n ≤ 120 ∧ sz = nI n ∧ sm = nI n ∧ SWf n P d bo ∧ (∀ i, i < n → c i = nI (xsp (P i).1) ∧ ((P i).1 ≤ 1 ∨ 11 ≤ (P i).1 → wi i = nI (P i).2)) ∧ ∀ i, i < n → co i = nI (1048576 * (P i).1 + (P i).2)
def inR (lo hi x : Int32) : Prop := lo ≤ x ∧ x ≤ hi
/-- the vats -/
def RV (k b m : Nat → Int32) (rest : Int32) : Prop := (∀ j, j < 6 → inR 0 3 (k j) ∧ inR 0 99 (b j) ∧ inR 0 (b j) (m j)) ∧ isB rest ∧ (rest = 0 → ∀ j, j < 6 → ¬ k j = 1 ∧ ¬ k j = 3)
/-- the acts' table of the class's paths -/
def RP (it fi se : Nat → Int32) : Prop := ∀ a, a < 84 → it a = (if a < 6 then 0 else if a < 12 then 1 else if a < 48 then 2 else 3) ∧ fi a = nI (if a < 12 then a % 6 else (a - 12) % 36 / 6) ∧ se a = nI (if a < 12 then 0 else (a - 12) % 36 % 6)
def Rel (S : XS) (T : MS) : Prop :=
  -- tape
  ((S 1).2 0 = T.2.1 7 ∧ (S 1).1 1 = T.1 8 ∧ (∃ n : Nat, n ≤ 160 ∧ T.1 8 = nI n) ∧ ∀ j, inR (-128) 127 (T.2.1 7 j)) ∧
  -- vats
  ((S 2).2 0 = T.2.1 4 ∧ (S 2).2 1 = T.2.1 5 ∧ (S 2).2 2 = T.2.1 6 ∧ RV (T.2.1 4) (T.2.1 5) (T.2.1 6) ((S 2).1 3)) ∧
  -- recipes
  (RR 0 ((S 3).2 0) ((S 3).2 1) ((S 3).2 2) ((S 3).2 3) ((S 3).2 4) ((S 3).1 5) ((S 3).1 6) (T.2.1 25) (T.2.1 26) (T.2.1 27) (T.2.1 28) (T.2.1 29) ∧
   RR 1 ((S 4).2 0) ((S 4).2 1) ((S 4).2 2) ((S 4).2 3) ((S 4).2 4) ((S 4).1 5) ((S 4).1 6) (T.2.1 25) (T.2.1 26) (T.2.1 27) (T.2.1 28) (T.2.1 29) ∧
   RR 2 ((S 5).2 0) ((S 5).2 1) ((S 5).2 2) ((S 5).2 3) ((S 5).2 4) ((S 5).1 5) ((S 5).1 6) (T.2.1 25) (T.2.1 26) (T.2.1 27) (T.2.1 28) (T.2.1 29)) ∧
  -- spec
  RS ((S 7).2 0) ((S 7).2 1) ((S 7).1 2) (T.2.1 19) (T.1 16) ∧
  -- paths
  RP ((S 14).2 6) ((S 14).2 7) ((S 14).2 8) ∧
  -- market
  ((S 15).2 3 = T.2.1 56 ∧ (S 15).2 4 = T.2.1 57 ∧ (S 15).2 5 = T.2.1 58 ∧ (S 15).2 6 = T.2.1 59 ∧ (S 15).1 10 = T.1 55 ∧ inR 0 255 (T.1 55) ∧ (∀ j, inR 0 2 (T.2.1 56 j) ∧ inR 0 9999 (T.2.1 57 j) ∧ inR 0 99 (T.2.1 58 j) ∧ inR 0 99 (T.2.1 59 j))) ∧
  -- the books
  ((S 16).1 1 = T.1 1 ∧ (S 16).1 2 = T.1 2 ∧ (S 16).1 3 = T.1 3 ∧ (S 16).1 4 = T.1 0 ∧ inR 0 65535 (T.1 0) ∧ inR 0 1008 (T.1 3)) ∧
  -- what is kept
  ((S 0).1 15 = T.1 62 ∧ isB (T.1 62) ∧ (T.1 62 = 1 → (S 17).1 1 = T.1 64 ∧ (S 17).1 2 = T.1 65 ∧ (S 17).1 3 = T.1 66 ∧ (S 17).1 4 = T.1 63 ∧ inR 0 65535 (T.1 63) ∧ inR 0 1008 (T.1 66) ∧ ∀ j, j < 6 → (S 17).2 0 j = T.2.1 67 j ∧ inR 0 99 (T.2.1 67 j)))
/-! numbers -/
theorem i_lt {a b : Int32} : a < b ↔ a.toInt < b.toInt := Int32.lt_iff_toInt_lt
theorem i_le {a b : Int32} : a ≤ b ↔ a.toInt ≤ b.toInt := Int32.le_iff_toInt_le
theorem i_eq {a b : Int32} : a = b ↔ a.toInt = b.toInt := Int32.toInt_inj.symm
theorem w_in (a b c : Int32) : f_X11_within a b c = some (if b ≤ a ∧ a ≤ c then 1 else 0) := by
  show (if a < b then some 0 else (if c < a then some 0 else some 1)) = _
  by_cases h1 : a < b
  · rw [if_pos h1, if_neg (by rw [i_lt] at h1; rw [i_le, i_le]; omega)]
  · by_cases h2 : c < a
    · rw [if_neg h1, if_pos h2, if_neg (by rw [i_lt] at h2; rw [i_le, i_le]; omega)]
    · rw [if_neg h1, if_neg h2, if_pos (by rw [i_lt] at h1 h2; rw [i_le, i_le]; omega)]
theorem m_in (a b c : Int32) : f_X12_in a b c = some (if b ≤ a ∧ a ≤ c then 1 else 0) := w_in a b c
theorem m_isVat (a : Int32) : f_X12_isVat a = some (if 0 ≤ a ∧ a ≤ 5 then 1 else 0) := by
  show (if a < 0 then some 0 else (if 6 ≤ a then some 0 else some 1)) = _
  have e0 : (0 : Int32).toInt = 0 := rfl
  have e5 : (5 : Int32).toInt = 5 := rfl
  have e6 : (6 : Int32).toInt = 6 := rfl
  simp only [i_lt, i_le, e0, e5, e6]
  by_cases h1 : a.toInt < 0
  · rw [if_pos h1, if_neg (by omega)]
  · by_cases h2 : (6 : Int) ≤ a.toInt
    · rw [if_neg h1, if_pos h2, if_neg (by omega)]
    · rw [if_neg h1, if_neg h2, if_pos (by omega)]
theorem m_isRecipe (a : Int32) : f_X12_isRecipe a = some (if 0 ≤ a ∧ a ≤ 2 then 1 else 0) := by
  show (if a < 0 then some 0 else (if 3 ≤ a then some 0 else some 1)) = _
  have e0 : (0 : Int32).toInt = 0 := rfl
  have e5 : (2 : Int32).toInt = 2 := rfl
  have e6 : (3 : Int32).toInt = 3 := rfl
  simp only [i_lt, i_le, e0, e5, e6]
  by_cases h1 : a.toInt < 0
  · rw [if_pos h1, if_neg (by omega)]
  · by_cases h2 : (3 : Int) ≤ a.toInt
    · rw [if_neg h1, if_pos h2, if_neg (by omega)]
    · rw [if_neg h1, if_neg h2, if_pos (by omega)]
theorem m_isLimit (a : Int32) : f_X12_isLimit a = some (if 1 ≤ a ∧ a ≤ 20000 then 1 else 0) := by
  show (if a ≤ 0 then some 0 else (if 20000 < a then some 0 else some 1)) = _
  have e0 : (0 : Int32).toInt = 0 := rfl
  have e5 : (1 : Int32).toInt = 1 := rfl
  have e6 : (20000 : Int32).toInt = 20000 := rfl
  simp only [i_lt, i_le, e0, e5, e6]
  by_cases h1 : a.toInt ≤ 0
  · rw [if_pos h1, if_neg (by omega)]
  · by_cases h2 : (20000 : Int) < a.toInt
    · rw [if_neg h1, if_pos h2, if_neg (by omega)]
    · rw [if_neg h1, if_neg h2, if_pos (by omega)]
theorem zB_01 (c : Prop) [inst : Decidable c] : zB (if c then 1 else 0) = true := by split <;> rfl
theorem x_isRecipe (a : Int32) : f_X11_isRecipe a = some (if 0 ≤ a ∧ a ≤ 2 then 1 else 0) := by
  show (f_X11_within a 0 2).bind (fun u1 => (if zB u1 = true then some u1 else none)) = _
  rw [w_in]
  show (if zB _ = true then some _ else none) = _
  rw [if_pos (zB_01 _)]
theorem vin_of {i : Int32} {n : Nat} (h0 : 0 ≤ i.toInt) (h1 : i.toInt < n) : vin i n = true := by
  unfold vin
  have a1 : ¬ i < 0 := by rw [i_lt]; show ¬ i.toInt < 0; omega
  have a2 : ¬ n ≤ i.toNatClampNeg := by
    have : i.toNatClampNeg = i.toInt.toNat := rfl
    omega
  simp [a1, a2]
theorem vin_nI {k n : Nat} (h : k < n) (hn : n < 2 ^ 31) : vin (nI k) n = true := vin_of (by rw [nI_toInt (by omega)]; omega) (by rw [nI_toInt (by omega)]; omega)
theorem of_rng {x : Int32} {n : Nat} (hn : n < 2 ^ 31) (h0 : 0 ≤ x) (h1 : x ≤ nI n) : ∃ k : Nat, k ≤ n ∧ x = nI k := by
  rw [i_le] at h0 h1
  rw [nI_toInt (by omega)] at h1
  have h0 : (0 : Int) ≤ x.toInt := h0
  refine ⟨x.toInt.toNat, by omega, ?_⟩
  rw [i_eq, nI_toInt (by omega)]
  omega
