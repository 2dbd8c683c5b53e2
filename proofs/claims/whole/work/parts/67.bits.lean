/-! sets of sums as bits -/
theorem nI_tb (k : Nat) : (nI k).toBitVec = BitVec.ofNat 32 k := rfl
theorem shr_bv (x : Int32) {i : Nat} (hi : i < 8) : (x >>> (nI i &&& 31)).toBitVec = x.toBitVec.sshiftRight i := by
  rcases (show i = 0 ∨ i = 1 ∨ i = 2 ∨ i = 3 ∨ i = 4 ∨ i = 5 ∨ i = 6 ∨ i = 7 by omega) with rfl | rfl | rfl | rfl | rfl | rfl | rfl | rfl <;> rfl
theorem bit_of (x : Int32) {i : Nat} (hi : i < 8) : ((x >>> (nI i &&& 31)) &&& 1) = if x.toBitVec.getLsbD i = true then 1 else 0 := by
  apply Int32.toBitVec_inj.mp
  rw [Int32.toBitVec_and, shr_bv x hi]
  apply BitVec.eq_of_getLsbD_eq
  intro j hj
  rw [BitVec.getLsbD_and, BitVec.getLsbD_sshiftRight]
  have e1 : ∀ j, j < 32 → (1 : Int32).toBitVec.getLsbD j = decide (j = 0) := by decide
  have e0 : ∀ j, j < 32 → (0 : Int32).toBitVec.getLsbD j = false := by decide
  rw [e1 j hj]
  by_cases h0 : j = 0
  · subst h0
    cases hb : x.toBitVec.getLsbD i with
    | false =>
      rw [if_neg (show ¬ false = true by decide), e0 0 (by omega), if_pos (show i + 0 < 32 by omega)]
      rfl
    | true =>
      rw [if_pos (show true = true from rfl), e1 0 (by omega), if_pos (show i + 0 < 32 by omega)]
      rfl
  · rw [decide_eq_false h0, Bool.and_false]
    cases hb : x.toBitVec.getLsbD i with
    | false => rw [if_neg (show ¬ false = true by decide), e0 j hj]
    | true => rw [if_pos (show true = true from rfl), e1 j hj, decide_eq_false h0]
theorem lsb_nI (k : Nat) {i : Nat} (hi : i < 32) : (nI k).toBitVec.getLsbD i = k.testBit i := by
  rw [nI_tb, BitVec.getLsbD_ofNat]
  simp [hi]
theorem bit_nI (k : Nat) {i : Nat} (hi : i < 8) : ((nI k >>> (nI i &&& 31)) &&& 1) = if k.testBit i = true then 1 else 0 := by
  rw [bit_of _ hi, lsb_nI k (by omega)]
theorem lsb_not (k : Nat) {i : Nat} (hi : i < 32) : (nI k ^^^ (-1)).toBitVec.getLsbD i = !(k.testBit i) := by
  rw [Int32.toBitVec_xor, BitVec.getLsbD_xor, lsb_nI k hi]
  have e1 : ∀ j, j < 32 → (-1 : Int32).toBitVec.getLsbD j = true := by decide
  rw [e1 i hi, Bool.xor_true]
/-- in a set and not in another -/
def cnd (sm S i : Nat) : Bool := sm.testBit i && !(S.testBit i)
theorem bit_cnd (sm S : Nat) {i : Nat} (hi : i < 8) : (((nI sm &&& (nI S ^^^ (-1))) >>> (nI i &&& 31)) &&& 1) = if cnd sm S i = true then 1 else 0 := by
  rw [bit_of _ hi, Int32.toBitVec_and, BitVec.getLsbD_and, lsb_nI sm (by omega), lsb_not S (by omega)]
  rfl
def subS (S sm : Nat) : Prop := ∀ i, i < 8 → S.testBit i = true → sm.testBit i = true
theorem big_bit {S i : Nat} (hS : S < 256) (hi : 8 ≤ i) : S.testBit i = false :=
  Nat.testBit_lt_two_pow (Nat.lt_of_lt_of_le hS (show 256 ≤ 2 ^ i from Nat.pow_le_pow_right (n := 2) (by omega) hi))
theorem sub_iff {S sm : Nat} (hS : S < 256) : (nI S &&& (nI sm ^^^ (-1))) = 0 ↔ subS S sm := by
  constructor
  · intro h i hi hb
    have h1 := congrArg (fun x : Int32 => x.toBitVec.getLsbD i) h
    have h1 : (nI S &&& (nI sm ^^^ (-1))).toBitVec.getLsbD i = (0 : Int32).toBitVec.getLsbD i := h1
    rw [Int32.toBitVec_and, BitVec.getLsbD_and, lsb_nI S (by omega), lsb_not sm (by omega), hb, Bool.true_and] at h1
    have e0 : ∀ j, j < 32 → (0 : Int32).toBitVec.getLsbD j = false := by decide
    rw [e0 i (by omega)] at h1
    cases hs : sm.testBit i with
    | true => rfl
    | false => rw [hs] at h1; exact absurd h1 (by decide)
  · intro h
    apply Int32.toBitVec_inj.mp
    apply BitVec.eq_of_getLsbD_eq
    intro i hi
    have e0 : ∀ j, j < 32 → (0 : Int32).toBitVec.getLsbD j = false := by decide
    rw [Int32.toBitVec_and, BitVec.getLsbD_and, lsb_nI S hi, lsb_not sm hi, e0 i hi]
    rcases Nat.lt_or_ge i 8 with h8 | h8
    · cases hb : S.testBit i with
      | false => rfl
      | true => rw [h i h8 hb]; rfl
    · rw [big_bit hS h8]; rfl
theorem or_nI (S : Nat) {i : Nat} (hi : i < 8) : nI S ||| (1 <<< (nI i &&& 31)) = nI (S ||| 2 ^ i) := by
  have e : (1 : Int32) <<< (nI i &&& 31) = nI (2 ^ i) := by
    rcases (show i = 0 ∨ i = 1 ∨ i = 2 ∨ i = 3 ∨ i = 4 ∨ i = 5 ∨ i = 6 ∨ i = 7 by omega) with rfl | rfl | rfl | rfl | rfl | rfl | rfl | rfl <;> rfl
  rw [e]
  apply Int32.toBitVec_inj.mp
  rw [Int32.toBitVec_or, nI_tb, nI_tb, nI_tb, BitVec.ofNat_or]
theorem or_lt : ∀ S, S < 256 → ∀ i, i < 8 → (S ||| 2 ^ i) < 256 ∧ (S.testBit i = false → S < S ||| 2 ^ i) := by decide +kernel
theorem or_bit (S i j : Nat) : (S ||| 2 ^ i).testBit j = (S.testBit j || decide (j = i)) := by
  rw [Nat.testBit_or, Nat.testBit_two_pow]
  congr 1
  exact decide_eq_decide.mpr ⟨fun h => h.symm, fun h => h.symm⟩
theorem sub_or {S sm i : Nat} (h : subS S sm) (hi : sm.testBit i = true) : subS (S ||| 2 ^ i) sm := by
  intro j hj hb
  rw [or_bit] at hb
  cases hs : S.testBit j with
  | true => exact h j hj hs
  | false =>
    rw [hs, Bool.false_or, decide_eq_true_iff] at hb
    rw [hb]; exact hi
/-- a sum over a set, up to k -/
def tsum (S : Nat) (t : Nat → Nat) : Nat → Nat
  | 0 => 0
  | k + 1 => tsum S t k + (if S.testBit k = true then t k else 0)
theorem tsum_or {S i : Nat} (t : Nat → Nat) (hi : S.testBit i = false) : ∀ k, tsum (S ||| 2 ^ i) t k = tsum S t k + (if i < k then t i else 0)
  | 0 => rfl
  | k + 1 => by
    show tsum (S ||| 2 ^ i) t k + (if (S ||| 2 ^ i).testBit k = true then t k else 0) = tsum S t k + (if S.testBit k = true then t k else 0) + _
    rw [tsum_or t hi k, or_bit]
    by_cases hk : k = i
    · subst hk
      rw [hi, if_neg (by omega), if_pos (by simp), if_neg (by decide), if_pos (by omega)]
    · rw [decide_eq_false hk, Bool.or_false]
      by_cases hik : i < k
      · rw [if_pos hik, if_pos (show i < k + 1 by omega)]; omega
      · rw [if_neg hik, if_neg (show ¬ i < k + 1 by omega)]; omega
theorem tsum_le {S : Nat} {t : Nat → Nat} {c : Nat} (h : ∀ j, j < 8 → S.testBit j = true → t j ≤ c) : ∀ k, k ≤ 8 → tsum S t k ≤ c * k
  | 0, _ => Nat.zero_le _
  | k + 1, hk => by
    have := tsum_le h k (by omega)
    show tsum S t k + (if S.testBit k = true then t k else 0) ≤ c * (k + 1)
    rw [Nat.mul_succ]
    by_cases hb : S.testBit k = true
    · rw [if_pos hb]; have := h k (by omega) hb; omega
    · rw [if_neg hb]; omega
theorem tsum_mono {S S' : Nat} {t : Nat → Nat} (h : ∀ j, j < 8 → S.testBit j = true → S'.testBit j = true) : ∀ k, k ≤ 8 → tsum S t k ≤ tsum S' t k
  | 0, _ => Nat.le_refl _
  | k + 1, hk => by
    have := tsum_mono (t := t) h k (by omega)
    show tsum S t k + (if S.testBit k = true then t k else 0) ≤ tsum S' t k + (if S'.testBit k = true then t k else 0)
    by_cases hb : S.testBit k = true
    · rw [if_pos hb, if_pos (h k (by omega) hb)]; omega
    · rw [if_neg hb]; omega
theorem bits_sum : ∀ k, k < 256 → bits8 (nI k) = nI (tsum k (fun _ => 1) 8) := by decide +kernel
