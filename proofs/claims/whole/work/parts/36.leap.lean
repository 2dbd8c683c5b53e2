/-! the class's leap over whole rounds -/
theorem p7 (i : Nat) : (7 * (7 ^ i % 1009)) % 1009 = 7 ^ (i + 1) % 1009 := by
  rw [Nat.mul_mod, Nat.mod_mod, ← Nat.mul_mod, Nat.pow_succ, Nat.mul_comm]
theorem xor_sign (x : Int32) : 0 ≤ (x ^^^ (1009 : Int32)) ↔ 0 ≤ x.toInt := by
  rw [i_le]
  show (0 : Int) ≤ (x ^^^ (1009 : Int32)).toBitVec.toInt ↔ (0 : Int) ≤ x.toBitVec.toInt
  have e : (x ^^^ (1009 : Int32)).toBitVec.msb = x.toBitVec.msb := by
    rw [Int32.toBitVec_xor, BitVec.msb_xor, show (1009 : Int32).toBitVec.msb = false from rfl, Bool.xor_false]
  rw [BitVec.msb_eq_toInt, BitVec.msb_eq_toInt] at e
  have e2 := decide_eq_decide.mp e
  omega
theorem fmod_1009 {x : Int32} (h1 : -2000000 < x.toInt) (h2 : x.toInt < 2000000) : ∃ M : Nat, M < 1009 ∧ f_J9_floorMod_7cf53 x 1009 = some (nI M) ∧ ∃ q : Int, x.toInt = q * 1009 + M := by
  have e0 := Int.tmod_add_tdiv_mul x.toInt 1009
  have e1 := Int.tmod_lt_of_pos x.toInt (b := 1009) (by omega)
  have e2 := Int.lt_tmod_of_pos x.toInt (b := 1009) (by omega)
  have e3 : 0 ≤ x.toInt → 0 ≤ x.toInt.tmod 1009 := fun h => Int.tmod_nonneg 1009 h
  have e4 : x.toInt < 0 → x.toInt.tmod 1009 ≤ 0 := fun h => by
    have q1 := Int.tmod_nonneg (a := -x.toInt) 1009 (by omega)
    rw [Int.neg_tmod] at q1
    omega
  have ed : (x / 1009).toInt = x.toInt.tdiv 1009 := by
    rw [Int32.toInt_div]
    show (x.toInt.tdiv 1009).bmod (2 ^ 32) = _
    apply Int.bmod_eq_of_le <;> omega
  generalize x.toInt.tmod 1009 = Rm at *
  generalize x.toInt.tdiv 1009 = Td at *
  have hr : (x - x / 1009 * 1009).toInt = Rm := by
    have em : (x / 1009 * 1009).toInt = Td * 1009 := by
      rw [Int32.toInt_mul, ed]
      show (Td * 1009).bmod (2 ^ 32) = _
      apply Int.bmod_eq_of_le <;> omega
    rw [Int32.toInt_sub, em, show x.toInt - Td * 1009 = Rm by omega]
    apply Int.bmod_eq_of_le <;> omega
  unfold f_J9_floorMod_7cf53 g_J9_floorMod_7cf53_0
  rw [if_neg (by decide)]
  generalize x - x / 1009 * 1009 = rr at *
  by_cases hx : 0 ≤ x.toInt
  · rw [if_pos ((xor_sign x).mpr hx)]
    refine ⟨Rm.toNat, by omega, ?_, Td, by omega⟩
    apply congrArg some
    rw [i_eq, hr, nI_toInt (by omega)]
    omega
  · rw [if_neg (fun h => hx ((xor_sign x).mp h))]
    by_cases hz : rr = 0
    · have hz' : Rm = 0 := by rw [← hr, hz]; rfl
      rw [if_pos hz]
      refine ⟨0, by omega, ?_, Td, by omega⟩
      rw [hz]; rfl
    · have hz' : ¬ Rm = 0 := fun h => hz (by rw [i_eq, hr, h]; rfl)
      rw [if_neg hz]
      refine ⟨(Rm + 1009).toNat, by omega, ?_, Td - 1, by omega⟩
      apply congrArg some
      rw [i_eq, Int32.toInt_add, hr, nI_toInt (by omega)]
      show (Rm + 1009).bmod (2 ^ 32) = _
      rw [Int.bmod_eq_of_le (by omega) (by omega)]
      omega
/-- the factor 7 to the power of what was taken -/
theorem leap_44 (v2 v3 : Int32) {tk : Nat} (htk : tk < 1000000) (sp cl co st a1 a2 a3 a4 : Int32) : ∀ (fu d : Nat), d ≤ tk → d < fu → g_X0_leap_44 fu v2 v3 (nI tk) (nI (7 ^ (tk - d) % 1009)) (nI (tk - d)) sp cl co st a1 a2 a3 a4 = (f_J9_floorMod_7cf53 (co - (nI (7 ^ tk % 1009) * a4)) 1009).bind (fun u1 => g_X0_leap_91 FU v2 v3 (nI tk) (nI (7 ^ tk % 1009)) u1 0 sp cl co st a1 a2 a3 a4) := by
  intro fu
  induction fu with
  | zero => intro d h1 h2; omega
  | succ fu ih =>
    intro d h1 h2
    simp only [g_X0_leap_44]
    rw [ite_le (by omega) (by omega)]
    cases d with
    | zero => rw [if_pos (by omega)]; rfl
    | succ d =>
      have hm : 7 ^ (tk - (d + 1)) % 1009 < 1009 := Nat.mod_lt _ (by omega)
      have e : (7 * nI (7 ^ (tk - (d + 1)) % 1009)) - (7 * nI (7 ^ (tk - (d + 1)) % 1009)) / 1009 * 1009 = nI (7 ^ (tk - d) % 1009) := by
        rw [show (7 : Int32) = nI 7 from rfl, pk_mul, rem32 (by omega) (d := 1009) (by omega) (by omega) 1009 rfl, p7, show tk - (d + 1) + 1 = tk - d by omega]
      rw [if_neg (by omega), e, nI_s, show tk - (d + 1) + 1 = tk - d by omega]
      exact ih d (by omega) (by omega)
/-- the rounds' colours -/
def colF (F M : Nat) : Nat → Nat → Nat
  | 0, co => co
  | r + 1, co => colF F M r ((F * co + M) % 1009)
theorem leap_91 (v2 v4 : Int32) {F M r : Nat} (hF : F < 1009) (hM : M < 1009) (hr : r < 1000000) (sp cl st a1 a2 a3 a4 : Int32) : ∀ (fu d co : Nat), d ≤ r → d < fu → co < 1009 → g_X0_leap_91 fu v2 (nI r) v4 (nI F) (nI M) (nI (r - d)) sp cl (nI co) st a1 a2 a3 a4 = some (sp + nI r * (sp - a2), cl + nI r * v4, nI (colF F M d co), st + nI r * v2) := by
  intro fu
  induction fu with
  | zero => intro d co h1 h2; omega
  | succ fu ih =>
    intro d co h1 h2 hc
    simp only [g_X0_leap_91]
    rw [ite_le (by omega) (by omega)]
    cases d with
    | zero => rw [if_pos (by omega)]; rfl
    | succ d =>
      have hFc : F * co ≤ 1008 * 1008 := Nat.mul_le_mul (by omega) (by omega)
      have e : ((nI F * nI co) + nI M) - ((nI F * nI co) + nI M) / 1009 * 1009 = nI ((F * co + M) % 1009) := by
        rw [pk_mul, nI_add]
        exact rem32 (by omega) (d := 1009) (by omega) (by omega) 1009 rfl
      rw [if_neg (by omega), e, nI_s, show r - (d + 1) + 1 = r - d by omega]
      exact ih d _ (by omega) (by omega) (Nat.mod_lt _ (by omega))
theorem colF_eq {F M b c : Nat} (hF : F = 7 ^ b % 1009) (hM : M = c % 1009) : ∀ (r co : Nat), colF F M r co = colr b c r co
  | 0, co => rfl
  | r + 1, co => by
    have e : (F * co + M) % 1009 = (7 ^ b * co + c) % 1009 := by
      rw [hF, hM, Nat.add_mod, Nat.mul_mod, Nat.mod_mod, ← Nat.mul_mod, Nat.mod_mod, ← Nat.add_mod]
    show colF F M r ((F * co + M) % 1009) = colr b c r ((7 ^ b * co + c) % 1009)
    rw [e]; exact colF_eq hF hM r _
/-- the leap: r whole rounds -/
theorem x_leap {lim sp cl co st mst msp mcl mco b c : Nat} (hst : mst < st) (hlim : st ≤ lim) (hl2 : lim ≤ 30000) (hsp : msp ≤ sp) (hcl : mcl + b = cl) (hb : b < 1000000) (hmc : mco < 1009) (hco : co = (7 ^ b * mco + c) % 1009) : f_X0_leap (nI lim) (nI sp) (nI cl) (nI co) (nI st) (nI mst) (nI msp) (nI mcl) (nI mco) = some (nI (sp + (lim - st) / (st - mst) * (sp - msp)), nI (cl + (lim - st) / (st - mst) * b), nI (colr b c ((lim - st) / (st - mst)) co), nI (st + (lim - st) / (st - mst) * (st - mst))) := by
  have hcl9 : co < 1009 := by rw [hco]; exact Nat.mod_lt _ (by omega)
  have hF : 7 ^ b % 1009 < 1009 := Nat.mod_lt _ (by omega)
  unfold f_X0_leap g_X0_leap_0 g_X0_leap_26
  rw [pk_sub (show mst ≤ st by omega), show (0 : Int32) = nI 0 from rfl, ite_le (by omega) (by omega), if_neg (by omega), ite_eq (by omega) (by omega), if_neg (by omega), pk_sub hlim, pk_div (by omega) (by omega) (by omega), pk_sub (show mcl ≤ cl by omega), show cl - mcl = b by omega]
  generalize hr : (lim - st) / (st - mst) = r
  have hrl : r ≤ 30000 := by rw [← hr]; exact Nat.le_trans (Nat.div_le_self _ _) (by omega)
  have e44 := leap_44 (nI (st - mst)) (nI r) hb (nI sp) (nI cl) (nI co) (nI st) (nI mst) (nI msp) (nI mcl) (nI mco) FU b (Nat.le_refl _) (by unfold FU; omega)
  rw [Nat.sub_self] at e44
  have e44' : g_X0_leap_44 FU (nI (st - mst)) (nI r) (nI b) 1 (nI 0) (nI sp) (nI cl) (nI co) (nI st) (nI mst) (nI msp) (nI mcl) (nI mco) = _ := e44
  rw [e44']
  have hFm : 7 ^ b % 1009 * mco ≤ 1008 * 1008 := Nat.mul_le_mul (by omega) (by omega)
  have et : (nI co - nI (7 ^ b % 1009) * nI mco).toInt = (co : Int) - ((7 ^ b % 1009 * mco : Nat) : Int) := by
    rw [pk_mul]
    exact pk_sub_toInt (by omega) (by omega)
  obtain ⟨M, hM, eM, q, hq⟩ := fmod_1009 (x := nI co - nI (7 ^ b % 1009) * nI mco) (by rw [et]; omega) (by rw [et]; omega)
  rw [eM, Option.bind_some]
  have e91 := leap_91 (nI (st - mst)) (nI b) hF hM (show r < 1000000 by omega) (nI sp) (nI cl) (nI st) (nI mst) (nI msp) (nI mcl) (nI mco) FU r co (Nat.le_refl _) (by unfold FU; omega) hcl9
  rw [Nat.sub_self] at e91
  have e91' : g_X0_leap_91 FU (nI (st - mst)) (nI r) (nI b) (nI (7 ^ b % 1009)) (nI M) 0 (nI sp) (nI cl) (nI co) (nI st) (nI mst) (nI msp) (nI mcl) (nI mco) = _ := e91
  have hMc : M = c % 1009 := by
    rw [et] at hq
    have h1 : (7 ^ b % 1009 * mco) % 1009 = (7 ^ b * mco) % 1009 := by rw [Nat.mul_mod, Nat.mod_mod, ← Nat.mul_mod]
    have h2 : co = ((7 ^ b % 1009 * mco) + c) % 1009 := by rw [hco, Nat.add_mod, ← h1, ← Nat.add_mod]
    generalize 7 ^ b % 1009 * mco = Z at *
    omega
  rw [e91', colF_eq rfl hMc, pk_sub hsp, pk_mul, nI_add, pk_mul, nI_add, pk_mul, nI_add]
