/-! the shortest row: standings by their numbers -/
theorem all_nI (z : Int32) : ∃ k : Nat, z = nI k := by
  refine ⟨z.toBitVec.toNat, ?_⟩
  apply Int32.toBitVec_inj.mp
  rw [nI_tb, BitVec.ofNat_toNat, BitVec.setWidth_eq]
theorem aAct_1 (B : Nat → Nat) (o x y : Nat) (m : Nat → Nat) (sp cl co : Nat) : (aAct B o x y (m, sp, cl, co)).1 = (aAct B o x y (m, 0, 0, 0)).1 := by
  unfold aAct
  by_cases o0 : o = 0
  · rw [if_pos o0, if_pos o0]
    show (if m x < B x then _ else _ : PH).1 = (if m x < B x then _ else _ : PH).1
    by_cases h : m x < B x
    · rw [if_pos h, if_pos h]
    · rw [if_neg h, if_neg h]
  · rw [if_neg o0, if_neg o0]
    by_cases o1 : o = 1
    · rw [if_pos o1, if_pos o1]
      show (if 0 < m x then _ else _ : PH).1 = (if 0 < m x then _ else _ : PH).1
      by_cases h : 0 < m x
      · rw [if_pos h, if_pos h]
      · rw [if_neg h, if_neg h]
    · rw [if_neg o1, if_neg o1]
      by_cases h : x = y
      · rw [if_pos h, if_pos h]
      · rw [if_neg h, if_neg h]
theorem aKinds_1 (K B m : Nat → Nat) (sp : Nat) : (aKinds K B (m, sp)).1 = (aKinds K B (m, 0)).1 := by
  obtain ⟨m', d, h⟩ := kinds_sp K B m
  rw [h sp, h 0]
section ACTJ
variable {K B : Nat → Nat} {kf b f : Nat → Int32} {m : Nat → Nat} {o x y : Nat}
theorem x_actJ (hb : R6 b B) (hf : R6 f m) (hm : MB B m) (ho : o < 4) (hx : x < 6) (hy : y < 6) (sp cl co : Int32) : ∃ f' sp' cl' co', f_X0_act (nI o) (nI x) (nI y) f sp cl co b = some (f', sp', cl', co') ∧ R6 f' (aAct B o x y (m, 0, 0, 0)).1 := by
  have hq := hm x hx
  rcases (show o = 0 ∨ o = 1 ∨ o = 2 ∨ o = 3 by omega) with rfl | rfl | rfl | rfl
  · rw [aAct0]
    unfold f_X0_act g_X0_act_0 f_X0_dip g_X0_dip_0
    simp only [if_pos (show nI 0 = 0 from rfl), if_pos (vin_nI hx (show 6 < 2 ^ 31 by omega)), nc x (show x < 2 ^ 31 by omega), hb x hx, hf x hx]
    rw [ite_le (by omega) (by omega)]
    by_cases h : m x < B x
    · rw [if_neg (by omega), Option.bind_some, if_pos h, nI_p]
      exact ⟨_, _, _, _, rfl, R6_upd hf _ _⟩
    · rw [if_pos (by omega), Option.bind_some, if_neg h]
      exact ⟨_, _, _, _, rfl, hf⟩
  · rw [aAct1]
    unfold f_X0_act g_X0_act_0 f_X0_take g_X0_take_0
    simp only [if_neg (show ¬ nI 1 = 0 by decide), if_pos (show nI 1 = 1 from rfl), if_pos (vin_nI hx (show 6 < 2 ^ 31 by omega)), nc x (show x < 2 ^ 31 by omega), hf x hx]
    rw [show (if nI (m x) ≤ 0 then some (f, cl, co) else some (upd f x (nI (m x) - 1), cl + 1, 7 * co + nI x + 1 - (7 * co + nI x + 1) / 1009 * 1009)) = (if m x ≤ 0 then some (f, cl, co) else some (upd f x (nI (m x) - 1), cl + 1, 7 * co + nI x + 1 - (7 * co + nI x + 1) / 1009 * 1009)) from ite_le (a := m x) (b := 0) (by omega) (by omega)]
    by_cases h : 0 < m x
    · rw [if_neg (by omega), Option.bind_some, if_pos h, nI_m h]
      exact ⟨_, _, _, _, rfl, R6_upd hf _ _⟩
    · rw [if_pos (by omega), Option.bind_some, if_neg h]
      exact ⟨_, _, _, _, rfl, hf⟩
  · rw [aAct2]
    by_cases h : x = y
    · simp only [if_pos h]
      refine ⟨f, sp, cl, co, ?_, hf⟩
      unfold f_X0_act g_X0_act_0
      rw [if_neg (show ¬ nI 2 = 0 by decide), if_neg (show ¬ nI 2 = 1 by decide), if_pos (by rw [h])]
    · simp only [if_neg h]
      refine ⟨pourF f m x y (min (m x) (B y - m y)), sp, cl, co, ?_, R6_pour hf _ _ _⟩
      unfold f_X0_act g_X0_act_0
      rw [if_neg (show ¬ nI 2 = 0 by decide), if_neg (show ¬ nI 2 = 1 by decide), ite_eq (by omega) (by omega), if_neg h, if_pos (show nI 2 = 2 from rfl), if_pos (vin_nI hx (by omega)), nc x (by omega), hf x hx, x_pour hb hf hm hx hy h (Nat.le_refl _)]
  · rw [aAct3]
    by_cases h : x = y
    · simp only [if_pos h]
      refine ⟨f, sp, cl, co, ?_, hf⟩
      unfold f_X0_act g_X0_act_0
      rw [if_neg (show ¬ nI 3 = 0 by decide), if_neg (show ¬ nI 3 = 1 by decide), if_pos (by rw [h])]
    · simp only [if_neg h]
      refine ⟨pourF f m x y (min (m x / 2) (B y - m y)), sp, cl, co, ?_, R6_pour hf _ _ _⟩
      unfold f_X0_act g_X0_act_0
      rw [if_neg (show ¬ nI 3 = 0 by decide), if_neg (show ¬ nI 3 = 1 by decide), ite_eq (by omega) (by omega), if_neg h, if_neg (show ¬ nI 3 = 2 by decide), if_pos (vin_nI hx (by omega)), nc x (by omega), hf x hx, div32 (d := 2) (by omega) (by omega) (by omega) 2 rfl, x_pour hb hf hm hx hy h (by omega)]
theorem m_actJ (hb : R6 b B) (hf : R6 f m) (hm : MB B m) (ho : o < 4) (hx : x < 6) (hy : y < 6) (sp cl co : Int32) : ∃ f' sp' cl' co', f_X12_does (nI o) (nI x) (nI y) b f sp cl co = some (f', sp', cl', co') ∧ R6 f' (aAct B o x y (m, 0, 0, 0)).1 := by
  have hq := hm x hx
  rcases (show o = 0 ∨ o = 1 ∨ o = 2 ∨ o = 3 by omega) with rfl | rfl | rfl | rfl
  · rw [aAct0]
    unfold f_X12_does g_X12_does_0 g_X12_does_9 g_X12_does_19 g_X12_does_36 f_X12_dips g_X12_dips_0
    simp only [if_pos (show nI 0 = 0 from rfl), if_neg (show ¬ nI 0 = 1 by decide), if_neg (show ¬ nI 0 = 2 by decide), if_neg (show ¬ nI 0 = 3 by decide), if_pos (vin_nI hx (show 6 < 2 ^ 31 by omega)), nc x (show x < 2 ^ 31 by omega), hb x hx, hf x hx]
    rw [ite_eq (by omega) (by omega)]
    by_cases h : m x < B x
    · rw [if_neg (by omega), Option.bind_some, if_pos h, nI_p]
      exact ⟨_, _, _, _, rfl, R6_upd hf _ _⟩
    · rw [if_pos (by omega), Option.bind_some, if_neg h]
      exact ⟨_, _, _, _, rfl, hf⟩
  · rw [aAct1]
    unfold f_X12_does g_X12_does_0 g_X12_does_9 g_X12_does_19 g_X12_does_36 f_X12_takesOut g_X12_takesOut_0
    simp only [if_neg (show ¬ nI 1 = 0 by decide), if_pos (show nI 1 = 1 from rfl), if_neg (show ¬ nI 1 = 2 by decide), if_neg (show ¬ nI 1 = 3 by decide), if_pos (vin_nI hx (show 6 < 2 ^ 31 by omega)), nc x (show x < 2 ^ 31 by omega), hf x hx]
    rw [show (if nI (m x) = 0 then some (f, cl, co) else some (upd f x (nI (m x) - 1), cl + 1, 7 * co + nI x + 1 - (7 * co + nI x + 1) / 1009 * 1009)) = (if m x = 0 then some (f, cl, co) else some (upd f x (nI (m x) - 1), cl + 1, 7 * co + nI x + 1 - (7 * co + nI x + 1) / 1009 * 1009)) from ite_eq (a := m x) (b := 0) (by omega) (by omega)]
    by_cases h : 0 < m x
    · rw [if_neg (by omega), Option.bind_some, if_pos h, nI_m h]
      exact ⟨_, _, _, _, rfl, R6_upd hf _ _⟩
    · rw [if_pos (by omega), Option.bind_some, if_neg h]
      exact ⟨_, _, _, _, rfl, hf⟩
  · rw [aAct2]
    by_cases h : x = y
    · simp only [if_pos h]
      refine ⟨f, sp, cl, co, ?_, hf⟩
      have e : f_X12_pours (nI x) (nI y) (nI (m x)) b f = some f := by unfold f_X12_pours g_X12_pours_0; rw [if_pos (by rw [h])]
      unfold f_X12_does g_X12_does_0 g_X12_does_9 g_X12_does_19 g_X12_does_36
      simp only [if_neg (show ¬ nI 2 = 0 by decide), if_neg (show ¬ nI 2 = 1 by decide), if_pos (show nI 2 = 2 from rfl), if_neg (show ¬ nI 2 = 3 by decide), if_pos (vin_nI hx (show 6 < 2 ^ 31 by omega)), nc x (show x < 2 ^ 31 by omega), hf x hx, e, Option.bind_some]
    · simp only [if_neg h]
      refine ⟨pourF f m x y (min (m x) (B y - m y)), sp, cl, co, ?_, R6_pour hf _ _ _⟩
      unfold f_X12_does g_X12_does_0 g_X12_does_9 g_X12_does_19 g_X12_does_36
      simp only [if_neg (show ¬ nI 2 = 0 by decide), if_neg (show ¬ nI 2 = 1 by decide), if_pos (show nI 2 = 2 from rfl), if_neg (show ¬ nI 2 = 3 by decide), if_pos (vin_nI hx (show 6 < 2 ^ 31 by omega)), nc x (show x < 2 ^ 31 by omega), hf x hx, m_pour hb hf hm hx hy h (Nat.le_refl _), Option.bind_some]
  · rw [aAct3]
    by_cases h : x = y
    · simp only [if_pos h]
      refine ⟨f, sp, cl, co, ?_, hf⟩
      have e : f_X12_pours (nI x) (nI y) (nI (m x / 2)) b f = some f := by unfold f_X12_pours g_X12_pours_0; rw [if_pos (by rw [h])]
      unfold f_X12_does g_X12_does_0 g_X12_does_9 g_X12_does_19 g_X12_does_36
      simp only [if_neg (show ¬ nI 3 = 0 by decide), if_neg (show ¬ nI 3 = 1 by decide), if_neg (show ¬ nI 3 = 2 by decide), if_pos (show nI 3 = 3 from rfl), if_pos (vin_nI hx (show 6 < 2 ^ 31 by omega)), nc x (show x < 2 ^ 31 by omega), hf x hx, div32 (a := m x) (d := 2) (by omega) (by omega) (by omega) 2 rfl, e, Option.bind_some]
    · simp only [if_neg h]
      refine ⟨pourF f m x y (min (m x / 2) (B y - m y)), sp, cl, co, ?_, R6_pour hf _ _ _⟩
      unfold f_X12_does g_X12_does_0 g_X12_does_9 g_X12_does_19 g_X12_does_36
      simp only [if_neg (show ¬ nI 3 = 0 by decide), if_neg (show ¬ nI 3 = 1 by decide), if_neg (show ¬ nI 3 = 2 by decide), if_pos (show nI 3 = 3 from rfl), if_pos (vin_nI hx (show 6 < 2 ^ 31 by omega)), nc x (show x < 2 ^ 31 by omega), hf x hx, div32 (a := m x) (d := 2) (by omega) (by omega) (by omega) 2 rfl, m_pour hb hf hm hx hy h (show m x / 2 ≤ m x by omega), Option.bind_some]
end ACTJ
/-- the act of a number -/
def dO (a : Nat) : Nat := if a < 6 then 0 else if a < 12 then 1 else if a < 48 then 2 else 3
def dX (a : Nat) : Nat := if a < 12 then a % 6 else (a - 12) % 36 / 6
def dY (a : Nat) : Nat := if a < 12 then 0 else (a - 12) % 36 % 6
theorem d_lt {a : Nat} (ha : a < 84) : dO a < 4 ∧ dX a < 6 ∧ dY a < 6 := by
  unfold dO dX dY
  refine ⟨?_, ?_, ?_⟩
  · (repeat' split) <;> omega
  · split <;> omega
  · split <;> omega
/-- the standing behind an act; behind none -/
def knd (K B m : Nat → Nat) : Nat → Nat := (aKinds K B (m, 0)).1
def nxM (K B : Nat → Nat) (a : Nat) (m : Nat → Nat) : Nat → Nat := knd K B (aAct B (dO a) (dX a) (dY a) (m, 0, 0, 0)).1
def okM (B m : Nat → Nat) : Prop := MB B m ∧ Z6 m
theorem nxM_ok {K B m : Nat → Nat} {a : Nat} (ha : a < 84) (h : okM B m) : okM B (nxM K B a m) := by
  obtain ⟨d1, d2, d3⟩ := d_lt ha
  have h1 : MB B (aAct B (dO a) (dX a) (dY a) (m, 0, 0, 0)).1 := aAct_MB (s := (m, 0, 0, 0)) h.1 d2 d3
  have h2 : Z6 (aAct B (dO a) (dX a) (dY a) (m, 0, 0, 0)).1 := Z6_act (s := (m, 0, 0, 0)) h.2 d2 d3
  exact ⟨(aKinds_MB (K := K) (s := (_, 0)) h1).1, Z6_kinds (K := K) (B := B) (s := (_, 0, 0, 0)) h2⟩
section STEPJ
variable {K B : Nat → Nat} {kf b f : Nat → Int32} {m : Nat → Nat} {rs : Int32}
theorem x_kindsJ (hk : R6 kf K) (hK : ∀ j, j < 6 → K j ≤ 3) (hb : R6 b B) (hrs : rs = 0 → ∀ j, j < 6 → ¬ K j = 1 ∧ ¬ K j = 3) (hf : R6 f m) (hm : MB B m) (sp : Int32) : ∃ f' sp', f_X0_kindsWork f sp kf b rs = some (f', sp') ∧ R6 f' (knd K B m) := by
  obtain ⟨k, rfl⟩ := all_nI sp
  obtain ⟨f', e, r⟩ := x_kinds hk hK hb hrs (s := (m, k)) hf hm
  refine ⟨f', _, e, ?_⟩
  rw [aKinds_1] at r
  exact r
theorem m_kindsJ (hk : R6 kf K) (hK : ∀ j, j < 6 → K j ≤ 3) (hb : R6 b B) (hf : R6 f m) (hm : MB B m) (sp : Int32) : ∃ f' sp', f_X12_kindsWork kf b f sp = some (f', sp') ∧ R6 f' (knd K B m) := by
  obtain ⟨k, rfl⟩ := all_nI sp
  obtain ⟨f', e, r⟩ := m_kinds hk hK hb (s := (m, k)) hf hm
  refine ⟨f', _, e, ?_⟩
  rw [aKinds_1] at r
  exact r
theorem m_acts (hk : R6 kf K) (hK : ∀ j, j < 6 → K j ≤ 3) (hb : R6 b B) (hf : R6 f m) (hm : okM B m) {a : Nat} (ha : a < 84) (sp cl co : Int32) : ∃ f' sp' cl' co', f_X12_acts (nI a) kf b f sp cl co = some (f', sp', cl', co') ∧ R6 f' (nxM K B a m) := by
  obtain ⟨d1, d2, d3⟩ := d_lt ha
  obtain ⟨f1, sp1, cl1, co1, e1, r1⟩ := m_actJ hb hf hm.1 d1 d2 d3 sp cl co
  have h1 : MB B (aAct B (dO a) (dX a) (dY a) (m, 0, 0, 0)).1 := aAct_MB (s := (m, 0, 0, 0)) hm.1 d2 d3
  obtain ⟨f2, sp2, e2, r2⟩ := m_kindsJ hk hK hb r1 h1 sp1
  have e82 : (f_X12_does (nI (dO a)) (nI (dX a)) (nI (dY a)) b f sp cl co).bind (fun u => g_X12_acts_82 kf b u.1 u.2.1 u.2.2.1 u.2.2.2) = some (f2, sp2, cl1, co1) := by
    rw [e1, Option.bind_some]
    unfold g_X12_acts_82
    dsimp only
    rw [e2, Option.bind_some]
  refine ⟨f2, sp2, cl1, co1, ?_, r2⟩
  rw [← e82]
  unfold f_X12_acts g_X12_acts_0
  rw [show (if (6 : Int32) ≤ nI a then (if (12 : Int32) ≤ nI a then (if (48 : Int32) ≤ nI a then (f_X12_does 3 ((nI a - 48) / 6) ((nI a - 48) - (nI a - 48) / 6 * 6) b f sp cl co).bind (fun u1 => g_X12_acts_82 kf b u1.1 u1.2.1 u1.2.2.1 u1.2.2.2) else (f_X12_does 2 ((nI a - 12) / 6) ((nI a - 12) - (nI a - 12) / 6 * 6) b f sp cl co).bind (fun u2 => g_X12_acts_82 kf b u2.1 u2.2.1 u2.2.2.1 u2.2.2.2)) else (f_X12_does 1 (nI a - 6) 0 b f sp cl co).bind (fun u3 => g_X12_acts_82 kf b u3.1 u3.2.1 u3.2.2.1 u3.2.2.2)) else (f_X12_does 0 (nI a) 0 b f sp cl co).bind (fun u4 => g_X12_acts_82 kf b u4.1 u4.2.1 u4.2.2.1 u4.2.2.2)) = (if 6 ≤ a then (if (12 : Int32) ≤ nI a then (if (48 : Int32) ≤ nI a then (f_X12_does 3 ((nI a - 48) / 6) ((nI a - 48) - (nI a - 48) / 6 * 6) b f sp cl co).bind (fun u1 => g_X12_acts_82 kf b u1.1 u1.2.1 u1.2.2.1 u1.2.2.2) else (f_X12_does 2 ((nI a - 12) / 6) ((nI a - 12) - (nI a - 12) / 6 * 6) b f sp cl co).bind (fun u2 => g_X12_acts_82 kf b u2.1 u2.2.1 u2.2.2.1 u2.2.2.2)) else (f_X12_does 1 (nI a - 6) 0 b f sp cl co).bind (fun u3 => g_X12_acts_82 kf b u3.1 u3.2.1 u3.2.2.1 u3.2.2.2)) else (f_X12_does 0 (nI a) 0 b f sp cl co).bind (fun u4 => g_X12_acts_82 kf b u4.1 u4.2.1 u4.2.2.1 u4.2.2.2)) from ite_le (a := 6) (b := a) (by omega) (by omega)]
  by_cases a6 : 6 ≤ a
  · rw [if_pos a6]
    by_cases a12 : 12 ≤ a
    · rw [if_pos (show (12 : Int32) ≤ nI a from (nI_leI (a := 12) (by omega) (by omega)).mpr a12)]
      by_cases a48 : 48 ≤ a
      · rw [if_pos (show (48 : Int32) ≤ nI a from (nI_leI (a := 48) (by omega) (by omega)).mpr a48)]
        have e1 : nI a - 48 = nI (a - 48) := pk_sub (b := 48) a48
        rw [e1, div32 (a := a - 48) (d := 6) (by omega) (by omega) (by omega) 6 rfl, ← div32 (a := a - 48) (d := 6) (by omega) (by omega) (by omega) 6 rfl, rem32 (a := a - 48) (by omega) (d := 6) (by omega) (by omega) 6 rfl, div32 (a := a - 48) (d := 6) (by omega) (by omega) (by omega) 6 rfl]
        have x1 : dO a = 3 := by unfold dO; rw [if_neg (by omega), if_neg (by omega), if_neg (by omega)]
        have x2 : dX a = (a - 48) / 6 := by unfold dX; rw [if_neg (by omega)]; omega
        have x3 : dY a = (a - 48) % 6 := by unfold dY; rw [if_neg (by omega)]; omega
        rw [x1, x2, x3]
        rfl
      · rw [if_neg (show ¬ (48 : Int32) ≤ nI a from fun h => a48 ((nI_leI (a := 48) (by omega) (by omega)).mp h))]
        have e1 : nI a - 12 = nI (a - 12) := pk_sub (b := 12) a12
        rw [e1, rem32 (a := a - 12) (by omega) (d := 6) (by omega) (by omega) 6 rfl, div32 (a := a - 12) (d := 6) (by omega) (by omega) (by omega) 6 rfl]
        have x1 : dO a = 2 := by unfold dO; rw [if_neg (by omega), if_neg (by omega), if_pos (by omega)]
        have x2 : dX a = (a - 12) / 6 := by unfold dX; rw [if_neg (by omega)]; omega
        have x3 : dY a = (a - 12) % 6 := by unfold dY; rw [if_neg (by omega)]; omega
        rw [x1, x2, x3]
        rfl
    · rw [if_neg (show ¬ (12 : Int32) ≤ nI a from fun h => a12 ((nI_leI (a := 12) (by omega) (by omega)).mp h))]
      have e1 : nI a - 6 = nI (a - 6) := pk_sub (b := 6) a6
      rw [e1]
      have x1 : dO a = 1 := by unfold dO; rw [if_neg (by omega), if_pos (by omega)]
      have x2 : dX a = a - 6 := by unfold dX; rw [if_pos (by omega)]; omega
      have x3 : dY a = 0 := by unfold dY; rw [if_pos (by omega)]
      rw [x1, x2, x3]
      rfl
  · rw [if_neg a6]
    have x1 : dO a = 0 := by unfold dO; rw [if_pos (by omega)]
    have x2 : dX a = a := by unfold dX; rw [if_pos (by omega)]; omega
    have x3 : dY a = 0 := by unfold dY; rw [if_pos (by omega)]
    rw [x1, x2, x3]
    rfl
end STEPJ
