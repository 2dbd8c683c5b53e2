/-! beginnings of runs -/
def absN (f : Nat → Int32) : Nat → Nat := fun j => if j < 6 then (f j).toNatClampNeg else 0
theorem Z6_abs (f : Nat → Int32) : Z6 (absN f) := fun j hj => if_neg (by omega)
theorem abs_R6 {f : Nat → Int32} (h : ∀ j, j < 6 → 0 ≤ f j) : R6 f (absN f) := by
  intro j hj
  have h0 := h j hj
  rw [i_le] at h0
  have h0 : (0 : Int) ≤ (f j).toInt := h0
  have h2 := Int32.toInt_lt (f j)
  have e : absN f j = (f j).toInt.toNat := if_pos hj
  rw [e, i_eq, nI_toInt (by omega)]
  omega
theorem abs_le {f : Nat → Int32} {j N : Nat} (hj : j < 6) (h0 : 0 ≤ f j) (h : f j ≤ nI N) (hN : N < 2 ^ 31) : absN f j ≤ N := by
  rw [i_le] at h0 h
  rw [nI_toInt hN] at h
  have h0 : (0 : Int) ≤ (f j).toInt := h0
  have e : absN f j = (f j).toInt.toNat := if_pos hj
  omega
theorem RV_abs {k b m : Nat → Int32} {rs : Int32} (h : RV k b m rs) : R6 k (absN k) ∧ (∀ j, j < 6 → absN k j ≤ 3) ∧ R6 b (absN b) ∧ R6 m (absN m) ∧ MB (absN b) (absN m) ∧ (rs = 0 → ∀ j, j < 6 → ¬ absN k j = 1 ∧ ¬ absN k j = 3) := by
  obtain ⟨h1, h2, h3⟩ := h
  have rk : R6 k (absN k) := abs_R6 (fun j hj => (h1 j hj).1.1)
  have rb : R6 b (absN b) := abs_R6 (fun j hj => (h1 j hj).2.1.1)
  have rm : R6 m (absN m) := abs_R6 (fun j hj => (h1 j hj).2.2.1)
  refine ⟨rk, fun j hj => abs_le hj (h1 j hj).1.1 (h1 j hj).1.2 (by omega), rb, rm, fun j hj => ?_, fun hr j hj => ?_⟩
  · have q1 : absN b j ≤ 99 := abs_le hj (h1 j hj).2.1.1 (h1 j hj).2.1.2 (by omega)
    have q2 := (h1 j hj).2.2.2
    have q3 : absN m j ≤ absN b j := abs_le hj (h1 j hj).2.2.1 (by rw [← rb j hj]; exact q2) (by omega)
    exact ⟨q3, q1⟩
  · obtain ⟨a1, a2⟩ := h3 hr j hj
    rw [rk j hj] at a1 a2
    exact ⟨fun e => a1 (by rw [e]; rfl), fun e => a2 (by rw [e]; rfl)⟩
theorem x_start (v : Int32) (bg nw : Nat → Int32) (a1 a2 a3 a4 a5 a6 : Int32) (y : Nat → Int32) : f_X0_start v bg nw a1 a2 a3 a4 a5 a6 y = some (cpI 0 y bg, cpI 0 y nw, 0, 0, v, 0, 0, 0) := by
  unfold f_X0_start g_X0_start_0
  rw [x_copyM, x_copyM]
  rfl
theorem R6_cpI {y g : Nat → Int32} {m : Nat → Nat} (h : R6 y m) : R6 (cpI 0 y g) m := fun j hj => by rw [cpI_lt hj]; exact h j hj
theorem m_startm (y : Nat → Int32) (a1 a2 a3 a4 a5 a6 : Int32) : ∀ (fu i : Nat) (bg nw : Nat → Int32), i ≤ 6 → 7 ≤ fu + i → g_X12_startsFromm_2 fu (nI i) y bg nw a1 a2 a3 a4 a5 a6 = some (cpI i y bg, cpI i y nw, 0, 0, 0, 0, 0, 0) := by
  intro fu
  induction fu with
  | zero => intro i bg nw h1 h2; omega
  | succ fu ih =>
    intro i bg nw h1 h2
    simp only [g_X12_startsFromm_2]
    rcases Nat.lt_or_ge i 6 with hi | hi
    · rw [if_neg (c6_le hi), if_pos (vin_nI hi (by omega)), nc i (by omega), nI_s, ih (i + 1) _ _ (by omega) (by omega), cpI_step hi, cpI_step hi]
    · have hi6 : i = 6 := by omega
      subst hi6
      rw [if_pos c6_ge, cpI_6, cpI_6]
theorem m_startmF (y bg nw : Nat → Int32) (a1 a2 a3 a4 a5 a6 : Int32) : f_X12_startsFromm y bg nw a1 a2 a3 a4 a5 a6 = some (cpI 0 y bg, cpI 0 y nw, 0, 0, 0, 0, 0, 0) := m_startm y a1 a2 a3 a4 a5 a6 FU 0 bg nw (by omega) (by unfold FU; omega)
section XGO
variable {n : Nat} {P : PG} {K B : Nat → Nat} {kf b : Nat → Int32} {rs : Int32} {lim : Nat}
/-- the class's go from any standing within the limit -/
theorem x_go (hn : n ≤ 120) (hw : PWf n P) (hk : R6 kf K) (hK : ∀ j, j < 6 → K j ≤ 3) (hb : R6 b B) (hrs : rs = 0 → ∀ j, j < 6 → ¬ K j = 1 ∧ ¬ K j = 3) {c fi se nx ot : Nat → Int32} (hR : RX n P c fi se nx ot) (hlim : lim ≤ 20000) {s : AS} {f : Nat → Int32} (mk : Nat → Int32) (x10 x11 x12 x13 x14 : Int32) (hen : s.2.2.2 = 0) (hst : s.2.1 ≤ lim) (hf : R6 f s.1.1) (hs : PHb B s.1) (hz : Z6 s.1.1) (hsd : stopd n P s.2.2.1) (hpn : s.2.2.1 ≤ n) :
    ∃ (f' mk' : Nat → Int32) (p' a1 a2 a3 a4 a5 : Int32), f_X0_go (nI lim) f (nI s.1.2.1) (nI s.1.2.2.1) (nI s.1.2.2.2) (nI s.2.1) (nI s.2.2.1) (nI s.2.2.2) mk x10 x11 x12 x13 x14 c fi se nx ot (nI n) kf b rs = some (f', nI (aRun n P K B lim s).1.2.1, nI (aRun n P K B lim s).1.2.2.1, nI (aRun n P K B lim s).1.2.2.2, nI (aRun n P K B lim s).2.1, p', nI (aRun n P K B lim s).2.2.2, mk', a1, a2, a3, a4, a5) ∧ R6 f' (aRun n P K B lim s).1.1 := by
  unfold f_X0_go g_X0_go_0 f_X0_mark g_X0_mark_0
  rw [x_copyM, Option.bind_some, Option.bind_some]
  exact go_loop hn hw hk hK hb hrs hR hlim FU 8 0 s f s (cpI 0 f mk) 0 (by unfold FU; omega) hen (Nat.zero_le _) hst hf hs hz hsd hpn (R6_cpI hf) hpn (Nat.le_refl _) ⟨rfl, fun i hi => absurd hi (by omega), hs.2.2.2, hz, hs.1⟩
end XGO
/-- the beginning of a run -/
def st0 (m : Nat → Nat) (co : Nat) : AS := ((m, 0, 0, co), 0, 0, 0)
