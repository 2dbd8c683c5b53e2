/-! specs: what both readers hold -/
abbrev XT : Type := Int32 × (Nat → Int32) × (Nat → Int32) × Int32 × Int32 × Int32
abbrev MT : Type := Int32 × Int32 × Int32 × Int32 × Int32 × Int32 × Int32 × (Nat → Int32) × (Nat → Int32)
/-- both find the same fault -/
def Flt (X : Option XT) (M : Option MT) : Prop := ∃ u w, X = some u ∧ u.1 = 0 ∧ M = some w ∧ w.1 = 0 ∧ u.2.2.2.2.2 = w.2.2.1 ∧ ∃ k, k ≤ 120 ∧ u.2.2.2.1 = nI k
theorem Flt_of {X : Option XT} {M : Option MT} (z : Int32) {k : Nat} (hk : k ≤ 120) (hX : ∃ u, X = some u ∧ u.1 = 0 ∧ u.2.2.2.2.2 = z ∧ u.2.2.2.1 = nI k) (hM : ∃ w, M = some w ∧ w.1 = 0 ∧ w.2.2.1 = z) : Flt X M := by
  obtain ⟨u, u1, u2, u3, u4⟩ := hX
  obtain ⟨w, w1, w2, w3⟩ := hM
  exact ⟨u, w, u1, u2, w1, w2, u3.trans w3.symm, k, hk, u4⟩
def stx (x : Int32) (d : Nat) : Nat := if x = 0 ∨ x = 1 then d + 1 else if x = 2 ∨ x = 60 ∨ x = 61 ∨ x = 62 then 1 else if x = 3 ∨ x = 4 then 0 else d - 1
/-- how deep the heap stands before a row, and whether a truth stands on it -/
def spD (yc : Nat → Int32) : Nat → Nat
  | 0 => 0
  | i + 1 => stx (yc i) (spD yc i)
def spB (yc : Nat → Int32) : Nat → Bool
  | 0 => false
  | i + 1 => decide (yc i = 2 ∨ yc i = 60 ∨ yc i = 61 ∨ yc i = 62)
theorem spD_eq {y z : Nat → Int32} : ∀ {i : Nat}, (∀ j, j < i → y j = z j) → spD y i = spD z i := by
  intro i
  induction i with
  | zero => intro _; rfl
  | succ i ih =>
    intro h
    show stx (y i) (spD y i) = stx (z i) (spD z i)
    rw [h i (by omega), ih (fun j hj => h j (by omega))]
theorem spB_eq {y z : Nat → Int32} : ∀ {i : Nat}, (∀ j, j < i → y j = z j) → spB y i = spB z i := by
  intro i
  cases i with
  | zero => intro _; rfl
  | succ i =>
    intro h
    show decide _ = decide _
    rw [h i (by omega)]
/-- a row that both hold alike -/
def SpI (hi i : Nat) (yc yw cs : Nat → Int32) : Prop := ∃ o v : Nat, cs i = nI (1048576 * o + v) ∧ yc i = nI (xsp o) ∧ (o ≤ 1 ∨ 11 ≤ o → yw i = nI v) ∧ o ≤ 12 ∧ (o = 0 → v < 100000) ∧ (o = 1 → v < 16) ∧ (2 ≤ o ∧ o ≤ 10 → v = 0) ∧ (o ≤ 9 → spB yc i = false) ∧ (2 ≤ o ∧ o ≤ 6 → 2 ≤ spD yc i) ∧ (7 ≤ o ∧ o ≤ 9 → spD yc i = 2) ∧ (10 ≤ o → spD yc i = 1 ∧ spB yc i = true) ∧ (11 ≤ o → i < v ∧ v ≤ hi ∧ spD yc v = 1 ∧ spB yc v = true)
theorem SpI_mono {hi hi' i : Nat} {yc yw cs yc' yw' cs' : Nat → Int32} (h : SpI hi i yc yw cs) (hi1 : i < hi) (hh : hi ≤ hi') (hy : ∀ j, j < hi → yc' j = yc j) (hw : yw' i = yw i) (hc : cs' i = cs i) : SpI hi' i yc' yw' cs' := by
  obtain ⟨o, v, q1, q2, q3, q4, q5, q6, q7, q8, q9, q10, q11, q12⟩ := h
  have eD : spD yc' i = spD yc i := spD_eq (fun j hj => hy j (by omega))
  have eB : spB yc' i = spB yc i := spB_eq (fun j hj => hy j (by omega))
  refine ⟨o, v, hc.trans q1, (hy i hi1).trans q2, fun h => hw.trans (q3 h), q4, q5, q6, q7, ?_, ?_, ?_, ?_, fun h => ?_⟩
  · rw [eB]; exact q8
  · rw [eD]; exact q9
  · rw [eD]; exact q10
  · rw [eD, eB]; exact q11
  · obtain ⟨g1, g2, g3, g4⟩ := q12 h
    have eD' : spD yc' v = spD yc v := spD_eq (fun j hj => hy j (by omega))
    have eB' : spB yc' v = spB yc v := spB_eq (fun j hj => hy j (by omega))
    exact ⟨g1, by omega, eD'.trans g3, eB'.trans g4⟩
/-- from c and p to c' and p': what was stays, what came is alike -/
def SpF (N w c p : Nat) (yc yw cs ws : Nat → Int32) (c' p' : Nat) (yc' yw' cs' ws' : Nat → Int32) : Prop := c < c' ∧ c' + p ≤ c + p' ∧ p < p' ∧ p' ≤ N ∧ (∀ i, i < w → ws' i = ws i) ∧ (∀ i, i < c → yc' i = yc i ∧ yw' i = yw i ∧ cs' i = cs i) ∧ ∀ i, c ≤ i → i < c' → SpI c' i yc' yw' cs'
section FRAME
variable {N w c p : Nat} {yc yw cs ws : Nat → Int32} {c1 p1 : Nat} {yc1 yw1 cs1 ws1 : Nat → Int32} {c2 p2 : Nat} {yc2 yw2 cs2 ws2 : Nat → Int32}
/-- a first row -/
theorem SpF_one {o v : Nat} (hp : p < p1) (hN : p1 ≤ N) (h : SpI (c + 1) c (upd yc c (nI (xsp o))) (upd yw c (nI v)) (upd cs c (nI (1048576 * o + v)))) : SpF N w c p yc yw cs ws (c + 1) p1 (upd yc c (nI (xsp o))) (upd yw c (nI v)) (upd cs c (nI (1048576 * o + v))) ws := by
  refine ⟨by omega, by omega, hp, hN, fun _ _ => rfl, fun i hi => ?_, fun i h1 h2 => ?_⟩
  · rw [upd_ne (by omega), upd_ne (by omega), upd_ne (by omega)]; exact ⟨rfl, rfl, rfl⟩
  · rw [show i = c by omega]; exact h
/-- a sign, what follows it, and then its row -/
theorem SpF_op {x a b d : Int32} (h1 : SpF N w c p yc yw cs ws c1 p1 yc1 yw1 cs1 ws1) (h2 : SpF N (w + 1) c1 (p1 + 1) yc1 yw1 cs1 (upd ws1 w x) c2 p2 yc2 yw2 cs2 ws2) (h3 : SpI (c2 + 1) c2 (upd yc2 c2 a) (upd yw2 c2 b) (upd cs2 c2 d)) : SpF N w c p yc yw cs ws (c2 + 1) p2 (upd yc2 c2 a) (upd yw2 c2 b) (upd cs2 c2 d) ws2 := by
  obtain ⟨a1, a2, a3, a4, a5, a6, a7⟩ := h1
  obtain ⟨b1, b2, b3, b4, b5, b6, b7⟩ := h2
  refine ⟨by omega, by omega, by omega, b4, fun i hi => ?_, fun i hi => ?_, fun i hi1 hi2 => ?_⟩
  · rw [b5 i (by omega), upd_ne (by omega)]; exact a5 i hi
  · obtain ⟨g1, g2, g3⟩ := b6 i (by omega)
    obtain ⟨k1, k2, k3⟩ := a6 i hi
    rw [upd_ne (by omega), upd_ne (by omega), upd_ne (by omega)]
    exact ⟨g1.trans k1, g2.trans k2, g3.trans k3⟩
  · by_cases e : i = c2
    · subst e; exact h3
    · rcases Nat.lt_or_ge i c1 with z | z
      · obtain ⟨g1, g2, g3⟩ := b6 i z
        refine SpI_mono (a7 i hi1 z) z (by omega) (fun j hj => ?_) ?_ ?_
        · rw [upd_ne (by omega)]; exact (b6 j hj).1
        · rw [upd_ne e]; exact g2
        · rw [upd_ne e]; exact g3
      · refine SpI_mono (b7 i z (by omega)) (by omega) (by omega) (fun j hj => ?_) ?_ ?_
        · rw [upd_ne (by omega)]
        · rw [upd_ne e]
        · rw [upd_ne e]
/-- a bracket around it -/
theorem SpF_in {x : Int32} {p3 : Nat} (h2 : SpF N (w + 1) c (p + 1) yc yw cs (upd ws w x) c2 p2 yc2 yw2 cs2 ws2) (hp : p2 ≤ p3) (hN : p3 ≤ N) : SpF N w c p yc yw cs ws c2 p3 yc2 yw2 cs2 ws2 := by
  obtain ⟨b1, b2, b3, b4, b5, b6, b7⟩ := h2
  refine ⟨b1, by omega, by omega, hN, fun i hi => ?_, b6, b7⟩
  rw [b5 i (by omega), upd_ne (by omega)]
/-- a bracket around it, and then its row -/
theorem SpF_not {x a b d : Int32} (h2 : SpF N (w + 1) c (p + 1) yc yw cs (upd ws w x) c2 p2 yc2 yw2 cs2 ws2) (h3 : SpI (c2 + 1) c2 (upd yc2 c2 a) (upd yw2 c2 b) (upd cs2 c2 d)) : SpF N w c p yc yw cs ws (c2 + 1) p2 (upd yc2 c2 a) (upd yw2 c2 b) (upd cs2 c2 d) ws2 := by
  obtain ⟨b1, b2, b3, b4, b5, b6, b7⟩ := h2
  refine ⟨by omega, by omega, by omega, b4, fun i hi => ?_, fun i hi => ?_, fun i hi1 hi2 => ?_⟩
  · rw [b5 i (by omega), upd_ne (by omega)]
  · rw [upd_ne (by omega), upd_ne (by omega), upd_ne (by omega)]
    exact b6 i hi
  · by_cases e : i = c2
    · subst e; exact h3
    · refine SpI_mono (b7 i hi1 (by omega)) (by omega) (by omega) (fun j hj => ?_) ?_ ?_
      · rw [upd_ne (by omega)]
      · rw [upd_ne e]
      · rw [upd_ne e]
/-- a first sum, a sign, a second one, and the sign's row -/
theorem SpF_two {a b d : Int32} (h1 : SpF N w c p yc yw cs ws c1 p1 yc1 yw1 cs1 ws1) (h2 : SpF N w c1 (p1 + 1) yc1 yw1 cs1 ws1 c2 p2 yc2 yw2 cs2 ws2) (h3 : SpI (c2 + 1) c2 (upd yc2 c2 a) (upd yw2 c2 b) (upd cs2 c2 d)) : SpF N w c p yc yw cs ws (c2 + 1) p2 (upd yc2 c2 a) (upd yw2 c2 b) (upd cs2 c2 d) ws2 := by
  obtain ⟨a1, a2, a3, a4, a5, a6, a7⟩ := h1
  obtain ⟨b1, b2, b3, b4, b5, b6, b7⟩ := h2
  refine ⟨by omega, by omega, by omega, b4, fun i hi => ?_, fun i hi => ?_, fun i hi1 hi2 => ?_⟩
  · rw [b5 i hi]; exact a5 i hi
  · obtain ⟨g1, g2, g3⟩ := b6 i (by omega)
    obtain ⟨k1, k2, k3⟩ := a6 i hi
    rw [upd_ne (by omega), upd_ne (by omega), upd_ne (by omega)]
    exact ⟨g1.trans k1, g2.trans k2, g3.trans k3⟩
  · by_cases e : i = c2
    · subst e; exact h3
    · rcases Nat.lt_or_ge i c1 with z | z
      · obtain ⟨g1, g2, g3⟩ := b6 i z
        refine SpI_mono (a7 i hi1 z) z (by omega) (fun j hj => ?_) ?_ ?_
        · rw [upd_ne (by omega)]; exact (b6 j hj).1
        · rw [upd_ne e]; exact g2
        · rw [upd_ne e]; exact g3
      · refine SpI_mono (b7 i z (by omega)) (by omega) (by omega) (fun j hj => ?_) ?_ ?_
        · rw [upd_ne (by omega)]
        · rw [upd_ne e]
        · rw [upd_ne e]
/-- a leap, what follows it, and the leap's end -/
theorem SpF_jump {x a b d e f : Int32} (h1 : SpF N w c p yc yw cs ws c1 p1 yc1 yw1 cs1 ws1) (h2 : SpF N (w + 1) (c1 + 1) (p1 + 1) (upd yc1 c1 a) (upd yw1 c1 b) (upd cs1 c1 d) (upd ws1 w x) c2 p2 yc2 yw2 cs2 ws2) (h3 : SpI c2 c1 yc2 (upd yw2 c1 e) (upd cs2 c1 f)) : SpF N w c p yc yw cs ws c2 p2 yc2 (upd yw2 c1 e) (upd cs2 c1 f) ws2 := by
  obtain ⟨a1, a2, a3, a4, a5, a6, a7⟩ := h1
  obtain ⟨b1, b2, b3, b4, b5, b6, b7⟩ := h2
  refine ⟨by omega, by omega, by omega, b4, fun i hi => ?_, fun i hi => ?_, fun i hi1 hi2 => ?_⟩
  · rw [b5 i (by omega), upd_ne (by omega)]; exact a5 i hi
  · obtain ⟨g1, g2, g3⟩ := b6 i (by omega)
    obtain ⟨k1, k2, k3⟩ := a6 i hi
    rw [upd_ne (by omega)] at g1 g2 g3
    rw [upd_ne (by omega), upd_ne (by omega)]
    exact ⟨g1.trans k1, g2.trans k2, g3.trans k3⟩
  · by_cases e : i = c1
    · subst e; exact h3
    · rcases Nat.lt_or_ge i c1 with z | z
      · obtain ⟨g1, g2, g3⟩ := b6 i (by omega)
        rw [upd_ne (by omega)] at g1 g2 g3
        refine SpI_mono (a7 i hi1 z) z (by omega) (fun j hj => ?_) ?_ ?_
        · rw [(b6 j (by omega)).1, upd_ne (by omega)]
        · rw [upd_ne e]; exact g2
        · rw [upd_ne e]; exact g3
      · refine SpI_mono (b7 i (by omega) hi2) (by omega) (by omega) (fun j hj => rfl) ?_ ?_
        · rw [upd_ne e]
        · rw [upd_ne e]
theorem SpF_D (h1 : SpF N w c p yc yw cs ws c1 p1 yc1 yw1 cs1 ws1) {i : Nat} (hi : i ≤ c) : spD yc1 i = spD yc i ∧ spB yc1 i = spB yc i := ⟨spD_eq (fun j hj => (h1.2.2.2.2.2.1 j (by omega)).1), spB_eq (fun j hj => (h1.2.2.2.2.2.1 j (by omega)).1)⟩
end FRAME
theorem spD_upd {yc : Nat → Int32} {c i : Nat} (hi : i ≤ c) (x : Int32) : spD (upd yc c x) i = spD yc i ∧ spB (upd yc c x) i = spB yc i := ⟨spD_eq (fun j hj => upd_ne (by omega)), spB_eq (fun j hj => upd_ne (by omega))⟩
theorem spD_next {yc : Nat → Int32} {c : Nat} (x : Int32) : spD (upd yc c x) (c + 1) = stx x (spD yc c) ∧ spB (upd yc c x) (c + 1) = decide (x = 2 ∨ x = 60 ∨ x = 61 ∨ x = 62) := by
  constructor
  · show stx (upd yc c x c) (spD (upd yc c x) c) = _
    rw [upd_same, (spD_upd (Nat.le_refl c) x).1]
  · show decide _ = _
    rw [upd_same]
section PRIM
variable {c w : Nat} {yc yw cs ws : Nat → Int32}
theorem xs_add (hc : c < 120) (a b : Int32) : f_X6_add a b yc yw (nI c) = some (nI c, upd yc c a, upd yw c b, nI (c + 1)) := by
  unfold f_X6_add g_X6_add_0
  rw [if_neg (show ¬ (120 : Int32) ≤ nI c from fun z => by have := (nI_leI (a := 120) (by omega) (by omega)).mp z; omega), if_pos (vin_nI hc (by omega)), nc c (by omega), nI_p]
theorem xs_any {k : Nat} (hk : k ≤ 120) (a b : Int32) (yc yw : Nat → Int32) : ∃ i yc' yw' k', f_X6_add a b yc yw (nI k) = some (i, yc', yw', nI k') ∧ k' ≤ 120 := by
  by_cases h : k < 120
  · exact ⟨_, _, _, k + 1, xs_add h a b, by omega⟩
  · obtain rfl : k = 120 := by omega
    unfold f_X6_add g_X6_add_0
    rw [if_pos (show (120 : Int32) ≤ nI 120 by decide)]
    exact ⟨_, _, _, 120, rfl, by omega⟩
theorem xs_lead {i : Nat} (hi : i < 120) (x : Int32) : f_X7_lead (nI i) yw x = some (upd yw i x) := by
  unfold f_X7_lead g_X7_lead_0
  rw [w_nI (a := 0) (b := 119) (aa := 0) (bb := 119) (by omega) (by omega) (by omega) rfl rfl, if_pos (by omega), Option.bind_some, if_neg (by decide), if_pos (vin_nI hi (by omega)), nc i (by omega)]
theorem xs_lead0 (x : Int32) : f_X7_lead (-1) yw x = some yw := by
  unfold f_X7_lead g_X7_lead_0
  rw [w_in, Option.bind_some, if_neg (show ¬ ((0 : Int32) ≤ -1 ∧ (-1 : Int32) ≤ 119) by decide), if_pos rfl]
theorem ms_note (hc : c < 180) (o v : Nat) : f_X12_notes (nI o) (nI v) (nI c) cs = some (nI (c + 1), upd cs c (nI (1048576 * o + v))) := by
  unfold f_X12_notes g_X12_notes_0
  rw [if_pos (vin_nI hc (by omega)), nc c (by omega), nI_p, show (1048576 : Int32) = nI 1048576 from rfl, pk_mul, nI_add]
/-- what waits on top -/
def sTp (ws : Nat → Int32) (w : Nat) : Int32 := if w = 0 then -1 else ws (w - 1) / 1048576
theorem ms_top (hw : w ≤ 180) : f_X12_top (nI w) ws = some (sTp ws w) := by
  unfold f_X12_top g_X12_top_0 sTp
  by_cases h : w = 0
  · subst h; rw [if_pos (show nI 0 = 0 from rfl), if_pos rfl]
  · rw [if_neg (show ¬ nI w = 0 from fun z => h ((nI_eq (b := 0) (by omega) (by omega)).mp z)), if_neg h, show nI w - 1 = nI (w - 1) from nI_m (by omega), if_pos (vin_nI (by omega) (by omega)), nc _ (by omega)]
theorem sTp_eq {ws' : Nat → Int32} (h : ∀ i, i < w → ws' i = ws i) : sTp ws' w = sTp ws w := by
  unfold sTp
  by_cases z : w = 0
  · rw [if_pos z, if_pos z]
  · rw [if_neg z, if_neg z, h _ (by omega)]
theorem row14 {o v : Nat} (ho : o ≤ 14) (hv : v < 1048576) : nI (1048576 * o + v) / 1048576 = nI o ∧ nI (1048576 * o + v) - nI (1048576 * o + v) / 1048576 * 1048576 = nI v := by
  constructor
  · rw [div32 (d := 1048576) (by omega) (by omega) (by omega) 1048576 rfl]; congr 1; omega
  · rw [rem32 (d := 1048576) (by omega) (by omega) (by omega) 1048576 rfl]; congr 1; omega
theorem sTp_s {o v : Nat} (ho : o ≤ 14) (hv : v < 1048576) (h : ws w = nI (1048576 * o + v)) : sTp ws (w + 1) = nI o := by
  unfold sTp
  rw [if_neg (by omega), show w + 1 - 1 = w by omega, h]
  exact (row14 ho hv).1
end PRIM
