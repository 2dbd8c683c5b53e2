/-! the search of both -/
section BFS
variable {K B : Nat → Nat} {kf b y2 y3 y5 y6 y7 y8 y11 ms : Nat → Int32} {rs x6 x7 x8 : Int32} {tg : Nat → Nat}
theorem bfs_both (hk : R6 kf K) (hK : ∀ j, j < 6 → K j ≤ 3) (hb : R6 b B) (hB : ∀ j, j < 6 → B j ≤ 99) (hrs : rs = 0 → ∀ j, j < 6 → ¬ K j = 1 ∧ ¬ K j = 3) (hN : prB (WB B) 6 ≤ 20000) (h5 : R6 y5 (prB (WB B))) (hRP : RP y6 y7 y8) (htg : okM B tg) :
    ∀ (r q d le c n fuX fuM : Nat) (Q : Nat → QE) (fr qu row frow bya deep seen base now y36 : Nat → Int32) (x3 x4 x5 x39 x40 x41 : Int32), prB (WB B) 6 - q ≤ r → q < le → le ≤ c → 0 < d → d ≤ 100 → (∀ i, q ≤ i → i < le → (Q i).2.2.2 + 1 = d) → (∀ i, le ≤ i → i < c → (Q i).2.2.2 = d) → JB B c Q fr qu row frow bya deep seen → (∀ i, i < c → (Q i).1 ≠ tg) → le - q < fuX → 100 - d < n → prB (WB B) 6 - q < fuM →
      (∃ u w, g_X3_seek_104 (g_X3_seek_80 n) fuX (nI (ixN B tg)) (nI d) (nI le) (nI q) y2 y3 base y5 y6 y7 y8 fr qu (nI c) y11 now x3 x4 x5 x6 x7 x8 kf b ms rs = some u ∧ u.1 = -1 ∧ g_X12_goesThrough_55 fuM (nI (imN B tg)) (nI c) (nI q) kf b y36 x39 x40 x41 row frow bya deep seen = some w ∧ w.1 = -1) ∨ (∃ (c' : Nat) (Q' : Nat → QE) (fr' qu' row' frow' bya' deep' seen' : Nat → Int32) (g : (Nat → Int32) → (Nat → Int32) × (Nat → Int32) × (Nat → Int32) × (Nat → Int32) × (Nat → Int32) × Int32 × (Nat → Int32) × (Nat → Int32) × Int32 × Int32 × Int32 × Int32 × Int32 × Int32) (y36' : Nat → Int32) (b1 b2 b3 : Int32), JB B c' Q' fr' qu' row' frow' bya' deep' seen' ∧ 0 < c' - 1 ∧ (Q' (c' - 1)).1 = tg ∧ (Q' (c' - 1)).2.2.2 ≤ 100 ∧ (∀ z, (g z).1 = z) ∧ g_X3_seek_104 (g_X3_seek_80 n) fuX (nI (ixN B tg)) (nI d) (nI le) (nI q) y2 y3 base y5 y6 y7 y8 fr qu (nI c) y11 now x3 x4 x5 x6 x7 x8 kf b ms rs = (f_X3_retrace (nI (ixN B tg)) (nI (Q' (c' - 1)).2.2.2) y3 fr').bind (fun u3 => some (nI (Q' (c' - 1)).2.2.2, g u3)) ∧ g_X12_goesThrough_55 fuM (nI (imN B tg)) (nI c) (nI q) kf b y36 x39 x40 x41 row frow bya deep seen = some (nI (c' - 1), y36', b1, b2, b3, row', frow', bya', deep', seen')) := by
  intro r
  induction r with
  | zero =>
    intro q d le c n fuX fuM Q fr qu row frow bya deep seen base now y36 x3 x4 x5 x39 x40 x41 h1 h2 h3 h4 h5' h6 h7 hJ
    have := JB_len hJ
    omega
  | succ r ih =>
    intro q d le c n fuX fuM Q fr qu row frow bya deep seen base now y36 x3 x4 x5 x39 x40 x41 h1 h2 h3 h4 h5' h6 h7 hJ hnt f1 f2 f3
    have hlen := JB_len hJ
    obtain ⟨fuX, rfl⟩ : ∃ f, fuX = f + 1 := ⟨fuX - 1, by omega⟩
    obtain ⟨fuM, rfl⟩ : ∃ f, fuM = f + 1 := ⟨fuM - 1, by omega⟩
    have hokq := hJ.1.2 q (by omega)
    have hdq := h6 q (Nat.le_refl _) h2
    obtain ⟨j3a, j3b, j3c⟩ := hJ.2.2.1 q (by omega)
    obtain ⟨base', u1, u2⟩ := x_unfold hb hB hokq.1 hN FU 6 base (by omega) (by unfold FU; omega) (fun j hj => absurd hj (by omega))
    have u1' : f_X3_unfold (nI (ixN B (Q q).1)) base b = some base' := u1
    obtain ⟨c', Q', fr', qu', row', frow', bya', deep', seen', now', a3, a4, a5, y36', b1, b2, b3, z1, z2, z3, z4, z5⟩ := acts_both (q := q) (base := base') (tg := tg) hk hK hb hB hrs hN h5 hRP htg (g_X12_goesThrough_55 fuM) 84 FU FU c Q fr qu row frow bya deep seen false now y36 x3 x4 x5 x39 x40 x41 (by omega) (by unfold FU; omega) (by unfold FU; omega) hJ hnt (by omega) (fun h => absurd h (by decide)) u2
    have eX : g_X3_seek_104 (g_X3_seek_80 n) (fuX + 1) (nI (ixN B tg)) (nI d) (nI le) (nI q) y2 y3 base y5 y6 y7 y8 fr qu (nI c) y11 now x3 x4 x5 x6 x7 x8 kf b ms rs = (g_X3_goFrom_10 FU (nI (ixN B (Q q).1)) (nI (ixN B tg)) 0 0 base' y5 y6 y7 y8 fr qu (nI c) now x3 x4 x5 kf b rs).bind (fun u2 => (if u2.1 = 0 then g_X3_seek_104 (g_X3_seek_80 n) fuX (nI (ixN B tg)) (nI d) (nI le) (nI (q + 1)) y2 y3 u2.2.1 y5 y6 y7 y8 u2.2.2.1 u2.2.2.2.1 u2.2.2.2.2.1 y11 u2.2.2.2.2.2.1 u2.2.2.2.2.2.2.1 u2.2.2.2.2.2.2.2.1 u2.2.2.2.2.2.2.2.2 x6 x7 x8 kf b ms rs else (f_X3_retrace (nI (ixN B tg)) (nI d) y3 u2.2.2.1).bind (fun u3 => some (nI d, u3, u2.2.1, y5, u2.2.2.1, u2.2.2.2.1, u2.2.2.2.2.1, y11, u2.2.2.2.2.2.1, u2.2.2.2.2.2.2.1, u2.2.2.2.2.2.2.2.1, u2.2.2.2.2.2.2.2.2, x6, x7, x8)))) := by
      simp only [g_X3_seek_104]
      rw [ite_le (by omega) (by omega), if_neg (by omega), if_pos (vin_nI (show q < 20000 by omega) (by omega)), nc q (by omega), j3a, nI_s]
      unfold f_X3_goFrom g_X3_goFrom_0
      rw [u1', Option.bind_some]
    have eM : g_X12_goesThrough_55 (fuM + 1) (nI (imN B tg)) (nI c) (nI q) kf b y36 x39 x40 x41 row frow bya deep seen = g_X12_goesThrough_76 (g_X12_goesThrough_55 fuM) FU (nI (imN B tg)) (nI c) (nI q) 0 kf b y36 x39 x40 x41 row frow bya deep seen := by
      simp only [g_X12_goesThrough_55]
      rw [ite_le (by omega) (by omega), if_neg (by omega), if_pos (vin_nI (show q < 20000 by omega) (by omega)), nc q (by omega), j3c, if_neg (show ¬ (100 : Int32) ≤ nI (Q q).2.2.2 from fun h => by have := (nI_leI (a := 100) (by omega) (by omega)).mp h; omega)]
    have hlen' := JB_len z1
    rcases z5 with ⟨w1, w2, w3⟩ | ⟨w0, w1, w2, w3⟩
    · have w2' : g_X3_goFrom_10 FU (nI (ixN B (Q q).1)) (nI (ixN B tg)) 0 0 base' y5 y6 y7 y8 fr qu (nI c) now x3 x4 x5 kf b rs = _ := w2
      have w3' : g_X12_goesThrough_76 (g_X12_goesThrough_55 fuM) FU (nI (imN B tg)) (nI c) (nI q) 0 kf b y36 x39 x40 x41 row frow bya deep seen = _ := w3
      rw [eX, eM, w2', Option.bind_some, w3', if_pos (show (0 : Int32) = 0 from rfl), nI_s]
      dsimp only
      have hd' : ∀ i, le ≤ i → i < c' → (Q' i).2.2.2 = d := by
        intro i hi1 hi2
        rcases Nat.lt_or_ge i c with z | z
        · rw [z3 i z]; exact h7 i hi1 z
        · rw [z4 i z hi2]; exact hdq
      rcases Nat.lt_or_ge (q + 1) le with hql | hql
      · exact ih (q + 1) d le c' n fuX fuM Q' fr' qu' row' frow' bya' deep' seen' base' now' y36' a3 a4 a5 b1 b2 b3 (by omega) hql (by omega) h4 h5' (fun i hi1 hi2 => by rw [z3 i (by omega)]; exact h6 i (by omega) hi2) hd' z1 w1 (by omega) f2 (by omega)
      · have hqe : q + 1 = le := by omega
        obtain ⟨fuX, rfl⟩ : ∃ f, fuX = f + 1 := ⟨fuX - 1, by omega⟩
        obtain ⟨fuM, rfl⟩ : ∃ f, fuM = f + 1 := ⟨fuM - 1, by omega⟩
        obtain ⟨n, rfl⟩ : ∃ f, n = f + 1 := ⟨n - 1, by omega⟩
        have eX2 : g_X3_seek_104 (g_X3_seek_80 (n + 1)) (fuX + 1) (nI (ixN B tg)) (nI d) (nI le) (nI (q + 1)) y2 y3 base' y5 y6 y7 y8 fr' qu' (nI c') y11 now' a3 a4 a5 x6 x7 x8 kf b ms rs = (if 100 < d + 1 then some ((-1), y3, base', y5, fr', qu', nI c', y11, now', a3, a4, a5, x6, x7, x8) else (if c' ≤ le then some ((-1), y3, base', y5, fr', qu', nI c', y11, now', a3, a4, a5, x6, x7, x8) else g_X3_seek_104 (g_X3_seek_80 n) FU (nI (ixN B tg)) (nI (d + 1)) (nI c') (nI le) y2 y3 base' y5 y6 y7 y8 fr' qu' (nI c') y11 now' a3 a4 a5 x6 x7 x8 kf b ms rs)) := by
          simp only [g_X3_seek_104, g_X3_seek_80]
          rw [ite_le (by omega) (by omega), if_pos (by omega), nI_s, show (if 100 < nI (d + 1) then some (-1, y3, base', y5, fr', qu', nI c', y11, now', a3, a4, a5, x6, x7, x8) else (if nI c' ≤ nI le then some (-1, y3, base', y5, fr', qu', nI c', y11, now', a3, a4, a5, x6, x7, x8) else g_X3_seek_104 (g_X3_seek_80 n) FU (nI (ixN B tg)) (nI (d + 1)) (nI c') (nI le) y2 y3 base' y5 y6 y7 y8 fr' qu' (nI c') y11 now' a3 a4 a5 x6 x7 x8 kf b ms rs)) = (if 100 < d + 1 then some (-1, y3, base', y5, fr', qu', nI c', y11, now', a3, a4, a5, x6, x7, x8) else (if nI c' ≤ nI le then some (-1, y3, base', y5, fr', qu', nI c', y11, now', a3, a4, a5, x6, x7, x8) else g_X3_seek_104 (g_X3_seek_80 n) FU (nI (ixN B tg)) (nI (d + 1)) (nI c') (nI le) y2 y3 base' y5 y6 y7 y8 fr' qu' (nI c') y11 now' a3 a4 a5 x6 x7 x8 kf b ms rs)) from ite_lt (a := 100) (b := d + 1) (by omega) (by omega), ite_le (by omega) (by omega)]
        rw [eX2, hqe]
        rcases Nat.lt_or_ge le c' with hlc | hlc
        · by_cases hd100 : d = 100
          · left
            rw [if_pos (by omega)]
            simp only [g_X12_goesThrough_55]
            obtain ⟨-, -, jd⟩ := z1.2.2.1 le hlc
            rw [ite_le (by omega) (by omega), if_neg (by omega), if_pos (vin_nI (show le < 20000 by omega) (by omega)), nc le (by omega), jd, hd' le (Nat.le_refl _) hlc, hd100, if_pos (by decide)]
            exact ⟨_, _, rfl, rfl, rfl, rfl⟩
          · rw [if_neg (by omega), if_neg (by omega)]
            exact ih le (d + 1) c' c' n FU (fuM + 1) Q' fr' qu' row' frow' bya' deep' seen' base' now' y36' a3 a4 a5 b1 b2 b3 (by omega) hlc (Nat.le_refl _) (by omega) (by omega) (fun i hi1 hi2 => by rw [hd' i hi1 hi2]) (fun i hi1 hi2 => absurd hi2 (by omega)) z1 w1 (by unfold FU; omega) (by omega) (by omega)
        · left
          simp only [g_X12_goesThrough_55]
          rw [ite_le (by omega) (by omega), if_pos (show c' ≤ le from hlc), if_pos (show c' ≤ le from hlc)]
          by_cases h100 : 100 < d + 1
          · rw [if_pos h100]; exact ⟨_, _, rfl, rfl, rfl, rfl⟩
          · rw [if_neg h100]; exact ⟨_, _, rfl, rfl, rfl, rfl⟩
    · right
      have w2' : g_X3_goFrom_10 FU (nI (ixN B (Q q).1)) (nI (ixN B tg)) 0 0 base' y5 y6 y7 y8 fr qu (nI c) now x3 x4 x5 kf b rs = _ := w2
      have w3' : g_X12_goesThrough_76 (g_X12_goesThrough_55 fuM) FU (nI (imN B tg)) (nI c) (nI q) 0 kf b y36 x39 x40 x41 row frow bya deep seen = _ := w3
      have hDd : (Q' (c' - 1)).2.2.2 = d := by rw [z4 (c' - 1) (by omega) (by omega)]; exact hdq
      refine ⟨c', Q', fr', qu', row', frow', bya', deep', seen', fun u3 => (u3, base', y5, fr', qu', nI c', y11, now', a3, a4, a5, x6, x7, x8), y36', b1, b2, b3, z1, by omega, w1, by omega, fun _ => rfl, ?_, ?_⟩
      · rw [eX, w2', Option.bind_some, if_neg (show ¬ (1 : Int32) = 0 by decide), hDd]
      · rw [eM, w3']
end BFS
/-- the acts of the way to a place of the queue -/
def trc (Q : Nat → QE) : Nat → Nat → Nat → Nat
  | 0, _, _ => 0
  | D + 1, p, i => if i = D then (Q p).2.2.1 else trc Q D (Q p).2.1 i
section TRACE
variable {B : Nat → Nat} {c : Nat} {Q : Nat → QE} {fr qu row frow bya deep seen : Nat → Int32}
theorem x_retr (hN : prB (WB B) 6 ≤ 20000) (h : JB B c Q fr qu row frow bya deep seen) : ∀ (D fu p : Nat) (y3 : Nat → Int32), p < c → (Q p).2.2.2 = D → D ≤ 100 → D < fu → ∃ y3', g_X3_retrace_7 fu (nI (ixN B (Q p).1)) (nI D - 1) y3 fr = some y3' ∧ (∀ i, i < D → y3' i = nI (trc Q D p i)) ∧ ∀ i, D ≤ i → y3' i = y3 i := by
  intro D
  induction D with
  | zero =>
    intro fu p y3 h1 h2 h3 h4
    obtain ⟨fu, rfl⟩ : ∃ f, fu = f + 1 := ⟨fu - 1, by omega⟩
    simp only [g_X3_retrace_7]
    rw [if_pos (by decide)]
    exact ⟨y3, rfl, fun i hi => absurd hi (by omega), fun _ _ => rfl⟩
  | succ D ih =>
    intro fu p y3 h1 h2 h3 h4
    obtain ⟨fu, rfl⟩ : ∃ f, fu = f + 1 := ⟨fu - 1, by omega⟩
    have hp0 : 0 < p := by
      rcases Nat.eq_zero_or_pos p with z | z
      · have := h.2.2.2.2.2.2; rw [z] at h2; omega
      · exact z
    obtain ⟨j1, j2, j3, j4, j5, j6⟩ := h.2.2.2.2.2.1 p hp0 h1
    have hix := ixN_lt (h.1.2 p h1).1
    have hixq := ixN_lt (h.1.2 (Q p).2.1 (by omega)).1
    have e1 : nI (ixN B (Q (Q p).2.1).1 * 84 + (Q p).2.2.1 + 1) - 1 = nI (ixN B (Q (Q p).2.1).1 * 84 + (Q p).2.2.1) := nI_m (by omega)
    simp only [g_X3_retrace_7]
    rw [show nI (D + 1) - 1 = nI D from nI_m (by omega), if_neg (c0_lt (by omega)), if_pos (vin_nI (by omega) (by omega)), nc (ixN B (Q p).1) (by omega), j1, e1, if_pos (show (0 : Int32) ≤ nI (ixN B (Q (Q p).2.1).1 * 84 + (Q p).2.2.1) from (nI_leI (a := 0) (by omega) (by omega)).mpr (by omega)), if_pos (vin_nI (by omega) (by omega)), nc D (by omega), rem32 (d := 84) (by omega) (by omega) (by omega) 84 rfl, div32 (d := 84) (by omega) (by omega) (by omega) 84 rfl, nI_neg1, show (ixN B (Q (Q p).2.1).1 * 84 + (Q p).2.2.1) / 84 = ixN B (Q (Q p).2.1).1 by omega, show (ixN B (Q (Q p).2.1).1 * 84 + (Q p).2.2.1) % 84 = (Q p).2.2.1 by omega]
    obtain ⟨y3', t1, t2, t3⟩ := ih fu (Q p).2.1 (upd y3 D (nI (Q p).2.2.1)) (by omega) (by omega) (by omega) (by omega)
    refine ⟨y3', t1, fun i hi => ?_, fun i hi => ?_⟩
    · show y3' i = nI (if i = D then (Q p).2.2.1 else trc Q D (Q p).2.1 i)
      by_cases hiD : i = D
      · rw [if_pos hiD, t3 i (by omega), hiD, upd_same]
      · rw [if_neg hiD]; exact t2 i (by omega)
    · rw [t3 i (by omega), upd_ne (by omega)]
theorem m_retr (hN : prB (WB B) 6 ≤ 20000) (h : JB B c Q fr qu row frow bya deep seen) {what : Nat} (hwh : what < 100) {k4 k5 k6 k7 z36 z48 z49 z52 z54 : Nat → Int32} {x8 x39 x40 x41 : Int32} : ∀ (D fu p : Nat) (y53 : Nat → Int32), p < c → (Q p).2.2.2 = D → D ≤ 100 → D < fu → ∃ u, ∃ y53' : Nat → Int32, g_X12_shortest_169 fu (nI what) (nI p) (nI D - 1) k4 k5 k6 k7 x8 z36 x39 x40 x41 z48 z49 frow bya z52 y53 z54 = some u ∧ u.1 = y53' what ∧ u.2.1 = x8 ∧ (∀ i, i < D → y53' i = nI (trc Q D p i)) ∧ ∀ i, D ≤ i → y53' i = y53 i := by
  intro D
  induction D with
  | zero =>
    intro fu p y53 h1 h2 h3 h4
    obtain ⟨fu, rfl⟩ : ∃ f, fu = f + 1 := ⟨fu - 1, by omega⟩
    simp only [g_X12_shortest_169]
    rw [if_pos (by decide), if_pos (vin_nI hwh (by omega)), nc what (by omega)]
    exact ⟨_, y53, rfl, rfl, rfl, fun i hi => absurd hi (by omega), fun _ _ => rfl⟩
  | succ D ih =>
    intro fu p y53 h1 h2 h3 h4
    obtain ⟨fu, rfl⟩ : ∃ f, fu = f + 1 := ⟨fu - 1, by omega⟩
    have hp0 : 0 < p := by
      rcases Nat.eq_zero_or_pos p with z | z
      · have := h.2.2.2.2.2.2; rw [z] at h2; omega
      · exact z
    have hlen := JB_len h
    obtain ⟨j1, j2, j3, j4, j5, j6⟩ := h.2.2.2.2.2.1 p hp0 h1
    simp only [g_X12_shortest_169]
    rw [show nI (D + 1) - 1 = nI D from nI_m (by omega), if_neg (c0_lt (by omega)), if_pos (vin_nI (show p < 20000 by omega) (by omega)), if_pos (vin_nI (show D < 100 by omega) (by omega)), nc p (by omega), nc D (by omega), j2, j3, nI_neg1]
    obtain ⟨u, y53', t1, t2, t2b, t3, t4⟩ := ih fu (Q p).2.1 (upd y53 D (nI (Q p).2.2.1)) (by omega) (by omega) (by omega) (by omega)
    refine ⟨u, y53', t1, t2, t2b, fun i hi => ?_, fun i hi => ?_⟩
    · show y53' i = nI (if i = D then (Q p).2.2.1 else trc Q D (Q p).2.1 i)
      by_cases hiD : i = D
      · rw [if_pos hiD, t4 i (by omega), hiD, upd_same]
      · rw [if_neg hiD]; exact t3 i (by omega)
    · rw [t4 i (by omega), upd_ne (by omega)]
end TRACE
