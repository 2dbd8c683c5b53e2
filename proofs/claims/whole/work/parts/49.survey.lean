/-! runs and the spec as functions of the beginning -/
abbrev RUN (n : Nat) (P : PG) (kf b : Nat → Int32) (lim : Nat) (m : Nat → Nat) (co : Nat) : AS := aRun n P (absN kf) (absN b) lim (st0 m co)
section RUNF
variable {w n : Nat} {P : PG} {kf b ms : Nat → Int32} {rs : Int32} {lim co : Nat} {m : Nat → Nat}
theorem RUN_ok (hw : PWf n P) (hp0 : stp0 n P) (hco : co < 1009) (hm : MB (absN b) m) : PHb (absN b) (RUN n P kf b lim m co).1 :=
  aRun_ok hw (s := st0 m co) ⟨hm, Nat.zero_le _, Nat.zero_le _, hco⟩ hp0
theorem x_goR (hn : n ≤ 120) (hw : PWf n P) (hp0 : stp0 n P) {c fi se nx ot : Nat → Int32} (hX : RX n P c fi se nx ot) (hV : RV kf b ms rs) (hlim : lim ≤ 20000) (hco : co < 1009) (hm : MB (absN b) m) (hz : Z6 m) {nx0 : Nat → Int32} (h1 : R6 nx0 m) (mk : Nat → Int32) (x10 x11 x12 x13 x14 : Int32) :
    ∃ (f' mk' : Nat → Int32) (p' a1 a2 a3 a4 a5 : Int32), f_X0_go (nI lim) nx0 0 0 (nI co) 0 0 0 mk x10 x11 x12 x13 x14 c fi se nx ot (nI n) kf b rs = some (f', nI (RUN n P kf b lim m co).1.2.1, nI (RUN n P kf b lim m co).1.2.2.1, nI (RUN n P kf b lim m co).1.2.2.2, nI (RUN n P kf b lim m co).2.1, p', nI (RUN n P kf b lim m co).2.2.2, mk', a1, a2, a3, a4, a5) ∧ R6 f' (RUN n P kf b lim m co).1.1 := by
  obtain ⟨k1, k2, k3, k4, k5, k6⟩ := RV_abs hV
  exact x_go (s := st0 m co) hn hw k1 k2 k3 k6 hX hlim mk x10 x11 x12 x13 x14 rfl (Nat.zero_le _) h1 ⟨hm, Nat.zero_le _, Nat.zero_le _, hco⟩ hz hp0 (Nat.zero_le _)
theorem m_runR (hw3 : w < 3) (hn : n ≤ 120) {op a bb lo : Nat → Int32} (hlo : lo w = nI n) (hw : PWf n P) (hp0 : stp0 n P) (hM : RMo w n P op a bb) (hV : RV kf b ms rs) (hlim : lim ≤ 20000) (hco : co < 1009) (hm : MB (absN b) m) {nm0 : Nat → Int32} (h2 : R6 nm0 m) :
    ∃ (g' : Nat → Int32) (p' : Nat), f_X12_runsOn (nI w) (nI lim) kf b op a bb lo nm0 0 0 0 0 (nI co) 0 = some (g', nI p', nI (RUN n P kf b lim m co).2.1, nI (RUN n P kf b lim m co).1.2.1, nI (RUN n P kf b lim m co).1.2.2.1, nI (RUN n P kf b lim m co).1.2.2.2, nI (RUN n P kf b lim m co).2.2.2) ∧ R6 g' (RUN n P kf b lim m co).1.1 := by
  obtain ⟨k1, k2, k3, k4, k5, k6⟩ := RV_abs hV
  exact m_runs (s := st0 m co) hw3 hn hlo hw hM k1 k2 k3 hlim h2 ⟨hm, Nat.zero_le _, Nat.zero_le _, hco⟩ (Nat.zero_le _) hp0 (by show 0 < 10; omega) (Nat.zero_le _)
theorem m_startt (y : Nat → Int32) (a1 a2 a3 a4 a5 a6 : Int32) : ∀ (fu i : Nat) (bg nw : Nat → Int32), i ≤ 6 → 7 ≤ fu + i → g_X12_startsFromt_2 fu (nI i) bg nw a1 a2 a3 a4 a5 a6 y = some (cpI i y bg, cpI i y nw, 0, 0, 0, 0, 0, 0) := by
  intro fu
  induction fu with
  | zero => intro i bg nw h1 h2; omega
  | succ fu ih =>
    intro i bg nw h1 h2
    simp only [g_X12_startsFromt_2]
    rcases Nat.lt_or_ge i 6 with hi | hi
    · rw [if_neg (c6_le hi), if_pos (vin_nI hi (by omega)), nc i (by omega), nI_s, ih (i + 1) _ _ (by omega) (by omega), cpI_step hi, cpI_step hi]
    · have hi6 : i = 6 := by omega
      subst hi6
      rw [if_pos c6_ge, cpI_6, cpI_6]
theorem m_starttF (y bg nw : Nat → Int32) (a1 a2 a3 a4 a5 a6 : Int32) : f_X12_startsFromt bg nw a1 a2 a3 a4 a5 a6 y = some (cpI 0 y bg, cpI 0 y nw, 0, 0, 0, 0, 0, 0) := m_startt y a1 a2 a3 a4 a5 a6 FU 0 bg nw (by omega) (by unfold FU; omega)
theorem x_follow (hn : n ≤ 120) (hw : PWf n P) (hp0 : stp0 n P) {c fi se nx ot : Nat → Int32} (hX : RX n P c fi se nx ot) (hV : RV kf b ms rs) (hm : MB (absN b) m) (hz : Z6 m) {y0 : Nat → Int32} (h1 : R6 y0 m) (d1 d2 : Nat → Int32) (e3 e4 e5 e6 e7 e8 : Int32) (mk : Nat → Int32) (x10 x11 x12 x13 x14 : Int32) :
    ∃ (f' mk' : Nat → Int32) (p' a1 a2 a3 a4 a5 : Int32), f_X8_follow y0 d1 d2 e3 e4 e5 e6 e7 e8 mk x10 x11 x12 x13 x14 c fi se nx ot (nI n) kf b rs = some (cpI 0 y0 d1, f', nI (RUN n P kf b 2000 m 0).1.2.1, nI (RUN n P kf b 2000 m 0).1.2.2.1, nI (RUN n P kf b 2000 m 0).1.2.2.2, nI (RUN n P kf b 2000 m 0).2.1, p', nI (RUN n P kf b 2000 m 0).2.2.2, mk', a1, a2, a3, a4, a5) ∧ R6 f' (RUN n P kf b 2000 m 0).1.1 := by
  obtain ⟨f', mk', p', a1, a2, a3, a4, a5, q1, q2⟩ := x_goR hn hw hp0 hX hV (lim := 2000) (co := 0) (by omega) (by omega) hm hz (R6_cpI (g := d2) h1) mk x10 x11 x12 x13 x14
  refine ⟨f', mk', p', a1, a2, a3, a4, a5, ?_, q2⟩
  unfold f_X8_follow g_X8_follow_0
  rw [x_start, Option.bind_some]
  dsimp only
  have q1' : f_X0_go 2000 (cpI 0 y0 d2) 0 0 0 0 0 0 mk x10 x11 x12 x13 x14 c fi se nx ot (nI n) kf b rs = _ := q1
  rw [q1', Option.bind_some]
theorem m_runsF (hw3 : w < 3) (hn : n ≤ 120) {op a bb lo : Nat → Int32} (hlo : lo w = nI n) (hw : PWf n P) (hp0 : stp0 n P) (hM : RMo w n P op a bb) (hV : RV kf b ms rs) (hm : MB (absN b) m) {y : Nat → Int32} (h2 : R6 y m) (d1 d2 : Nat → Int32) (e3 e4 e5 e6 e7 e8 : Int32) :
    ∃ (g' : Nat → Int32) (p' : Nat), f_X12_runsFrom (nI w) kf b op a bb lo d1 d2 e3 e4 e5 e6 e7 e8 y = some (cpI 0 y d1, g', nI p', nI (RUN n P kf b 2000 m 0).2.1, nI (RUN n P kf b 2000 m 0).1.2.1, nI (RUN n P kf b 2000 m 0).1.2.2.1, nI (RUN n P kf b 2000 m 0).1.2.2.2, nI (RUN n P kf b 2000 m 0).2.2.2) ∧ R6 g' (RUN n P kf b 2000 m 0).1.1 := by
  obtain ⟨g', p', q1, q2⟩ := m_runR hw3 hn hlo hw hp0 hM hV (lim := 2000) (co := 0) (by omega) (by omega) hm (R6_cpI (g := d2) h2)
  refine ⟨g', p', ?_, q2⟩
  unfold f_X12_runsFrom g_X12_runsFrom_0
  rw [m_starttF, Option.bind_some]
  dsimp only
  have q1' : f_X12_runsOn (nI w) 2000 kf b op a bb lo (cpI 0 y d2) 0 0 0 0 0 0 = _ := q1
  rw [q1', Option.bind_some]
end RUNF
theorem b01_inj {r s : Bool} (h : (if r = true then (1 : Int32) else 0) = (if s = true then 1 else 0)) : r = s := by
  cases r <;> cases s
  · rfl
  · exact absurd h (by decide)
  · exact absurd h (by decide)
  · rfl
/-- whether the spec holds, by beginning, end, and what is known -/
theorem spec_fun {c wi co : Nat → Int32} {sz sm : Int32} (hS : RS c wi sz co sm) (bg nw : Nat → Int32) (st sp cl en : Int32) :
    ∃ (r : Bool), (∀ (bx nx hh : Nat → Int32) (x4 x5 x6 : Int32), (∀ j, j < 6 → bx j = bg j) → (∀ j, j < 6 → nx j = nw j) → ∃ (hx' : Nat → Int32) (y4 y5 y6 : Int32), f_X6_holds c wi sz hh x4 x5 x6 bx nx sp cl st en = some ((if r = true then 1 else 0), hx', y4, y5, y6)) ∧ (∀ (bm nm y20 y21 : Nat → Int32), (∀ j, j < 6 → bm j = bg j) → (∀ j, j < 6 → nm j = nw j) → ∃ (y20' y21' : Nat → Int32), f_X12_specHolds sm co y20 y21 bm nm st sp cl en = some ((if r = true then 1 else 0), y20', y21')) := by
  obtain ⟨r, ⟨hx0, y40, y50, y60, e1⟩, y200, y210, e2⟩ := spec_pair hS (bx := bg) (nx := nw) (bm := bg) (nm := nw) (fun _ _ => rfl) (fun _ _ => rfl) (fun _ => 0) 0 0 0 (fun _ => 0) (fun _ => 0) st sp cl en
  refine ⟨r, fun bx nx hh x4 x5 x6 h1 h2 => ?_, fun bm nm y20 y21 h1 h2 => ?_⟩
  · obtain ⟨r', ⟨hx', y4, y5, y6, e3⟩, y20', y21', e4⟩ := spec_pair hS (bx := bx) (nx := nx) (bm := bg) (nm := nw) h1 h2 hh x4 x5 x6 (fun _ => 0) (fun _ => 0) st sp cl en
    rw [e2] at e4
    have e5 := congrArg Prod.fst (Option.some.inj e4)
    have e6 : r = r' := b01_inj e5
    subst e6
    exact ⟨hx', y4, y5, y6, e3⟩
  · obtain ⟨r', ⟨hx', y4, y5, y6, e3⟩, y20', y21', e4⟩ := spec_pair hS (bx := bg) (nx := nw) (bm := bm) (nm := nm) (fun j hj => (h1 j hj).symm) (fun j hj => (h2 j hj).symm) (fun _ => 0) 0 0 0 y20 y21 st sp cl en
    rw [e1] at e3
    have e5 := congrArg Prod.fst (Option.some.inj e3)
    have e6 : r = r' := b01_inj e5
    subst e6
    exact ⟨y20', y21', e4⟩
/-! the survey's loops -/
theorem m_findsF (b : Bool) (y f : Nat → Int32) {c : Nat} (hc : c < 100000) : f_X12_finds (if b = true then 1 else 0) y f (nI c) = some ((if b = true ∧ c = 0 then cpI 0 y f else f), nI (if b = true then c + 1 else c)) := by
  have key : ∀ (fu i : Nat) (g : Nat → Int32), i ≤ 6 → 7 ≤ fu + i → g_X12_finds_7 fu (nI i) y g (nI 0) = some (cpI i y g, nI 1) := by
    intro fu
    induction fu with
    | zero => intro i g h1 h2; omega
    | succ fu ih =>
      intro i g h1 h2
      simp only [g_X12_finds_7]
      rcases Nat.lt_or_ge i 6 with hi | hi
      · rw [if_neg (c6_le hi), if_pos (show nI 0 = 0 from rfl), if_pos (vin_nI hi (by omega)), nc i (by omega), nI_s, ih (i + 1) _ (by omega) (by omega), cpI_step hi]
      · have hi6 : i = 6 := by omega
        subst hi6
        rw [if_pos c6_ge, cpI_6]
        rfl
  unfold f_X12_finds g_X12_finds_0
  cases b with
  | false => rw [if_pos (by rfl), if_neg (fun h => absurd h.1 (by decide)), if_neg (by decide)]
  | true =>
    rw [if_neg (by decide)]
    by_cases h0 : c = 0
    · subst h0
      rw [if_pos ⟨rfl, rfl⟩, if_pos rfl]
      exact key FU 0 f (by omega) (by unfold FU; omega)
    · rw [if_neg (fun h => h0 h.2), if_pos rfl]
      have key2 : ∀ fu, g_X12_finds_7 (fu + 1) 0 y f (nI c) = some (f, nI (c + 1)) := by
        intro fu
        simp only [g_X12_finds_7]
        rw [if_neg (by decide), if_neg (show ¬ nI c = 0 from fun x => h0 ((nI_eq (b := 0) (by omega) (by omega)).mp x))]
        unfold g_X12_finds_38
        rw [nI_p]
      exact key2 999999
theorem m_tells {v : Int32} (hv : v = -1 ∨ ∃ k, k < 6 ∧ v = nI k) (f : Nat → Int32) (q : Nat × (Nat → Nat)) (hq : q.1 < 100000) (hf : 0 < q.1 → R6 f q.2) : f_X12_tellsFound v f (nI q.1) = some (ansB v q) := by
  unfold f_X12_tellsFound g_X12_tellsFound_0 ansB
  by_cases h : v = -1
  · rw [if_pos h, if_pos h]
  · rw [if_neg h, if_neg h]
    obtain ⟨k, hk, rfl⟩ := hv.resolve_left h
    rw [show (0 : Int32) = nI 0 from rfl, ite_eq (by omega) (by omega)]
    by_cases h0 : q.1 = 0
    · rw [if_pos h0, if_pos h0]
    · rw [if_neg h0, if_neg h0, if_pos (vin_nI hk (by omega)), nc k (by omega), hf (by omega) k hk]
theorem walkB_le {p : (Nat → Nat) → Bool} {W : Nat → Nat} : ∀ (r : Nat) (m : Nat → Nat) (c : Nat) (f : Nat → Nat), (walkB p W r m c f).1 ≤ c + r
  | 0, m, c, f => Nat.le_refl _
  | r + 1, m, c, f => by
    have h := walkB_le (p := p) (W := W) r (nextB W 6 m).2 (if p m = true then c + 1 else c) (if p m = true ∧ c = 0 then m else f)
    have h2 : (if p m = true then c + 1 else c) ≤ c + 1 := by split <;> omega
    show (walkB p W r _ _ _).1 ≤ _
    omega
/-- which of two ways an ended test goes; whether there are more beginnings -/
theorem more_iff {C : Nat → Bool} {bnd : Nat} {B M : Nat → Nat} {m : Nat → Nat} (h : InvB C bnd B M m) {r : Nat} (hr : rkB (waysB C bnd B) 6 m + (r + 1) = prB (waysB C bnd B) 6) : (if (nextB (waysB C bnd B) 6 m).1 = true then (1 : Int32) else 0) = (if r = 0 then 0 else 1) ∧ (0 < r → rkB (waysB C bnd B) 6 (nextB (waysB C bnd B) 6 m).2 + r = prB (waysB C bnd B) 6) := by
  obtain ⟨i1, i2, -, -⟩ := nextB_ok (W := waysB C bnd B) 6 m (fun j _ => waysB_1 _ _ _ _) (InvB_dig h)
  have h' := rkB_lt (W := waysB C bnd B) 6 _ (fun j _ => waysB_1 _ _ _ _) (InvB_dig (InvB_next h))
  cases hb : (nextB (waysB C bnd B) 6 m).1 with
  | true =>
    have e := i1 hb
    rw [e] at h'
    refine ⟨?_, fun _ => by rw [e]; omega⟩
    rw [if_pos rfl, if_neg (by omega)]
  | false =>
    have e := i2 hb
    refine ⟨?_, fun _ => by omega⟩
    rw [if_neg (by decide), if_pos (by omega)]
theorem waysB_lt {C : Nat → Bool} {bnd : Nat} {B : Nat → Nat} (hbnd : bnd ≤ 20) (j : Nat) : waysB C bnd B j ≤ 21 := by
  unfold waysB; split <;> omega
theorem InvB_1000 {C : Nat → Bool} {bnd : Nat} {B M : Nat → Nat} {m : Nat → Nat} (h : InvB C bnd B M m) (hM : MB B M) : ∀ j, j < 6 → m j < 1000 := by
  intro j hj
  have := InvB_MB h hM j hj
  omega
