/-! what the kinds do behind a step -/
def leak1 (K : Nat → Nat) (v : Nat) (s : (Nat → Nat) × Nat) : (Nat → Nat) × Nat := if K v = 1 ∧ 0 < s.1 v then (updN s.1 v (s.1 v - 1), s.2 + 1) else s
/-- the last k vats leak, by their numbers -/
def leaks (K : Nat → Nat) : Nat → (Nat → Nat) × Nat → (Nat → Nat) × Nat
  | 0, s => s
  | k + 1, s => leaks K k (leak1 K (5 - k) s)
def nxt (v : Nat) : Nat := if v = 5 then 0 else v + 1
def flow1 (K B : Nat → Nat) (v : Nat) (m : Nat → Nat) : Nat → Nat := if K v = 3 ∧ m (nxt v) + 2 ≤ m v ∧ m (nxt v) < B (nxt v) then updN (updN m v (m v - 1)) (nxt v) (m (nxt v) + 1) else m
def flows (K B : Nat → Nat) : Nat → (Nat → Nat) → Nat → Nat
  | 0, m => m
  | k + 1, m => flows K B k (flow1 K B (5 - k) m)
def aKinds (K B : Nat → Nat) (s : (Nat → Nat) × Nat) : (Nat → Nat) × Nat := (flows K B 6 (leaks K 6 s).1, (leaks K 6 s).2)
theorem nxt_lt {v : Nat} (h : v < 6) : nxt v < 6 := by unfold nxt; split <;> omega
theorem nxt_ne (v : Nat) : nxt v ≠ v := by unfold nxt; split <;> omega
theorem leak1_MB {K B : Nat → Nat} {s : (Nat → Nat) × Nat} (hm : MB B s.1) {v : Nat} (hv : v < 6) : MB B (leak1 K v s).1 ∧ (leak1 K v s).2 ≤ s.2 + 1 ∧ s.2 ≤ (leak1 K v s).2 := by
  have := hm v hv
  unfold leak1
  by_cases h : K v = 1 ∧ 0 < s.1 v
  · rw [if_pos h]; exact ⟨MB_upd hm (by omega), Nat.le_refl _, by show s.2 ≤ s.2 + 1; omega⟩
  · rw [if_neg h]; exact ⟨hm, by omega, Nat.le_refl _⟩
theorem leaks_MB {K B : Nat → Nat} : ∀ (k : Nat) (s : (Nat → Nat) × Nat), k ≤ 6 → MB B s.1 → MB B (leaks K k s).1 ∧ (leaks K k s).2 ≤ s.2 + k ∧ s.2 ≤ (leaks K k s).2
  | 0, s, _, hm => ⟨hm, Nat.le_refl _, Nat.le_refl _⟩
  | k + 1, s, hk, hm => by
    obtain ⟨h1, h2, h3⟩ := leak1_MB (K := K) hm (show 5 - k < 6 by omega)
    obtain ⟨q1, q2, q3⟩ := leaks_MB (K := K) k _ (by omega) h1
    exact ⟨q1, by show (leaks K k _).2 ≤ _; omega, by show _ ≤ (leaks K k _).2; omega⟩
theorem flow1_MB {K B m : Nat → Nat} (hm : MB B m) {v : Nat} (hv : v < 6) : MB B (flow1 K B v m) := by
  have h1 := hm v hv
  have h2 := hm _ (nxt_lt hv)
  unfold flow1
  by_cases h : K v = 3 ∧ m (nxt v) + 2 ≤ m v ∧ m (nxt v) < B (nxt v)
  · rw [if_pos h]; exact MB_upd (MB_upd hm (by omega)) (by omega)
  · rw [if_neg h]; exact hm
theorem flows_MB {K B : Nat → Nat} : ∀ (k : Nat) (m : Nat → Nat), k ≤ 6 → MB B m → MB B (flows K B k m)
  | 0, m, _, hm => hm
  | k + 1, m, hk, hm => flows_MB k _ (by omega) (flow1_MB hm (by omega))
theorem aKinds_MB {K B : Nat → Nat} {s : (Nat → Nat) × Nat} (hm : MB B s.1) : MB B (aKinds K B s).1 ∧ (aKinds K B s).2 ≤ s.2 + 6 ∧ s.2 ≤ (aKinds K B s).2 := by
  obtain ⟨h1, h2, h3⟩ := leaks_MB (K := K) 6 s (by omega) hm
  exact ⟨flows_MB 6 _ (by omega) h1, h2, h3⟩
/-- without leaking and joined vats nothing is done -/
theorem leaks_none {K : Nat → Nat} (hK : ∀ j, j < 6 → ¬ K j = 1) : ∀ (k : Nat) (s : (Nat → Nat) × Nat), k ≤ 6 → leaks K k s = s
  | 0, s, _ => rfl
  | k + 1, s, hk => by
    have e : leak1 K (5 - k) s = s := if_neg (fun h => hK _ (by omega) h.1)
    show leaks K k (leak1 K (5 - k) s) = s
    rw [e]; exact leaks_none hK k s (by omega)
theorem flows_none {K B : Nat → Nat} (hK : ∀ j, j < 6 → ¬ K j = 3) : ∀ (k : Nat) (m : Nat → Nat), k ≤ 6 → flows K B k m = m
  | 0, m, _ => rfl
  | k + 1, m, hk => by
    have e : flow1 K B (5 - k) m = m := if_neg (fun h => hK _ (by omega) h.1)
    show flows K B k (flow1 K B (5 - k) m) = m
    rw [e]; exact flows_none hK k m (by omega)
section KW
variable {K B : Nat → Nat} {kf b : Nat → Int32}
theorem kK (hk : R6 kf K) (hK : ∀ j, j < 6 → K j ≤ 3) {v c : Nat} (hv : v < 6) (hc : c < 10) {α : Type} {p q : α} : (if kf v = nI c then p else q) = (if K v = c then p else q) := by
  have := hK v hv
  rw [hk v hv]
  exact ite_eq (by omega) (by omega)
theorem x_flow (hb : R6 b B) {f : Nat → Int32} {m : Nat → Nat} (hf : R6 f m) (hm : MB B m) {v t : Nat} (hv : v < 6) (ht : t < 6) (hvt : t ≠ v) : ∃ f', f_X0_flow (nI v) (nI t) f b = some f' ∧ R6 f' (if m t + 2 ≤ m v ∧ m t < B t then updN (updN m v (m v - 1)) t (m t + 1) else m) := by
  have h1 := hm v hv
  have h2 := hm t ht
  unfold f_X0_flow g_X0_flow_0
  have e2 : f t + 2 = nI (m t + 2) := by rw [hf t ht, show (2 : Int32) = nI 2 from rfl, nI_add]
  rw [if_pos (vin_nI hv (by omega)), if_pos (vin_nI ht (by omega)), nc v (by omega), nc t (by omega), e2, hf v hv, ite_lt (by omega) (by omega), upd_ne hvt, hf t ht, hb t ht, ite_le (by omega) (by omega)]
  by_cases h3 : m t + 2 ≤ m v
  · rw [if_neg (by omega)]
    by_cases h4 : m t < B t
    · rw [if_neg (by omega), if_pos ⟨h3, h4⟩, nI_m (by omega), nI_p]
      exact ⟨_, rfl, R6_upd (R6_upd hf _ _) _ _⟩
    · rw [if_pos (by omega), if_neg (fun h => h4 h.2)]
      exact ⟨_, rfl, hf⟩
  · rw [if_pos (by omega), if_neg (fun h => h3 h.1)]
    exact ⟨_, rfl, hf⟩
theorem x_flows (hk : R6 kf K) (hK : ∀ j, j < 6 → K j ≤ 3) (hb : R6 b B) (rs sp : Int32) : ∀ (fu k : Nat) (f : Nat → Int32) (m : Nat → Nat), k ≤ 6 → k < fu → R6 f m → MB B m → ∃ f', g_X0_kindsWork_69 fu (nI (6 - k)) f sp kf b rs = some (f', sp) ∧ R6 f' (flows K B k m) := by
  intro fu
  induction fu with
  | zero => intro k f m h1 h2; omega
  | succ fu ih =>
    intro k f m h1 h2 hf hm
    simp only [g_X0_kindsWork_69]
    cases k with
    | zero =>
      rw [if_pos (by decide)]
      exact ⟨f, rfl, hf⟩
    | succ k =>
      have e5 : 6 - (k + 1) = 5 - k := by omega
      have hv : 5 - k < 6 := by omega
      rw [e5, if_neg (c6_le hv), if_pos (vin_nI hv (by omega)), nc _ (by omega), nI_s, show 5 - k + 1 = 6 - k by omega, show (3 : Int32) = nI 3 from rfl, kK hk hK hv (by omega)]
      show ∃ f', _ ∧ R6 f' (flows K B k (flow1 K B (5 - k) m))
      have hm' := flow1_MB (K := K) hm hv
      by_cases h3 : K (5 - k) = 3
      · rw [if_pos h3]
        have key : ∀ t : Nat, t = nxt (5 - k) → ∃ f', g_X0_kindsWork_105 (g_X0_kindsWork_69 fu) (nI (5 - k)) (nI (5 - k)) (nI t) f sp kf b rs = some (f', sp) ∧ R6 f' (flows K B k (flow1 K B (5 - k) m)) := by
          intro t ht
          subst ht
          obtain ⟨f1, e1, r1⟩ := x_flow hb hf hm hv (nxt_lt hv) (nxt_ne _)
          have er : R6 f1 (flow1 K B (5 - k) m) := by
            unfold flow1
            by_cases h4 : m (nxt (5 - k)) + 2 ≤ m (5 - k) ∧ m (nxt (5 - k)) < B (nxt (5 - k))
            · rw [if_pos h4] at r1; rw [if_pos ⟨h3, h4⟩]; exact r1
            · rw [if_neg h4] at r1; rw [if_neg (fun h => h4 h.2)]; exact r1
          simp only [g_X0_kindsWork_105]
          rw [e1, Option.bind_some, nI_s, show 5 - k + 1 = 6 - k by omega]
          exact ih k f1 _ (by omega) (by omega) er hm'
        by_cases h6 : k = 0
        · subst h6
          rw [if_pos (by decide)]
          exact key 0 rfl
        · rw [if_neg (by rw [i_le, nI_toInt (by omega)]; show ¬ (6 : Int) ≤ _; omega)]
          exact key (6 - k) (by unfold nxt; rw [if_neg (by omega)]; omega)
      · rw [if_neg h3]
        have e : flow1 K B (5 - k) m = m := if_neg (fun h => h3 h.1)
        rw [e]
        exact ih k f m (by omega) (by omega) hf hm
theorem x_leaks (hk : R6 kf K) (hK : ∀ j, j < 6 → K j ≤ 3) (hb : R6 b B) (rs : Int32) : ∀ (fu k : Nat) (f : Nat → Int32) (s : (Nat → Nat) × Nat), k ≤ 6 → k < fu → R6 f s.1 → MB B s.1 → ∃ f', g_X0_kindsWork_13 fu (nI (6 - k)) f (nI s.2) kf b rs = some (f', nI (leaks K k s).2) ∧ R6 f' (flows K B 6 (leaks K k s).1) := by
  intro fu
  induction fu with
  | zero => intro k f s h1 h2; omega
  | succ fu ih =>
    intro k f s h1 h2 hf hm
    simp only [g_X0_kindsWork_13]
    cases k with
    | zero =>
      rw [if_pos (by decide)]
      exact x_flows hk hK hb rs (nI s.2) FU 6 f s.1 (by omega) (by unfold FU; omega) hf hm
    | succ k =>
      have e5 : 6 - (k + 1) = 5 - k := by omega
      have hv : 5 - k < 6 := by omega
      have hq := hm _ hv
      obtain ⟨hm', -, -⟩ := leak1_MB (K := K) hm hv
      rw [e5, if_neg (c6_le hv), if_pos (vin_nI hv (by omega)), nc _ (by omega), nI_s, show 5 - k + 1 = 6 - k by omega, show (1 : Int32) = nI 1 from rfl, kK hk hK hv (by omega), hf _ hv, show (0 : Int32) = nI 0 from rfl, ite_le (by omega) (by omega)]
      show ∃ f', _ = some (f', nI (leaks K k (leak1 K (5 - k) s)).2) ∧ R6 f' (flows K B 6 (leaks K k (leak1 K (5 - k) s)).1)
      by_cases h3 : K (5 - k) = 1
      · rw [if_pos h3]
        by_cases h4 : 0 < s.1 (5 - k)
        · have e : leak1 K (5 - k) s = (updN s.1 (5 - k) (s.1 (5 - k) - 1), s.2 + 1) := if_pos ⟨h3, h4⟩
          rw [if_neg (by omega), e, show nI (s.1 (5 - k)) - nI 1 = nI (s.1 (5 - k) - 1) from pk_sub (by omega), nI_add]
          rw [e] at hm'
          exact ih k _ (updN s.1 (5 - k) (s.1 (5 - k) - 1), s.2 + 1) (by omega) (by omega) (R6_upd hf _ _) hm'
        · have e : leak1 K (5 - k) s = s := if_neg (fun h => h4 h.2)
          rw [if_pos (by omega), e]
          exact ih k f s (by omega) (by omega) hf hm
      · have e : leak1 K (5 - k) s = s := if_neg (fun h => h3 h.1)
        rw [if_neg h3, e]
        exact ih k f s (by omega) (by omega) hf hm
/-- the class's kindsWork; rs: whether some kind has work to do -/
theorem x_kinds (hk : R6 kf K) (hK : ∀ j, j < 6 → K j ≤ 3) (hb : R6 b B) {rs : Int32} (hrs : rs = 0 → ∀ j, j < 6 → ¬ K j = 1 ∧ ¬ K j = 3) {f : Nat → Int32} {s : (Nat → Nat) × Nat} (hf : R6 f s.1) (hm : MB B s.1) : ∃ f', f_X0_kindsWork f (nI s.2) kf b rs = some (f', nI (aKinds K B s).2) ∧ R6 f' (aKinds K B s).1 := by
  unfold f_X0_kindsWork g_X0_kindsWork_0
  by_cases h : rs = 0
  · have h2 := hrs h
    rw [if_pos h]
    have e1 := leaks_none (fun j hj => (h2 j hj).1) 6 s (by omega)
    have e2 := flows_none (B := B) (fun j hj => (h2 j hj).2) 6 s.1 (by omega)
    refine ⟨f, ?_, ?_⟩
    · show _ = some (f, nI (leaks K 6 s).2); rw [e1]
    · show R6 f (flows K B 6 (leaks K 6 s).1); rw [e1, e2]; exact hf
  · rw [if_neg h]
    exact x_leaks hk hK hb rs FU 6 f s (by omega) (by unfold FU; omega) hf hm
theorem m_flows (hk : R6 kf K) (hK : ∀ j, j < 6 → K j ≤ 3) (hb : R6 b B) (sp : Int32) : ∀ (fu k : Nat) (f : Nat → Int32) (m : Nat → Nat), k ≤ 6 → k < fu → R6 f m → MB B m → ∃ f', g_X12_kindsWork_62 fu (nI (6 - k)) kf b f sp = some (f', sp) ∧ R6 f' (flows K B k m) := by
  intro fu
  induction fu with
  | zero => intro k f m h1 h2; omega
  | succ fu ih =>
    intro k f m h1 h2 hf hm
    simp only [g_X12_kindsWork_62]
    cases k with
    | zero =>
      rw [if_pos (by decide)]
      exact ⟨f, rfl, hf⟩
    | succ k =>
      have e5 : 6 - (k + 1) = 5 - k := by omega
      have hv : 5 - k < 6 := by omega
      have hm' := flow1_MB (K := K) hm hv
      have hv1 := hm _ hv
      rw [e5, if_neg (c6_le hv), nI_s, show 5 - k + 1 = 6 - k by omega]
      show ∃ f', _ ∧ R6 f' (flows K B k (flow1 K B (5 - k) m))
      have key : ∀ t : Nat, t = nxt (5 - k) → ∃ f', g_X12_kindsWork_80 (g_X12_kindsWork_62 fu) (nI (5 - k)) (nI t) kf b f sp = some (f', sp) ∧ R6 f' (flows K B k (flow1 K B (5 - k) m)) := by
        intro t ht
        subst ht
        have htl := nxt_lt hv
        have ht1 := hm _ htl
        have hvt := nxt_ne (5 - k)
        have e2 : f (nxt (5 - k)) + 2 = nI (m (nxt (5 - k)) + 2) := by rw [hf _ htl, show (2 : Int32) = nI 2 from rfl, nI_add]
        simp only [g_X12_kindsWork_80]
        rw [if_pos (vin_nI hv (by omega)), nc _ (by omega), show (3 : Int32) = nI 3 from rfl, kK hk hK hv (by omega), if_pos (vin_nI htl (by omega)), nc _ (by omega), e2, hf _ hv, ite_lt (by omega) (by omega), upd_ne hvt, hf _ htl, hb _ htl, ite_lt (by omega) (by omega), nI_s, show 5 - k + 1 = 6 - k by omega]
        unfold flow1
        unfold flow1 at hm'
        by_cases h3 : K (5 - k) = 3
        · rw [if_pos h3]
          by_cases h4 : m (nxt (5 - k)) + 2 ≤ m (5 - k)
          · rw [if_neg (by omega)]
            by_cases h7 : m (nxt (5 - k)) < B (nxt (5 - k))
            · rw [if_pos h7, if_pos ⟨h3, h4, h7⟩, nI_m (by omega), nI_p]
              rw [if_pos ⟨h3, h4, h7⟩] at hm'
              exact ih k _ _ (by omega) (by omega) (R6_upd (R6_upd hf _ _) _ _) hm'
            · rw [if_neg h7, if_neg (fun h => h7 h.2.2)]
              exact ih k f m (by omega) (by omega) hf hm
          · rw [if_pos (by omega), if_neg (fun h => h4 h.2.1)]
            exact ih k f m (by omega) (by omega) hf hm
        · rw [if_neg h3, if_neg (fun h => h3 h.1)]
          exact ih k f m (by omega) (by omega) hf hm
      rw [show (5 : Int32) = nI 5 from rfl, ite_eq (by omega) (by omega)]
      by_cases h6 : k = 0
      · subst h6
        rw [if_pos rfl]
        exact key 0 rfl
      · rw [if_neg (by omega)]
        exact key (6 - k) (by unfold nxt; rw [if_neg (by omega)]; omega)
theorem m_leaks (hk : R6 kf K) (hK : ∀ j, j < 6 → K j ≤ 3) (hb : R6 b B) : ∀ (fu k : Nat) (f : Nat → Int32) (s : (Nat → Nat) × Nat), k ≤ 6 → k < fu → R6 f s.1 → MB B s.1 → ∃ f', g_X12_kindsWork_2 fu (nI (6 - k)) kf b f (nI s.2) = some (f', nI (leaks K k s).2) ∧ R6 f' (flows K B 6 (leaks K k s).1) := by
  intro fu
  induction fu with
  | zero => intro k f s h1 h2; omega
  | succ fu ih =>
    intro k f s h1 h2 hf hm
    simp only [g_X12_kindsWork_2]
    cases k with
    | zero =>
      rw [if_pos (by decide)]
      exact m_flows hk hK hb (nI s.2) FU 6 f s.1 (by omega) (by unfold FU; omega) hf hm
    | succ k =>
      have e5 : 6 - (k + 1) = 5 - k := by omega
      have hv : 5 - k < 6 := by omega
      have hq := hm _ hv
      obtain ⟨hm', -, -⟩ := leak1_MB (K := K) hm hv
      rw [e5, if_neg (c6_le hv), if_pos (vin_nI hv (by omega)), nc _ (by omega), nI_s, show 5 - k + 1 = 6 - k by omega, show (1 : Int32) = nI 1 from rfl, kK hk hK hv (by omega), hf _ hv, show (0 : Int32) = nI 0 from rfl, ite_eq (by omega) (by omega)]
      show ∃ f', _ = some (f', nI (leaks K k (leak1 K (5 - k) s)).2) ∧ R6 f' (flows K B 6 (leaks K k (leak1 K (5 - k) s)).1)
      by_cases h3 : K (5 - k) = 1
      · rw [if_pos h3]
        by_cases h4 : 0 < s.1 (5 - k)
        · have e : leak1 K (5 - k) s = (updN s.1 (5 - k) (s.1 (5 - k) - 1), s.2 + 1) := if_pos ⟨h3, h4⟩
          rw [if_neg (by omega), e, show nI (s.1 (5 - k)) - nI 1 = nI (s.1 (5 - k) - 1) from pk_sub (by omega), nI_add]
          rw [e] at hm'
          exact ih k _ (updN s.1 (5 - k) (s.1 (5 - k) - 1), s.2 + 1) (by omega) (by omega) (R6_upd hf _ _) hm'
        · have e : leak1 K (5 - k) s = s := if_neg (fun h => h4 h.2)
          rw [if_pos (by omega), e]
          exact ih k f s (by omega) (by omega) hf hm
      · have e : leak1 K (5 - k) s = s := if_neg (fun h => h3 h.1)
        rw [if_neg h3, e]
        exact ih k f s (by omega) (by omega) hf hm
theorem m_kinds (hk : R6 kf K) (hK : ∀ j, j < 6 → K j ≤ 3) (hb : R6 b B) {f : Nat → Int32} {s : (Nat → Nat) × Nat} (hf : R6 f s.1) (hm : MB B s.1) : ∃ f', f_X12_kindsWork kf b f (nI s.2) = some (f', nI (aKinds K B s).2) ∧ R6 f' (aKinds K B s).1 := m_leaks hk hK hb FU 6 f s (by omega) (by unfold FU; omega) hf hm
end KW
