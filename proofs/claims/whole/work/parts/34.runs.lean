/-! runs of the abstract machine: what is alike from standings that are alike -/
theorem leaks_sp (K : Nat → Nat) : ∀ (k : Nat) (m : Nat → Nat), ∃ d, ∀ sp, leaks K k (m, sp) = ((leaks K k (m, 0)).1, sp + d)
  | 0, m => ⟨0, fun sp => rfl⟩
  | k + 1, m => by
    by_cases h : K (5 - k) = 1 ∧ 0 < m (5 - k)
    · obtain ⟨d, hd⟩ := leaks_sp K k (updN m (5 - k) (m (5 - k) - 1))
      have e : ∀ sp, leak1 K (5 - k) (m, sp) = (updN m (5 - k) (m (5 - k) - 1), sp + 1) := fun sp => if_pos h
      refine ⟨d + 1, fun sp => ?_⟩
      show leaks K k (leak1 K (5 - k) (m, sp)) = ((leaks K k (leak1 K (5 - k) (m, 0))).1, _)
      rw [e, e, hd (sp + 1), hd (0 + 1)]
      show (_, sp + 1 + d) = (_, sp + (d + 1))
      rw [Nat.add_assoc, Nat.add_comm 1 d]
    · obtain ⟨d, hd⟩ := leaks_sp K k m
      have e : ∀ sp, leak1 K (5 - k) (m, sp) = (m, sp) := fun sp => if_neg h
      refine ⟨d, fun sp => ?_⟩
      show leaks K k (leak1 K (5 - k) (m, sp)) = ((leaks K k (leak1 K (5 - k) (m, 0))).1, _)
      rw [e, e]; exact hd sp
theorem kinds_sp (K B m : Nat → Nat) : ∃ (m' : Nat → Nat) (d : Nat), ∀ sp, aKinds K B (m, sp) = (m', sp + d) := by
  obtain ⟨d, hd⟩ := leaks_sp K 6 m
  refine ⟨flows K B 6 (leaks K 6 (m, 0)).1, d, fun sp => ?_⟩
  unfold aKinds
  rw [hd sp]
/-- what is done to spilt, cloth and colour by an act, from given measures -/
def effP (f : PH → PH) (m m' : Nat → Nat) (a b c : Nat) : Prop := ∀ sp cl co, co < 1009 → f (m, sp, cl, co) = (m', sp + a, cl + b, (7 ^ b * co + c) % 1009)
theorem c0m {co : Nat} (h : co < 1009) : (7 ^ 0 * co + 0) % 1009 = co := by rw [Nat.pow_zero, Nat.one_mul, Nat.add_zero, Nat.mod_eq_of_lt h]
theorem eff_id (m : Nat → Nat) : effP (fun s => s) m m 0 0 0 := by
  intro sp cl co h
  rw [c0m h]
  rfl
theorem eff_comp {f g : PH → PH} {m m1 m2 : Nat → Nat} {a b c a' b' c' : Nat} (h1 : effP f m m1 a b c) (h2 : effP g m1 m2 a' b' c') : effP (fun s => g (f s)) m m2 (a + a') (b + b') (7 ^ b' * c + c') := by
  intro sp cl co h
  show g (f (m, sp, cl, co)) = _
  rw [h1 sp cl co h, h2 _ _ _ (Nat.mod_lt _ (by omega))]
  have e : (7 ^ b' * ((7 ^ b * co + c) % 1009) + c') % 1009 = (7 ^ (b + b') * co + (7 ^ b' * c + c')) % 1009 := by
    rw [Nat.add_mod, Nat.mul_mod, Nat.mod_mod, ← Nat.mul_mod, ← Nat.add_mod, Nat.mul_add, ← Nat.mul_assoc, ← Nat.pow_add, Nat.add_comm b' b, Nat.add_assoc]
  rw [e, Nat.add_assoc, Nat.add_assoc]
theorem eff_act (B : Nat → Nat) (o x y : Nat) (m : Nat → Nat) : ∃ m' a b c, effP (aAct B o x y) m m' a b c := by
  by_cases o0 : o = 0
  · subst o0
    by_cases h : m x < B x
    · refine ⟨updN m x (m x + 1), 0, 0, 0, fun sp cl co hc => ?_⟩
      rw [aAct0]
      show (if m x < B x then _ else _) = _
      rw [if_pos h]
      rw [c0m hc]
      rfl
    · refine ⟨m, 1, 0, 0, fun sp cl co hc => ?_⟩
      rw [aAct0]
      show (if m x < B x then _ else _) = _
      rw [if_neg h]
      rw [c0m hc]
      rfl
  · by_cases o1 : o = 1
    · subst o1
      by_cases h : 0 < m x
      · refine ⟨updN m x (m x - 1), 0, 1, x + 1, fun sp cl co hc => ?_⟩
        rw [aAct1]
        show (if 0 < m x then _ else _) = _
        rw [if_pos h]
        rw [Nat.pow_one, ← Nat.add_assoc]
        rfl
      · refine ⟨m, 0, 0, 0, fun sp cl co hc => ?_⟩
        rw [aAct1]
        show (if 0 < m x then _ else _) = _
        rw [if_neg h]
        exact eff_id m sp cl co hc
    · have e : ∀ s : PH, aAct B o x y s = (if x = y then s else (updN (updN s.1 x (s.1 x - min (if o = 2 then s.1 x else s.1 x / 2) (B y - s.1 y))) y (s.1 y + min (if o = 2 then s.1 x else s.1 x / 2) (B y - s.1 y)), s.2)) := by
        intro s; unfold aAct; rw [if_neg o0, if_neg o1]
      by_cases h : x = y
      · refine ⟨m, 0, 0, 0, fun sp cl co hc => ?_⟩
        rw [e, if_pos h]
        exact eff_id m sp cl co hc
      · refine ⟨updN (updN m x (m x - min (if o = 2 then m x else m x / 2) (B y - m y))) y (m y + min (if o = 2 then m x else m x / 2) (B y - m y)), 0, 0, 0, fun sp cl co hc => ?_⟩
        rw [e, if_neg h]
        rw [c0m hc]
        rfl
theorem eff_rep (B : Nat → Nat) (o x y : Nat) : ∀ (t : Nat) (m : Nat → Nat), ∃ m' a b c, effP (aRep B o x y t) m m' a b c
  | 0, m => ⟨m, 0, 0, 0, eff_id m⟩
  | t + 1, m => by
    obtain ⟨m1, a, b, c, h1⟩ := eff_act B o x y m
    obtain ⟨m2, a', b', c', h2⟩ := eff_rep B o x y t m1
    exact ⟨m2, a + a', b + b', 7 ^ b' * c + c', fun sp cl co hc => eff_comp h1 h2 sp cl co hc⟩
theorem eff_kinds (K B m : Nat → Nat) : ∃ m' a b c, effP (kindsPH K B) m m' a b c := by
  obtain ⟨m', d, h⟩ := kinds_sp K B m
  refine ⟨m', d, 0, 0, fun sp cl co hc => ?_⟩
  unfold kindsPH
  show ((aKinds K B (m, sp)).1, (aKinds K B (m, sp)).2, cl, co) = _
  rw [h sp]
  rw [c0m hc]
  rfl
/-- what a row of steps does to all that counts, from a given standing -/
def effS (f : AS → AS) (m : Nat → Nat) (pl en : Nat) (m' : Nat → Nat) (pl' en' a b c k : Nat) : Prop := ∀ sp cl co st, co < 1009 → f ((m, sp, cl, co), st, pl, en) = ((m', sp + a, cl + b, (7 ^ b * co + c) % 1009), st + k, pl', en')
theorem eff_step (n : Nat) (P : PG) (K B : Nat → Nat) (t : Nat) (m : Nat → Nat) (pl en : Nat) : ∃ m' pl' en' a b c, effS (aStep n P K B t) m pl en m' pl' en' a b c 1 := by
  by_cases h4 : (P pl).1 = 4
  · obtain ⟨m', a, b, c, h⟩ := eff_kinds K B m
    refine ⟨m', (if K (P pl).2.1 = 2 ∨ m (P pl).2.1 = 0 then chf n P n (P pl).2.2 else chf n P n (pl + 1)), en, a, b, c, fun sp cl co st hc => ?_⟩
    unfold aStep
    dsimp only
    rw [if_pos h4, h sp cl co hc]
  · by_cases h6 : (P pl).1 = 6
    · obtain ⟨m', a, b, c, h⟩ := eff_kinds K B m
      refine ⟨m', n, 2, a, b, c, fun sp cl co st hc => ?_⟩
      unfold aStep
      dsimp only
      rw [if_neg h4, if_pos h6, h sp cl co hc]
    · obtain ⟨m1, a, b, c, h1⟩ := eff_rep B (P pl).1 (P pl).2.1 (P pl).2.2 t m
      obtain ⟨m2, a', b', c', h2⟩ := eff_kinds K B m1
      refine ⟨m2, chf n P n (pl + 1), en, a + a', b + b', 7 ^ b' * c + c', fun sp cl co st hc => ?_⟩
      unfold aStep
      dsimp only
      have e := eff_comp h1 h2 sp cl co hc
      rw [if_neg h4, if_neg h6]
      show (kindsPH K B (aRep B (P pl).1 (P pl).2.1 (P pl).2.2 t (m, sp, cl, co)), _, _, _) = _
      rw [show kindsPH K B (aRep B (P pl).1 (P pl).2.1 (P pl).2.2 t (m, sp, cl, co)) = _ from e]
def it (n : Nat) (P : PG) (K B : Nat → Nat) : Nat → AS → AS
  | 0, s => s
  | k + 1, s => it n P K B k (aStep n P K B 1 s)
theorem it_add (n : Nat) (P : PG) (K B : Nat → Nat) : ∀ (a b : Nat) (s : AS), it n P K B (a + b) s = it n P K B b (it n P K B a s)
  | 0, b, s => by rw [Nat.zero_add]; rfl
  | a + 1, b, s => by
    rw [show a + 1 + b = (a + b) + 1 by omega]
    exact it_add n P K B a b _
theorem it_succ (n : Nat) (P : PG) (K B : Nat → Nat) (k : Nat) (s : AS) : it n P K B (k + 1) s = aStep n P K B 1 (it n P K B k s) := it_add n P K B k 1 s
theorem effS_comp {f g : AS → AS} {m m1 m2 : Nat → Nat} {pl en pl1 en1 pl2 en2 a b c k a' b' c' k' : Nat} (h1 : effS f m pl en m1 pl1 en1 a b c k) (h2 : effS g m1 pl1 en1 m2 pl2 en2 a' b' c' k') : effS (fun s => g (f s)) m pl en m2 pl2 en2 (a + a') (b + b') (7 ^ b' * c + c') (k + k') := by
  intro sp cl co st h
  show g (f _) = _
  rw [h1 sp cl co st h, h2 _ _ _ _ (Nat.mod_lt _ (by omega))]
  have e : (7 ^ b' * ((7 ^ b * co + c) % 1009) + c') % 1009 = (7 ^ (b + b') * co + (7 ^ b' * c + c')) % 1009 := by
    rw [Nat.add_mod, Nat.mul_mod, Nat.mod_mod, ← Nat.mul_mod, ← Nat.add_mod, Nat.mul_add, ← Nat.mul_assoc, ← Nat.pow_add, Nat.add_comm b' b, Nat.add_assoc]
  rw [e, Nat.add_assoc, Nat.add_assoc, Nat.add_assoc]
theorem eff_it (n : Nat) (P : PG) (K B : Nat → Nat) : ∀ (k : Nat) (m : Nat → Nat) (pl en : Nat), ∃ m' pl' en' a b c, effS (it n P K B k) m pl en m' pl' en' a b c k
  | 0, m, pl, en => by
    refine ⟨m, pl, en, 0, 0, 0, fun sp cl co st h => ?_⟩
    rw [c0m h]
    rfl
  | k + 1, m, pl, en => by
    obtain ⟨m1, pl1, en1, a, b, c, h1⟩ := eff_step n P K B 1 m pl en
    obtain ⟨m2, pl2, en2, a', b', c', h2⟩ := eff_it n P K B k m1 pl1 en1
    have h3 := effS_comp h1 h2
    rw [Nat.add_comm 1 k] at h3
    exact ⟨m2, pl2, en2, a + a', b + b', 7 ^ b' * c + c', fun sp cl co st hc => h3 sp cl co st hc⟩
/-- whole rounds: back at the same standing after k steps -/
theorem it_rounds {n : Nat} {P : PG} {K B : Nat → Nat} {m : Nat → Nat} {pl en a b c k : Nat} (h : effS (it n P K B k) m pl en m pl en a b c k) : ∀ (r sp cl co st : Nat), co < 1009 → ∃ co', co' < 1009 ∧ it n P K B (r * k) ((m, sp, cl, co), st, pl, en) = ((m, sp + r * a, cl + r * b, co'), st + r * k, pl, en)
  | 0, sp, cl, co, st, hc => ⟨co, hc, by rw [Nat.zero_mul, Nat.zero_mul, Nat.zero_mul]; rfl⟩
  | r + 1, sp, cl, co, st, hc => by
    obtain ⟨co', h1, h2⟩ := it_rounds h r (sp + a) (cl + b) ((7 ^ b * co + c) % 1009) (st + k) (Nat.mod_lt _ (by omega))
    refine ⟨co', h1, ?_⟩
    rw [Nat.succ_mul, Nat.add_comm (r * k) k, it_add, h sp cl co st hc, h2, Nat.succ_mul, Nat.succ_mul, Nat.add_assoc, Nat.add_assoc, Nat.add_assoc, Nat.add_comm a (r * a), Nat.add_comm b (r * b)]
/-- the colour, round by round -/
def colr (b c : Nat) : Nat → Nat → Nat
  | 0, co => co
  | r + 1, co => colr b c r ((7 ^ b * co + c) % 1009)
theorem it_roundsC {n : Nat} {P : PG} {K B : Nat → Nat} {m : Nat → Nat} {pl en a b c k : Nat} (h : effS (it n P K B k) m pl en m pl en a b c k) : ∀ (r sp cl co st : Nat), co < 1009 → it n P K B (r * k) ((m, sp, cl, co), st, pl, en) = ((m, sp + r * a, cl + r * b, colr b c r co), st + r * k, pl, en)
  | 0, sp, cl, co, st, hc => by rw [Nat.zero_mul, Nat.zero_mul, Nat.zero_mul]; rfl
  | r + 1, sp, cl, co, st, hc => by
    have h2 := it_roundsC h r (sp + a) (cl + b) ((7 ^ b * co + c) % 1009) (st + k) (Nat.mod_lt _ (by omega))
    rw [Nat.succ_mul, Nat.add_comm (r * k) k, it_add, h sp cl co st hc, h2, Nat.succ_mul, Nat.succ_mul, Nat.add_assoc, Nat.add_assoc, Nat.add_assoc, Nat.add_comm a (r * a), Nat.add_comm b (r * b)]
    rfl
