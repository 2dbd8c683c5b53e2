/-! specs: a factor of both -/
def MF (f n : Nat) (b : Int32) (t : Nat → Int32) (p N fl op c w lt : Int32) (cs ws : Nat → Int32) : Option MT := (g_X12_readsFactor_0 f t p N fl op c w lt cs ws).bind (fun u3 => (if u3.1 = 0 then some (0, u3.2.1, u3.2.2.1, u3.2.2.2.1, u3.2.2.2.2.1, u3.2.2.2.2.2.1, u3.2.2.2.2.2.2.1, u3.2.2.2.2.2.2.2.1, u3.2.2.2.2.2.2.2.2) else g_X12_readsSum_14 n b t u3.2.1 N u3.2.2.1 u3.2.2.2.1 u3.2.2.2.2.1 u3.2.2.2.2.2.1 u3.2.2.2.2.2.2.1 u3.2.2.2.2.2.2.2.1 u3.2.2.2.2.2.2.2.2))
/-- what stands when both have read on; the reference's waiting signs give the rest -/
def SpS (L N w c p : Nat) (yc yw cs ws : Nat → Int32) (c' p' n' cm wm : Nat) (yc' yw' csm cs' ws' : Nat → Int32) : Prop := (∃ e, e ≤ L ∧ ∀ s : Int32, (L ≤ 1 ∨ s = 1) → ∀ fu, g_X12_closesSums_0 (fu + e) s (nI cm) (nI wm) csm ws' = g_X12_closesSums_0 fu s (nI c') (nI w) cs' ws') ∧ w ≤ wm ∧ wm ≤ w + L ∧ (∀ i, w ≤ i → i < wm → ¬ ws' i / 1048576 = 14) ∧ SpF N w c p yc yw cs ws c' p' yc' yw' cs' ws' ∧ N < n' + p' ∧ spD yc' c' = spD yc c + 1 ∧ spB yc' c' = false
def SpQ (L : Nat) (q : Int32 → Prop) (t : Nat → Int32) (N b op w c p : Nat) (yc yw cs ws : Nat → Int32) (X : Option XT) (M : Option MT) : Prop := Flt X M ∨ ∃ (c' p' n' cm wm : Nat) (yc' yw' csm cs' ws' : Nat → Int32) (fx' fm' lt' : Int32), X = some (1, yc', yw', nI c', nI p', fx') ∧ M = g_X12_readsSum_14 n' (nI b) t (nI p') (nI N) fm' (nI op) (nI cm) (nI wm) lt' csm ws' ∧ q (sgn t N p') ∧ SpS L N w c p yc yw cs ws c' p' n' cm wm yc' yw' csm cs' ws'
abbrev KX : Type := Int32 → (Nat → Int32) → (Nat → Int32) → Int32 → (Nat → Int32) → Int32 → Int32 → Int32 → Option (Int32 × (Nat → Int32) × (Nat → Int32) × Int32 × Int32 × Int32)
def KT (t : Nat → Int32) (N op : Nat) (K : KX) : Prop := ∀ (f n b w c p : Nat) (yc yw cs ws : Nat → Int32) (fx fl lt : Int32), 7 - op ≤ f → N < n + p → c ≤ p → w ≤ p → p ≤ N → b ≤ w → spB yc c = false → (sTp ws w < 2 ∨ 6 < sTp ws w) → SpQ 2 (fun x => ¬ isS x ∧ ¬ isP x) t N b op w c p yc yw cs ws (K (nI op) yc yw (nI c) t (nI p) (nI N) fx) (MF f n (nI b) t (nI p) (nI N) fl (nI op) (nI c) (nI w) lt cs ws)
section OPENS
variable {p w op : Nat} {ws : Nat → Int32}
theorem ms_opens (hw : w < 180) (o : Nat) (fl : Int32) (hop : op < 6) : f_X12_opens (nI o) (nI p) fl (nI op) (nI w) ws = some (1, nI (p + 1), fl, nI (op + 1), nI (w + 1), upd ws w (nI (1048576 * o + 0))) := by
  unfold f_X12_opens g_X12_opens_0
  rw [if_neg (show ¬ nI op = 6 from fun z => by have := (nI_eq (b := 6) (by omega) (by omega)).mp z; omega), if_pos (vin_nI hw (by omega)), nc w (by omega), nI_p, nI_p, nI_p, show (1048576 : Int32) = nI 1048576 from rfl, pk_mul]
  rfl
theorem ms_opens6 (o : Nat) (fl : Int32) (x : Int32) : f_X12_opens (nI o) (nI p) fl (nI 6) x ws = some (0, nI p, ft 5 p, nI 6, x, ws) := by
  unfold f_X12_opens g_X12_opens_0
  rw [if_pos (show nI 6 = 6 from rfl)]
  rfl
theorem xs_can (hop : op < 6) (fx : Int32) : f_X9_canOpen (nI op) (nI p) fx = some (1, fx) := by
  unfold f_X9_canOpen g_X9_canOpen_0
  rw [if_pos (show nI op < 6 from (nI_ltI (b := 6) (by omega) (by omega)).mpr hop)]
theorem xs_can6 (fx : Int32) : f_X9_canOpen (nI 6) (nI p) fx = some (0, ft 5 p) := by
  unfold f_X9_canOpen g_X9_canOpen_0
  rw [if_neg (show ¬ nI 6 < 6 by decide)]
  rfl
theorem xs_skip : f_X9_skip (nI p) = some (nI (p + 1)) := by
  show some (nI p + 1) = _
  rw [nI_p]
end OPENS
section FACTOR
variable {t : Nat → Int32} {N : Nat}
/-- a sum's end: waiting signs give their rows -/
theorem sum_close {L w c p : Nat} {yc yw cs ws : Nat → Int32} {c' p' n' cm wm : Nat} {yc' yw' csm cs' ws' : Nat → Int32} (hL : L ≤ 2) (hw : w ≤ 180) (h : SpS L N w c p yc yw cs ws c' p' n' cm wm yc' yw' csm cs' ws') (ht : sTp ws w < 2 ∨ 6 < sTp ws w) : f_X12_closesSums 1 (nI cm) (nI wm) csm ws' = some (nI c', nI w, cs') := by
  obtain ⟨⟨e, e1, e2⟩, -, -, -, hF, -⟩ := h
  have e3 := e2 1 (Or.inr rfl) (999997 + (2 - e) + 1)
  rw [show 999997 + (2 - e) + 1 + e = FU by unfold FU; omega] at e3
  unfold f_X12_closesSums
  rw [e3]
  exact cl_stop hw (by rw [sTp_eq hF.2.2.2.2.1]; exact ht)
theorem factor_Q (hN : N ≤ 120) {op : Nat} (hop : op ≤ 6) {K : KX} (hK : op < 6 → KT t N (op + 1) K) {f n b w c p : Nat} {yc yw cs ws : Nat → Int32} (fx fl lt : Int32) (hf : 7 - op ≤ f) (hn : N < n + p) (hc : c ≤ p) (hw : w ≤ p) (hp : p ≤ N) (hb : b ≤ w) (hB : spB yc c = false) : SpQ 0 (fun _ => True) t N b op w c p yc yw cs ws (f_X7_readFactor K (nI op) yc yw (nI c) t (nI p) (nI N) fx) (MF f n (nI b) t (nI p) (nI N) fl (nI op) (nI c) (nI w) lt cs ws) := by
  obtain ⟨f, rfl⟩ : ∃ q, f = q + 1 := ⟨f - 1, by omega⟩
  have h10 : ¬ (1 : Int32) = 0 := by decide
  have hpk : p ≤ 1000 := by omega
  unfold f_X7_readFactor g_X7_readFactor_0
  by_cases h91 : sgn t N p = 91
  · have hlt : p < N := sgn_lt (fun z => by rw [z] at h91; exact absurd h91 (by decide))
    by_cases h6 : op = 6
    · subst h6
      left
      unfold MF
      simp only [g_X12_readsFactor_0, x_sgn hN hpk, m_sgn hN hpk, Option.bind_some, if_pos h91, xs_can6, show (14 : Int32) = nI 14 from rfl, ms_opens6, if_true]
      exact Flt_of (ft 5 p) (show c ≤ 120 by omega) ⟨_, rfl, rfl, rfl, rfl⟩ ⟨_, rfl, rfl, rfl⟩
    · have hop' : op < 6 := by omega
      have hwl : w < 180 := by omega
      have eM : MF (f + 1) n (nI b) t (nI p) (nI N) fl (nI op) (nI c) (nI w) lt cs ws = MF f n (nI b) t (nI (p + 1)) (nI N) fl (nI (op + 1)) (nI c) (nI (w + 1)) lt cs (upd ws w (nI (1048576 * 14 + 0))) := by
        unfold MF
        simp only [g_X12_readsFactor_0, m_sgn hN hpk, Option.bind_some, if_pos h91, show (14 : Int32) = nI 14 from rfl, ms_opens hwl _ _ hop', if_neg h10]
      rw [eM]
      simp only [x_sgn hN hpk, Option.bind_some, if_pos h91, xs_can hop', if_neg h10, xs_skip, nI_p]
      have h14 : sTp (upd ws w (nI (1048576 * 14 + 0))) (w + 1) = 14 := sTp_s (o := 14) (v := 0) (by omega) (by omega) (upd_same _ _ _)
      rcases hK hop' f n b (w + 1) c (p + 1) yc yw cs (upd ws w (nI (1048576 * 14 + 0))) fx fl lt (by omega) (by omega) (by omega) (by omega) (by omega) (by omega) hB (by rw [h14]; decide) with ⟨u, v, u1, u2, v1, v2, u3⟩ | ⟨c', p', n', cm, wm, yc', yw', csm, cs', ws', fx', fm', lt', q1, q2, q3, q4⟩
      · left
        rw [u1, v1, Option.bind_some, if_pos u2]
        exact ⟨_, v, rfl, rfl, rfl, v2, u3⟩
      · have hcl := sum_close (by omega) (by omega) q4 (by rw [h14]; decide)
        obtain ⟨-, g1, g2, g3, g4, g5, g6, g7⟩ := q4
        have gF := g4
        obtain ⟨b1, b2, b3, b4, b5, b6, b7⟩ := gF
        obtain ⟨n', rfl⟩ : ∃ q, n' = q + 1 := ⟨n' - 1, by omega⟩
        have hp'k : p' ≤ 1000 := by omega
        have h14' : ws' w / 1048576 = 14 := by
          rw [b5 w (by omega), upd_same]
          exact (row14 (o := 14) (v := 0) (by omega) (by omega)).1
        have hos : f_X12_hasOpenSum (nI b) (nI wm) ws' = some 1 := hos_yes (k := w) (by omega) FU b (by omega) (by omega) (by unfold FU; omega) h14'
        have hss : f_X12_sumSign (sgn t N p') = some (-1) := by
          rcases m_sumS (sgn t N p') with ⟨z, -⟩ | ⟨z, -⟩ | ⟨-, -, z⟩
          · exact absurd z q3.1
          · exact absurd z q3.2
          · exact z
        rw [q1, q2, Option.bind_some, if_neg h10]
        dsimp only
        rw [x_pass hN hp'k]
        by_cases h93 : sgn t N p' = 93
        · have hlt' : p' < N := sgn_lt (fun z => by rw [z] at h93; exact absurd h93 (by decide))
          right
          refine ⟨c', p' + 1, n', c', w, yc', yw', cs', cs', ws', fx', fm', lt', ?_, ?_, trivial, ⟨0, by omega, fun s _ fu => rfl⟩, by omega, by omega, fun i h1 h2 => by omega, SpF_in g4 (by omega) (by omega), by omega, g6, g7⟩
          · rw [if_pos h93, Option.bind_some, if_neg h10]
          · simp only [g_X12_readsSum_14, m_sgn hN hp'k, Option.bind_some, hss, if_true, if_pos h93, hos, if_neg h10, hcl, nI_p]
            rw [show nI (op + 1) - 1 = nI op from nI_m (by omega), show nI (w + 1) - 1 = nI w from nI_m (by omega)]
        · left
          simp only [g_X12_readsSum_14, m_sgn hN hp'k, Option.bind_some, hss, if_true, if_neg h93, g_X12_readsSum_138, hos, if_neg h10]
          exact Flt_of (ft 1 p') (show c' ≤ 120 by omega) ⟨_, rfl, rfl, rfl, rfl⟩ ⟨_, rfl, rfl, rfl⟩
  · unfold MF
    simp only [g_X12_readsFactor_0, x_sgn hN hpk, m_sgn hN hpk, Option.bind_some, if_neg h91, w_in, m_digit hN hpk]
    by_cases hd : (48 : Int32) ≤ sgn t N p ∧ sgn t N p ≤ 57
    · have hlt : p < N := sgn_lt (fun z => by rw [z] at hd; exact absurd hd (by decide))
      simp only [if_pos hd, if_neg h10]
      unfold f_X7_readNumber g_X7_readNumber_0 f_X12_readsNumber g_X12_readsNumber_0
      rcases num_both (t := t) (p := p) (c := c) (yc := yc) (yw := yw) hN fx fl 5 0 FU FU 0 rfl (by unfold FU; omega) (by unfold FU; omega) (by omega) (by omega) with ⟨⟨u, u1, u2, u3, u4⟩, ⟨v, v1, v2, v3⟩⟩ | ⟨v', p', k1, k2, k3, k4, k5, k6⟩
      · left
        have u1' : g_X7_readNumber_4 FU 0 0 yc yw (nI c) t (nI p) (nI N) fx = some u := u1
        have v1' : g_X12_readsNumber_10 FU (nI p) t (nI p) (nI N) fl 0 = some v := v1
        rw [u1', v1', Option.bind_some, Option.bind_some, if_pos v2, Option.bind_some, if_pos rfl, if_pos (show zB u.1 = true by rw [u2]; decide)]
        exact Flt_of (ft 2 (p + 5)) (show c ≤ 120 by omega) ⟨_, rfl, u2, u3, u4⟩ ⟨_, rfl, rfl, v3⟩
      · right
        have k5' : g_X7_readNumber_4 FU 0 0 yc yw (nI c) t (nI p) (nI N) fx = _ := k5
        have k6' : g_X12_readsNumber_10 FU (nI p) t (nI p) (nI N) fl 0 = _ := k6
        have hlt' : p < p' := k4 hd (by omega)
        rw [k5', k6', xs_add (by omega), Option.bind_some, Option.bind_some, Option.bind_some, if_neg h10]
        dsimp only
        rw [show (0 : Int32) = nI 0 from rfl, ms_note (by omega), Option.bind_some, if_pos (show zB 1 = true by decide), Option.bind_some]
        refine ⟨c + 1, p', n, c + 1, w, upd yc c (nI (xsp 0)), upd yw c (nI v'), upd cs c (nI (1048576 * 0 + v')), upd cs c (nI (1048576 * 0 + v')), ws, fx, fl, nI v', rfl, ?_, trivial, ⟨0, by omega, fun s _ fu => rfl⟩, by omega, by omega, fun i h1 h2 => by omega, SpF_one hlt' k3 ⟨0, v', upd_same _ _ _, upd_same _ _ _, fun _ => upd_same _ _ _, by omega, fun _ => k1, fun h => by omega, fun h => by omega, fun _ => ?_, fun h => by omega, fun h => by omega, fun h => by omega, fun h => by omega⟩, by omega, ?_, ?_⟩
        · rw [if_neg (show ¬ (1 : Int32) = nI 0 by decide)]
        · rw [(spD_upd (Nat.le_refl c) _).2]; exact hB
        · exact (spD_next _).1
        · exact (spD_next _).2
    · simp only [if_neg hd, if_true]
      rcases let_both (sgn t N p) with ⟨e1, e2⟩ | ⟨v, hv, e1, e2⟩
      · left
        rw [e1, e2, Option.bind_some, Option.bind_some, if_pos rfl, if_pos rfl]
        exact Flt_of (ft 1 p) (show c ≤ 120 by omega) ⟨_, rfl, rfl, rfl, rfl⟩ ⟨_, rfl, rfl, rfl⟩
      · right
        have hlt : p < N := sgn_lt (fun z => by
          rw [z] at e1
          have e3 : f_X7_letterOf (-1) = some (-1) := by decide +kernel
          rw [e3] at e1
          have e4 := Option.some.inj e1
          rw [i_eq, nI_toInt (by omega)] at e4
          have e5 : (-1 : Int32).toInt = -1 := rfl
          omega)
        have hm1 : ¬ nI v = -1 := fun z => by
          rw [i_eq, nI_toInt (by omega)] at z
          have e5 : (-1 : Int32).toInt = -1 := rfl
          omega
        rw [e1, e2, Option.bind_some, Option.bind_some, if_neg hm1, if_neg hm1, xs_add (by omega), show f_X12_notes 1 (nI v) (nI c) cs = _ from ms_note (by omega) 1 v, Option.bind_some, Option.bind_some, xs_skip, Option.bind_some, Option.bind_some, nI_p]
        refine ⟨c + 1, p + 1, n, c + 1, w, upd yc c (nI (xsp 1)), upd yw c (nI v), upd cs c (nI (1048576 * 1 + v)), upd cs c (nI (1048576 * 1 + v)), ws, fx, fl, lt, rfl, ?_, trivial, ⟨0, by omega, fun s _ fu => rfl⟩, by omega, by omega, fun i h1 h2 => by omega, SpF_one (by omega) (by omega) ⟨1, v, upd_same _ _ _, upd_same _ _ _, fun _ => upd_same _ _ _, by omega, fun h => by omega, fun _ => hv, fun h => by omega, fun _ => ?_, fun h => by omega, fun h => by omega, fun h => by omega, fun h => by omega⟩, by omega, ?_, ?_⟩
        · rw [if_neg h10]
        · rw [(spD_upd (Nat.le_refl c) _).2]; exact hB
        · exact (spD_next _).1
        · exact (spD_next _).2
end FACTOR
