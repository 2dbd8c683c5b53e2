/-- where both stand -/
def SI (d : Nat → Nat) (bo : Nat → Bool) (i : Nat) (hx : Nat → Int32) (x4 x6 : Int32) (hm : Nat → Int32) : Prop :=
  d i ≤ i ∧ (bo i = false → x4 = nI (d i) ∧ ∀ j, j < d i → hx j = hm j) ∧ (bo i = true → d i = 1 ∧ x4 = nI 0 ∧ (x6 = 0 ∨ x6 = 1) ∧ hm 0 = x6)
theorem ob_two {o : Nat} (ho : 2 ≤ o ∧ o ≤ 9) {v x6 : Int32} {h bg nw : Nat → Int32} {a3 a4 a6 a8 : Int32} {k : Nat} (hk : k < 119) : f_X6_obey (nI (xsp o)) v h (nI (k + 2)) 0 x6 bg nw a3 a4 a6 a8 = (if (o = 5 ∨ o = 6) ∧ h (k + 1) = 0 then some (upd h k 0, nI (k + 1), 1, x6) else (f_X12_reckon (nI o) (h k) (h (k + 1))).bind (fun u => if 7 ≤ o then some (h, nI k, 0, u) else some (upd h k u, nI (k + 1), 0, x6))) := by
  have p1 : f_X6_pop h (nI (k + 2)) = some (h (k + 1), nI (k + 1)) := x_pop (by omega)
  have p2 : f_X6_pop h (nI (k + 1)) = some (h k, nI k) := x_pop (by omega)
  have p3 : ∀ u, f_X6_push u h (nI k) = some (upd h k u, nI (k + 1)) := fun u => x_push (by omega) u
  unfold f_X6_obey g_X6_obey_0 f_X12_reckon g_X12_reckon_0
  rcases (show o = 2 ∨ o = 3 ∨ o = 4 ∨ o = 5 ∨ o = 6 ∨ o = 7 ∨ o = 8 ∨ o = 9 by omega) with rfl | rfl | rfl | rfl | rfl | rfl | rfl | rfl
  · rw [show nI (xsp 2) = 43 from rfl]
    rw [if_neg (by decide), if_neg (by decide), if_neg (by decide), if_neg (by decide), if_neg (by decide), p1, Option.bind_some, p2, Option.bind_some, if_neg (by decide), if_neg (by decide), if_neg (by decide)]
    unfold f_X6_reckon g_X6_reckon_0
    rw [if_neg (by decide), if_pos rfl, Option.bind_some, p3, Option.bind_some, if_neg (by omega), if_pos (by decide), Option.bind_some, if_neg (by omega)]
  · rw [show nI (xsp 3) = 45 from rfl]
    rw [if_neg (by decide), if_neg (by decide), if_neg (by decide), if_neg (by decide), if_neg (by decide), p1, Option.bind_some, p2, Option.bind_some, if_neg (by decide), if_neg (by decide), if_neg (by decide)]
    unfold f_X6_reckon g_X6_reckon_0
    rw [if_neg (by decide), if_neg (by decide), if_pos rfl, Option.bind_some, p3, Option.bind_some, if_neg (by omega), if_neg (by decide), if_pos (by decide), Option.bind_some, if_neg (by omega)]
  · rw [show nI (xsp 4) = 42 from rfl]
    rw [if_neg (by decide), if_neg (by decide), if_neg (by decide), if_neg (by decide), if_neg (by decide), p1, Option.bind_some, p2, Option.bind_some, if_neg (by decide), if_neg (by decide), if_neg (by decide)]
    unfold f_X6_reckon g_X6_reckon_0
    rw [if_pos rfl, Option.bind_some, p3, Option.bind_some, if_neg (by omega), if_neg (by decide), if_neg (by decide), if_pos (by decide), Option.bind_some, if_neg (by omega)]
  · rw [show nI (xsp 5) = 47 from rfl]
    rw [if_neg (by decide), if_neg (by decide), if_neg (by decide), if_neg (by decide), if_neg (by decide), p1, Option.bind_some, p2, Option.bind_some, if_neg (by decide), if_neg (by decide), if_neg (by decide)]
    unfold f_X6_reckon g_X6_reckon_0
    rw [if_neg (by decide), if_neg (by decide), if_neg (by decide)]
    by_cases q : h (k + 1) = 0
    · rw [if_pos q, Option.bind_some, p3, Option.bind_some, if_pos (show (5 = 5 ∨ 5 = 6) ∧ h (k + 1) = 0 from ⟨Or.inl rfl, q⟩)]
    · rw [if_neg q, if_pos rfl, if_neg q, Option.bind_some, p3, Option.bind_some, if_neg (show ¬ ((5 = 5 ∨ 5 = 6) ∧ h (k + 1) = 0) from fun x => q x.2), if_neg (by decide), if_neg (by decide), if_neg (by decide), if_pos (by decide), if_neg q, Option.bind_some, if_neg (by omega)]
  · rw [show nI (xsp 6) = 37 from rfl]
    rw [if_neg (by decide), if_neg (by decide), if_neg (by decide), if_neg (by decide), if_neg (by decide), p1, Option.bind_some, p2, Option.bind_some, if_neg (by decide), if_neg (by decide), if_neg (by decide)]
    unfold f_X6_reckon g_X6_reckon_0
    rw [if_neg (by decide), if_neg (by decide), if_neg (by decide)]
    by_cases q : h (k + 1) = 0
    · rw [if_pos q, Option.bind_some, p3, Option.bind_some, if_pos (show (6 = 5 ∨ 6 = 6) ∧ h (k + 1) = 0 from ⟨Or.inr rfl, q⟩)]
    · rw [if_neg q, if_neg (by decide), if_neg q, Option.bind_some, p3, Option.bind_some, if_neg (show ¬ ((6 = 5 ∨ 6 = 6) ∧ h (k + 1) = 0) from fun x => q x.2), if_neg (by decide), if_neg (by decide), if_neg (by decide), if_neg (by decide), if_pos (by decide), if_neg q, Option.bind_some, if_neg (by omega)]
  · rw [show nI (xsp 7) = 60 from rfl]
    rw [if_neg (by decide), if_neg (by decide), if_neg (by decide), if_neg (by decide), if_neg (by decide), p1, Option.bind_some, p2, Option.bind_some, if_pos rfl]
    unfold g_X6_obey_93
    rw [if_pos rfl, if_neg (show ¬ ((7 = 5 ∨ 7 = 6) ∧ h (k + 1) = 0) by omega), if_neg (show ¬ nI 7 = 2 by decide), if_neg (show ¬ nI 7 = 3 by decide), if_neg (show ¬ nI 7 = 4 by decide), if_neg (show ¬ nI 7 = 5 by decide), if_neg (show ¬ nI 7 = 6 by decide), if_pos (show nI 7 = 7 from rfl)]
    by_cases q : h (k + 1) ≤ h k
    · rw [if_pos q, if_pos q]; rfl
    · rw [if_neg q, if_neg q]; rfl
  · rw [show nI (xsp 8) = 62 from rfl]
    rw [if_neg (by decide), if_neg (by decide), if_neg (by decide), if_neg (by decide), if_neg (by decide), p1, Option.bind_some, p2, Option.bind_some, if_neg (by decide), if_pos rfl]
    unfold g_X6_obey_93
    rw [if_neg (by decide), if_pos rfl, if_neg (show ¬ ((8 = 5 ∨ 8 = 6) ∧ h (k + 1) = 0) by omega), if_neg (show ¬ nI 8 = 2 by decide), if_neg (show ¬ nI 8 = 3 by decide), if_neg (show ¬ nI 8 = 4 by decide), if_neg (show ¬ nI 8 = 5 by decide), if_neg (show ¬ nI 8 = 6 by decide), if_neg (show ¬ nI 8 = 7 by decide), if_pos (show nI 8 = 8 from rfl)]
    by_cases q : h k ≤ h (k + 1)
    · rw [if_pos q, if_pos q]; rfl
    · rw [if_neg q, if_neg q]; rfl
  · rw [show nI (xsp 9) = 61 from rfl]
    rw [if_neg (by decide), if_neg (by decide), if_neg (by decide), if_neg (by decide), if_neg (by decide), p1, Option.bind_some, p2, Option.bind_some, if_neg (by decide), if_neg (by decide), if_pos rfl]
    unfold g_X6_obey_93
    rw [if_neg (by decide), if_neg (by decide), if_neg (show ¬ ((9 = 5 ∨ 9 = 6) ∧ h (k + 1) = 0) by omega), if_neg (show ¬ nI 9 = 2 by decide), if_neg (show ¬ nI 9 = 3 by decide), if_neg (show ¬ nI 9 = 4 by decide), if_neg (show ¬ nI 9 = 5 by decide), if_neg (show ¬ nI 9 = 6 by decide), if_neg (show ¬ nI 9 = 7 by decide), if_neg (show ¬ nI 9 = 8 by decide)]
    by_cases q : h k = h (k + 1)
    · rw [if_pos q, if_pos q]; rfl
    · rw [if_neg q, if_neg q]; rfl
theorem rk_some {o : Nat} (ho : 2 ≤ o ∧ o ≤ 9) {a b : Int32} (h : ¬ ((o = 5 ∨ o = 6) ∧ b = 0)) : ∃ u, f_X12_reckon (nI o) a b = some u ∧ (7 ≤ o → u = 0 ∨ u = 1) := by
  unfold f_X12_reckon g_X12_reckon_0
  rcases (show o = 2 ∨ o = 3 ∨ o = 4 ∨ o = 5 ∨ o = 6 ∨ o = 7 ∨ o = 8 ∨ o = 9 by omega) with rfl | rfl | rfl | rfl | rfl | rfl | rfl | rfl
  · exact ⟨_, rfl, fun x => by omega⟩
  · exact ⟨_, rfl, fun x => by omega⟩
  · exact ⟨_, rfl, fun x => by omega⟩
  · refine ⟨a / b, ?_, fun x => by omega⟩
    rw [if_neg (by decide), if_neg (by decide), if_neg (by decide), if_pos (by decide), if_neg (fun q => h ⟨Or.inl rfl, q⟩)]
  · refine ⟨a - a / b * b, ?_, fun x => by omega⟩
    rw [if_neg (by decide), if_neg (by decide), if_neg (by decide), if_neg (by decide), if_pos (by decide), if_neg (fun q => h ⟨Or.inr rfl, q⟩)]
  · rw [if_neg (by decide), if_neg (by decide), if_neg (by decide), if_neg (by decide), if_neg (by decide), if_pos (by decide)]
    split
    · exact ⟨0, rfl, fun _ => Or.inl rfl⟩
    · exact ⟨1, rfl, fun _ => Or.inr rfl⟩
  · rw [if_neg (by decide), if_neg (by decide), if_neg (by decide), if_neg (by decide), if_neg (by decide), if_neg (by decide), if_pos (by decide)]
    split
    · exact ⟨0, rfl, fun _ => Or.inl rfl⟩
    · exact ⟨1, rfl, fun _ => Or.inr rfl⟩
  · rw [if_neg (by decide), if_neg (by decide), if_neg (by decide), if_neg (by decide), if_neg (by decide), if_neg (by decide), if_neg (by decide)]
    split
    · exact ⟨1, rfl, fun _ => Or.inr rfl⟩
    · exact ⟨0, rfl, fun _ => Or.inl rfl⟩
