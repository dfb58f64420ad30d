/-! AN ORDER OF A TEXT WITHOUT FAULT: what it changes -/
theorem oW {s : Nat → Nat} {L a : Nat} (hs : TS s L) (h : fO s a = none) : ((s a = 97 ∨ s a = 115) ∧ (48 ≤ s (a + 1) ∧ s (a + 1) ≤ 50) ∧ s (a + 2) = 62 ∧ (48 ≤ s (a + 3) ∧ s (a + 3) ≤ 50) ∧ eO s a = a + 4) ∨ (s a = 119 ∧ (48 ≤ s (a + 1) ∧ s (a + 1) ≤ 50) ∧ s (a + 2) = 61 ∧ (48 ≤ s (a + 3) ∧ s (a + 3) ≤ 57) ∧ eO s a = a + 4) ∨ (s a = 111 ∧ (48 ≤ s (a + 1) ∧ s (a + 1) ≤ 50) ∧ (48 ≤ s (a + 2) ∧ s (a + 2) ≤ 50) ∧ s (a + 3) = 61 ∧ (48 ≤ s (a + 4) ∧ s (a + 4) ≤ 57) ∧ eO s a = a + 5) ∨ ((s a = 117 ∨ s a = 118) ∧ (48 ≤ s (a + 1) ∧ s (a + 1) ≤ 50) ∧ (48 ≤ s (a + 2) ∧ s (a + 2) ≤ 50) ∧ (48 ≤ s (a + 3) ∧ s (a + 3) ≤ 50) ∧ s (a + 4) = 61 ∧ ((s (a + 5) = 45 ∧ (48 ≤ s (a + 6) ∧ s (a + 6) ≤ 57) ∧ eO s a = a + 7) ∨ (s (a + 5) ≠ 45 ∧ (48 ≤ s (a + 5) ∧ s (a + 5) ≤ 57) ∧ eO s a = a + 6))) := by
  obtain ⟨-, -, h5, hq⟩ := fO_none hs h
  have d0 : ∀ b, fitB b 48 = true → 48 ≤ b ∧ b ≤ 50 := fun b hb => by
    have e : fitB b 48 = (decide (48 ≤ b) && decide (b ≤ 50)) := rfl
    rw [e, Bool.and_eq_true] at hb
    exact ⟨of_decide_eq_true hb.1, of_decide_eq_true hb.2⟩
  have d9 : ∀ b, fitB b 57 = true → 48 ≤ b ∧ b ≤ 57 := fun b hb => by
    have e : fitB b 57 = (decide (48 ≤ b) && decide (b ≤ 57)) := rfl
    rw [e, Bool.and_eq_true] at hb
    exact ⟨of_decide_eq_true hb.1, of_decide_eq_true hb.2⟩
  have d61 : ∀ b, fitB b 61 = true → b = 61 := fun b hb => of_decide_eq_true hb
  have d62 : ∀ b, fitB b 62 = true → b = 62 := fun b hb => of_decide_eq_true hb
  have d45 : ∀ b, fitB b 45 = true → b = 45 := fun b hb => of_decide_eq_true hb
  have w3 : ∀ p c, sK s a = p → shp p = [48, c, 48] ∨ shp p = [48, c, 57] → True := fun _ _ _ _ => trivial
  unfold eO
  by_cases h97 : s a = 97
  · have hk : sK s a = 1 := by unfold sK; rw [if_pos h97]
    rw [hk] at hq ⊢
    exact Or.inl ⟨Or.inl h97, d0 _ (hq 0 (by decide)), d62 _ (hq 1 (by decide)), d0 _ (hq 2 (by decide)), rfl⟩
  by_cases h111 : s a = 111
  · have hk : sK s a = 4 := by unfold sK; rw [if_neg h97, if_pos h111]
    rw [hk] at hq ⊢
    exact Or.inr (Or.inr (Or.inl ⟨h111, d0 _ (hq 0 (by decide)), d0 _ (hq 1 (by decide)), d61 _ (hq 2 (by decide)), d9 _ (hq 3 (by decide)), rfl⟩))
  by_cases h115 : s a = 115
  · have hk : sK s a = 1 := by unfold sK; rw [if_neg h97, if_neg h111, if_pos h115]
    rw [hk] at hq ⊢
    exact Or.inl ⟨Or.inr h115, d0 _ (hq 0 (by decide)), d62 _ (hq 1 (by decide)), d0 _ (hq 2 (by decide)), rfl⟩
  by_cases hp : s a = 117 ∨ s a = 118
  · have hk : sK s a = if s (a + 5) = 45 then 2 else 3 := by
      unfold sK
      rw [if_neg h97, if_neg h111, if_neg h115]
      rcases hp with hp | hp
      · rw [if_pos hp]
      · rw [if_neg (by omega), if_pos hp]
    by_cases h45 : s (a + 5) = 45
    · rw [if_pos h45] at hk
      rw [hk] at hq ⊢
      exact Or.inr (Or.inr (Or.inr ⟨hp, d0 _ (hq 0 (by decide)), d0 _ (hq 1 (by decide)), d0 _ (hq 2 (by decide)), d61 _ (hq 3 (by decide)), Or.inl ⟨h45, d9 _ (hq 5 (by decide)), rfl⟩⟩))
    · rw [if_neg h45] at hk
      rw [hk] at hq ⊢
      exact Or.inr (Or.inr (Or.inr ⟨hp, d0 _ (hq 0 (by decide)), d0 _ (hq 1 (by decide)), d0 _ (hq 2 (by decide)), d61 _ (hq 3 (by decide)), Or.inr ⟨h45, d9 _ (hq 4 (by decide)), rfl⟩⟩))
  by_cases h119 : s a = 119
  · have hk : sK s a = 0 := by unfold sK; rw [if_neg h97, if_neg h111, if_neg h115, if_neg (by omega), if_neg (by omega), if_pos h119]
    rw [hk] at hq ⊢
    exact Or.inr (Or.inl ⟨h119, d0 _ (hq 0 (by decide)), d61 _ (hq 1 (by decide)), d9 _ (hq 2 (by decide)), rfl⟩)
  exact absurd (show sK s a = 5 by unfold sK; rw [if_neg h97, if_neg h111, if_neg h115, if_neg (by omega), if_neg (by omega), if_neg h119]) h5
/-- what an order makes of the game; none: it returns an error -/
def aO (s : Nat → Nat) (a : Nat) (f : Nat → Int32) : Option (Nat → Int32) :=
  if s a = 97 then some (chg f (69 + (s (a + 1) - 48)) (nI (s (a + 3) - 48)))
  else if s a = 111 then (if eB f (nI (s (a + 1) - 48)) (nI (s (a + 2) - 48)) (nI (s (a + 4) - 48)) = 0 then some (chg f (3 + 3 * (s (a + 1) - 48) + (s (a + 2) - 48)) (nI (s (a + 4) - 48))) else none)
  else if s a = 115 then some (chg f (66 + (s (a + 1) - 48)) (nI (s (a + 3) - 48)))
  else if s a = 117 then some (chg f (12 + 27 * 0 + 9 * (s (a + 1) - 48) + 3 * (s (a + 2) - 48) + (s (a + 3) - 48)) (pV s a))
  else if s a = 118 then some (chg f (12 + 27 * 1 + 9 * (s (a + 1) - 48) + 3 * (s (a + 2) - 48) + (s (a + 3) - 48)) (pV s a))
  else (if eW f 0 (nI (s (a + 1) - 48)) (nI (s (a + 3) - 48)) = 0 then some (chg f (s (a + 1) - 48) (nI (s (a + 3) - 48))) else none)
def bO : Option (Nat → Int32) → Int32
  | none => 0
  | some _ => 1
theorem pV_in {s : Nat → Nat} {a : Nat} (h : (s (a + 5) = 45 ∧ (48 ≤ s (a + 6) ∧ s (a + 6) ≤ 57)) ∨ (s (a + 5) ≠ 45 ∧ (48 ≤ s (a + 5) ∧ s (a + 5) ≤ 57))) : (-9 : Int32) ≤ pV s a ∧ pV s a ≤ 9 := by
  have t : ∀ k : Fin 10, ((-9 : Int32) ≤ nI k.val * (-1) ∧ nI k.val * (-1) ≤ 9) ∧ ((-9 : Int32) ≤ nI k.val * 1 ∧ nI k.val * 1 ≤ 9) := by decide +kernel
  unfold pV
  rcases h with ⟨h1, h2, h3⟩ | ⟨h1, h2, h3⟩
  · rw [if_pos h1]
    exact (t ⟨s (a + 6) - 48, by omega⟩).1
  · rw [if_neg h1]
    exact (t ⟨s (a + 5) - 48, by omega⟩).2
theorem aO_Gd {s : Nat → Nat} {L a : Nat} {f f1 : Nat → Int32} (hs : TS s L) (h : fO s a = none) (hf : Gd f) (ha : aO s a f = some f1) : Gd f1 := by
  unfold aO at ha
  rcases oW hs h with ⟨h0, h1, h2, h3, h4⟩ | ⟨h0, h1, h2, h3, h4⟩ | ⟨h0, h1, h2, h3, h4, h5⟩ | ⟨h0, h1, h2, h3, h4, h5⟩
  · rcases h0 with h0 | h0
    · rw [if_pos h0] at ha
      cases ha
      have := Gd_l hf (k := 3 + (s (a + 1) - 48)) (by omega) (j := s (a + 3) - 48) (by omega)
      rw [show 66 + (3 + (s (a + 1) - 48)) = 69 + (s (a + 1) - 48) by omega] at this
      exact this
    · rw [if_neg (by omega), if_neg (by omega), if_pos h0] at ha
      cases ha
      exact Gd_l hf (by omega) (by omega)
  · rw [if_neg (by omega), if_neg (by omega), if_neg (by omega), if_neg (by omega), if_neg (by omega)] at ha
    by_cases e : eW f 0 (nI (s (a + 1) - 48)) (nI (s (a + 3) - 48)) = 0
    · rw [if_pos e] at ha
      cases ha
      obtain ⟨i, j, hi, hj, e1, e2, hz⟩ := eW_0 e
      have := Gd_w hf (g := 0) (by omega) hi hj e2 hz
      have ei : s (a + 1) - 48 = i := (nI_eq (by omega) (by omega)).mp e1
      rw [show 3 * 0 + i = s (a + 1) - 48 by omega] at this
      exact this
    · rw [if_neg e] at ha
      cases ha
  · rw [if_neg (by omega), if_pos h0] at ha
    by_cases e : eB f (nI (s (a + 1) - 48)) (nI (s (a + 2) - 48)) (nI (s (a + 4) - 48)) = 0
    · rw [if_pos e] at ha
      cases ha
      unfold eB at e
      have hb : (0 : Int32) ≤ nI (s (a + 1) - 48) ∧ nI (s (a + 1) - 48) ≤ 2 := by
        rw [xl0, xl2]
        exact ⟨(nI_leI (by omega) (by omega)).mpr (by omega), (nI_leI (by omega) (by omega)).mpr (by omega)⟩
      rw [if_pos hb, nI_clamp (by omega)] at e
      obtain ⟨i, j, hi, hj, e1, e2, hz⟩ := eW_0 e
      have := Gd_w hf (g := 1 + (s (a + 1) - 48)) (by omega) hi hj e2 hz
      have ei : s (a + 2) - 48 = i := (nI_eq (by omega) (by omega)).mp e1
      rw [show 3 * (1 + (s (a + 1) - 48)) + i = 3 + 3 * (s (a + 1) - 48) + (s (a + 2) - 48) by omega] at this
      exact this
    · rw [if_neg e] at ha
      cases ha
  · have hp := pV_in (s := s) (a := a) (h5.elim (fun z => Or.inl ⟨z.1, z.2.1⟩) (fun z => Or.inr ⟨z.1, z.2.1⟩))
    rcases h0 with h0 | h0
    · rw [if_neg (by omega), if_neg (by omega), if_neg (by omega), if_pos h0] at ha
      cases ha
      have := Gd_p hf (k := 27 * 0 + 9 * (s (a + 1) - 48) + 3 * (s (a + 2) - 48) + (s (a + 3) - 48)) (by omega) hp
      rw [show 12 + (27 * 0 + 9 * (s (a + 1) - 48) + 3 * (s (a + 2) - 48) + (s (a + 3) - 48)) = 12 + 27 * 0 + 9 * (s (a + 1) - 48) + 3 * (s (a + 2) - 48) + (s (a + 3) - 48) by omega] at this
      exact this
    · rw [if_neg (by omega), if_neg (by omega), if_neg (by omega), if_neg (by omega), if_pos h0] at ha
      cases ha
      have := Gd_p hf (k := 27 * 1 + 9 * (s (a + 1) - 48) + 3 * (s (a + 2) - 48) + (s (a + 3) - 48)) (by omega) hp
      rw [show 12 + (27 * 1 + 9 * (s (a + 1) - 48) + 3 * (s (a + 2) - 48) + (s (a + 3) - 48)) = 12 + 27 * 1 + 9 * (s (a + 1) - 48) + 3 * (s (a + 2) - 48) + (s (a + 3) - 48) by omega] at this
      exact this
