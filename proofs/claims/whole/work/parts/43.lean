/-! THE REFERENCE: an order -/
def Od (s : Nat → Nat) (a o : Nat) (g : Nat → Int32) : Prop := g (5 * o) = nI (s a) ∧ ((s a = 97 ∨ s a = 115 ∨ s a = 119) → g (5 * o + 1) = nI (s (a + 1) - 48) ∧ g (5 * o + 2) = nI (s (a + 3) - 48)) ∧ (s a = 111 → g (5 * o + 1) = nI (s (a + 1) - 48) ∧ g (5 * o + 2) = nI (s (a + 2) - 48) ∧ g (5 * o + 3) = nI (s (a + 4) - 48)) ∧ ((s a = 117 ∨ s a = 118) → g (5 * o + 1) = nI (s (a + 1) - 48) ∧ g (5 * o + 2) = nI (s (a + 2) - 48) ∧ g (5 * o + 3) = nI (s (a + 3) - 48) ∧ g (5 * o + 4) = pV s a)
theorem rF_nar (M : Option Nat) : vp_nar .boolean (rF M) = rF M := by
  cases M with
  | none => exact (by decide +kernel : vp_nar .boolean 1 = 1)
  | some p => exact (by decide +kernel : vp_nar .boolean 0 = 0)
theorem pM_mis {s : Nat → Nat} {a : Nat} (hk : sK s a = if s (a + 5) = 45 then 2 else 3) : fO s a = pM s a ∧ eO s a = pE s a := by
  unfold fO eO pE pM pT
  by_cases h5 : s (a + 5) = 45
  · rw [if_pos h5] at hk
    rw [hk, if_neg (by decide), if_pos h5, if_pos h5]
    have e : mis s a (shp 2) 0 = if fitB (s (a + 1)) 48 then (if fitB (s (a + 2)) 48 then (if fitB (s (a + 3)) 48 then (if fitB (s (a + 4)) 61 then (if fitB (s (a + 5)) 45 then (if fitB (s (a + 6)) 57 then none else some (a + 6)) else some (a + 5)) else some (a + 4)) else some (a + 3)) else some (a + 2)) else some (a + 1) := rfl
    have e5 : fitB (s (a + 5)) 45 = true := by
      rw [h5]; decide
    rw [e, e5, if_pos rfl]
    exact ⟨rfl, rfl⟩
  · rw [if_neg h5] at hk
    rw [hk, if_neg (by decide), if_neg h5, if_neg h5]
    exact ⟨rfl, rfl⟩
section TXS
variable {w : XW} {s : Nat → Nat} {L : Nat} {f : Nat → Int32} {n : Nat} {H : Nat → Nat → Int32} {hb : Nat → Bool} {Sl : Nat → Nat → Int32} {a o : Nat} {ors : Nat → Int32}
theorem m_ord24 (h : MT w s L f n H hb Sl a o ors) (hs : TS s L) (ha : a ≤ 100) (ho : 5 * o + 4 < 85) : ∃ w1 ors1, fX4_isOrder_24 15 (nI (s a)) w = some (rF (fO s a), w1) ∧ MT w1 s L f n H hb Sl ((fO s a).getD (eO s a)) o ors1 ∧ (∀ j, j < 5 * o → ors1 j = ors j) ∧ (fO s a = none → Od s a o ors1) ∧ xFr [15, 21] w w1 := by
  obtain ⟨w5, a1, a2, a3⟩ := h.or (j := 5 * o) (by omega) (nI (s a))
  obtain ⟨w7, b1, b2, b3⟩ := a2.at (a + 1)
  have e1 : ∀ m, m < 200 → (nI (s a) = nI m) = (s a = m) := fun m hm => propext (nI_eq (by have := s_lt hs a; omega) (by omega))
  have g0 : xct 85 (upd ors (5 * o) (nI (s a))) (5 * o) = nI (s a) := by rw [u_at (by omega), if_pos rfl]
  have gl : ∀ j, j < 5 * o → xct 85 (upd ors (5 * o) (nI (s a))) j = ors j := fun j hj => by rw [u_at (by omega), if_neg (by omega)]
  unfold fX4_isOrder_24
  rw [h.fo.2.2.2.2.1, h.fo.2.2.2.2.2]
  simp only [ob]
  rw [show (5 : Int32) * nI o = nI (5 * o) by rw [show (5 : Int32) = nI 5 by decide +kernel, pk_mul], a1]
  simp only [ob]
  rw [a2.fo.2.2.2.1]
  simp only [ob]
  rw [nI_1, b1]
  simp only [ob]
  have p3 := fun (c p hi2 : Nat) (hc0 : 57 < c) (hc : c < 200) (hp : (p = 48 ∧ hi2 = 50) ∨ (p = 57 ∧ hi2 = 57)) => m_p3 b2 hs (by omega) ho hc0 hc hp
  have q50 : nI 50 = 50 := by decide +kernel
  have q57 : nI 57 = 57 := by decide +kernel
  have q61 : nI 61 = 61 := by decide +kernel
  have q62 : nI 62 = 62 := by decide +kernel
  by_cases h97 : s a = 97
  · have hk : sK s a = 1 := by unfold sK; rw [if_pos h97]
    have hf : fO s a = mis s a [48, 62, 48] 0 := by unfold fO; rw [hk, if_neg (by decide)]; rfl
    have he : eO s a = a + 4 := by unfold eO; rw [hk]; rfl
    obtain ⟨w1, or1, k1, k2, k3, k4, k5⟩ := p3 62 48 50 (by omega) (by omega) (Or.inl ⟨rfl, rfl⟩)
    rw [← xl1, ← xl2, q50, q62] at k1
    rw [if_pos (show nI (s a) = 97 by rw [h97]; decide +kernel), k1, hf, he]
    exact ⟨w1, or1, rfl, k2, fun j hj => by rw [k3 j (by omega) (by omega) (by omega), gl j hj], fun z => ⟨by rw [k3 _ (by omega) (by omega) (by omega), g0], fun _ => k4 z, fun y => by omega, fun y => by omega⟩, (a3.tr b3).tr k5⟩
  rw [if_neg (show ¬ nI (s a) = 97 by rw [show (97 : Int32) = nI 97 by decide +kernel, e1 97 (by omega)]; exact h97)]
  by_cases h111 : s a = 111
  · have hk : sK s a = 4 := by unfold sK; rw [if_neg h97, if_pos h111]
    have hf : fO s a = mis s a [48, 48, 61, 57] 0 := by unfold fO; rw [hk, if_neg (by decide)]; rfl
    have he : eO s a = a + 5 := by unfold eO; rw [hk]; rfl
    obtain ⟨w1, or1, k1, k2, k3, k4, k5⟩ := m_p4 b2 hs (by omega) ho
    rw [← xl1, ← xl2, ← xl3, q50, q61, q57] at k1
    rw [if_pos (show nI (s a) = 111 by rw [h111]; decide +kernel), k1, hf, he]
    exact ⟨w1, or1, rfl, k2, fun j hj => by rw [k3 j (by omega) (by omega), gl j hj], fun z => ⟨by rw [k3 _ (by omega) (by omega), g0], fun y => by omega, fun _ => k4 z, fun y => by omega⟩, (a3.tr b3).tr k5⟩
  rw [if_neg (show ¬ nI (s a) = 111 by rw [show (111 : Int32) = nI 111 by decide +kernel, e1 111 (by omega)]; exact h111)]
  by_cases h115 : s a = 115
  · have hk : sK s a = 1 := by unfold sK; rw [if_neg h97, if_neg h111, if_pos h115]
    have hf : fO s a = mis s a [48, 62, 48] 0 := by unfold fO; rw [hk, if_neg (by decide)]; rfl
    have he : eO s a = a + 4 := by unfold eO; rw [hk]; rfl
    obtain ⟨w1, or1, k1, k2, k3, k4, k5⟩ := p3 62 48 50 (by omega) (by omega) (Or.inl ⟨rfl, rfl⟩)
    rw [← xl1, ← xl2, q50, q62] at k1
    rw [if_pos (show nI (s a) = 115 by rw [h115]; decide +kernel), k1, hf, he]
    exact ⟨w1, or1, rfl, k2, fun j hj => by rw [k3 j (by omega) (by omega) (by omega), gl j hj], fun z => ⟨by rw [k3 _ (by omega) (by omega) (by omega), g0], fun _ => k4 z, fun y => by omega, fun y => by omega⟩, (a3.tr b3).tr k5⟩
  rw [if_neg (show ¬ nI (s a) = 115 by rw [show (115 : Int32) = nI 115 by decide +kernel, e1 115 (by omega)]; exact h115)]
  by_cases h117 : s a = 117
  · have hk : sK s a = if s (a + 5) = 45 then 2 else 3 := by unfold sK; rw [if_neg h97, if_neg h111, if_neg h115, if_pos h117]
    obtain ⟨hf, he⟩ := pM_mis hk
    obtain ⟨w1, or1, k1, k2, k3, k4, k5⟩ := m_pay b2 hs (by omega) ho
    rw [if_pos (show nI (s a) = 117 by rw [h117]; decide +kernel), k1, hf, he]
    simp only [ob]
    rw [if_pos (rF_nar _)]
    exact ⟨w1, or1, rfl, k2, fun j hj => by rw [k3 j (by omega) (by omega), gl j hj], fun z => ⟨by rw [k3 _ (by omega) (by omega), g0], fun y => by omega, fun y => by omega, fun _ => k4 z⟩, (a3.tr b3).tr k5⟩
  rw [if_neg (show ¬ nI (s a) = 117 by rw [show (117 : Int32) = nI 117 by decide +kernel, e1 117 (by omega)]; exact h117)]
  by_cases h118 : s a = 118
  · have hk : sK s a = if s (a + 5) = 45 then 2 else 3 := by unfold sK; rw [if_neg h97, if_neg h111, if_neg h115, if_neg h117, if_pos h118]
    obtain ⟨hf, he⟩ := pM_mis hk
    obtain ⟨w1, or1, k1, k2, k3, k4, k5⟩ := m_pay b2 hs (by omega) ho
    rw [if_pos (show nI (s a) = 118 by rw [h118]; decide +kernel), k1, hf, he]
    simp only [ob]
    rw [if_pos (rF_nar _)]
    exact ⟨w1, or1, rfl, k2, fun j hj => by rw [k3 j (by omega) (by omega), gl j hj], fun z => ⟨by rw [k3 _ (by omega) (by omega), g0], fun y => by omega, fun y => by omega, fun _ => k4 z⟩, (a3.tr b3).tr k5⟩
  rw [if_neg (show ¬ nI (s a) = 118 by rw [show (118 : Int32) = nI 118 by decide +kernel, e1 118 (by omega)]; exact h118)]
  by_cases h119 : s a = 119
  · have hk : sK s a = 0 := by unfold sK; rw [if_neg h97, if_neg h111, if_neg h115, if_neg h117, if_neg h118, if_pos h119]
    have hf : fO s a = mis s a [48, 61, 57] 0 := by unfold fO; rw [hk, if_neg (by decide)]; rfl
    have he : eO s a = a + 4 := by unfold eO; rw [hk]; rfl
    obtain ⟨w1, or1, k1, k2, k3, k4, k5⟩ := p3 61 57 57 (by omega) (by omega) (Or.inr ⟨rfl, rfl⟩)
    rw [← xl1, ← xl2, q50, q61, q57] at k1
    rw [if_pos (show nI (s a) = 119 by rw [h119]; decide +kernel), k1, hf, he]
    exact ⟨w1, or1, rfl, k2, fun j hj => by rw [k3 j (by omega) (by omega) (by omega), gl j hj], fun z => ⟨by rw [k3 _ (by omega) (by omega) (by omega), g0], fun _ => k4 z, fun y => by omega, fun y => by omega⟩, (a3.tr b3).tr k5⟩
  rw [if_neg (show ¬ nI (s a) = 119 by rw [show (119 : Int32) = nI 119 by decide +kernel, e1 119 (by omega)]; exact h119)]
  have hk : sK s a = 5 := by unfold sK; rw [if_neg h97, if_neg h111, if_neg h115, if_neg h117, if_neg h118, if_neg h119]
  have hf : fO s a = some a := by unfold fO; rw [hk, if_pos rfl]
  rw [hf]
  exact ⟨w5, _, rfl, a2, gl, fun z => (by cases z), a3⟩
theorem m_order (h : MT w s L f n H hb Sl a o ors) (hs : TS s L) (ha : a ≤ 100) (ho : 5 * o + 4 < 85) : ∃ w1 ors1, fX4_isOrder 15 w = some (rF (fO s a), w1) ∧ MT w1 s L f n H hb Sl ((fO s a).getD (eO s a)) o ors1 ∧ (∀ j, j < 5 * o → ors1 j = ors j) ∧ (fO s a = none → Od s a o ors1) ∧ xFr [15, 21] w w1 := by
  have o1 := h.fo
  have hL := hs.1
  have m := m_ord24 h hs ha ho
  unfold fX4_isOrder
  rw [if_pos o1.1, o1.2.2.2.1, o1.2.2.1]
  simp only [ob]
  by_cases hl : L ≤ a
  · rw [if_pos ((nI_leI (by omega) (by omega)).mpr hl)]
    rw [hs.2.2 a hl, ← xl0] at m
    exact m
  · rw [if_neg (nI_ge (by omega) (by omega)), o1.2.1]
    simp only [ob]
    rw [h.rd hs (by omega)]
    simp only [ob]
    exact m
end TXS
