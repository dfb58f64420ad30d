/-! AN ORDER CARRIED OUT by the reference -/
section TXH
variable {w : XW} {s : Nat → Nat} {L : Nat} {f : Nat → Int32} {n : Nat} {H : Nat → Nat → Int32} {hb : Nat → Bool} {Sl : Nat → Nat → Int32} {pd at' od : Int32}
theorem m_does (hM : JM w f n H hb Sl pd at' od) {ors : Nat → Int32} (h21 : w[21]? = some (.inl (0, 85, ors))) (hs : TS s L) {a j : Nat} (hj : j ≤ 16) (ho : fO s a = none) (hO : Od s a j ors) : ∃ w1, fX4_does 15 (nI j) w = some (bO (aO s a f), w1) ∧ JM w1 ((aO s a f).getD f) n H hb Sl pd at' od ∧ xFr fM w w1 := by
  have h0' := hM.2.1
  unfold MO at h0'
  have o8 : xgR w 15 4 8 = some 21 := xgR_ok h0' rfl
  have r : ∀ k, k < 5 → xaI w 21 (nI (5 * j + k)) = some (ors (5 * j + k)) := fun k hk => xaI_ok h21 (by omega) (by omega)
  have e5 : (5 : Int32) * nI j = nI (5 * j + 0) := by rw [show (5 : Int32) = nI 5 by decide +kernel, pk_mul, Nat.add_zero]
  have e6 : ∀ k, nI (5 * j + 0) + nI k = nI (5 * j + k) := fun k => by rw [nI_add, Nat.add_zero]
  obtain ⟨O0, O1, O2, O3⟩ := hO
  have r0 := r 0 (by omega)
  rw [show ors (5 * j + 0) = nI (s a) from O0] at r0
  unfold fX4_does
  rw [if_pos hM.o.1, o8]
  simp only [ob]
  rw [e5, xl1, xl2, xl3, show (4 : Int32) = nI 4 by decide +kernel, e6, e6, e6, e6, r0, r 1 (by omega), r 2 (by omega), r 3 (by omega), r 4 (by omega)]
  simp only [ob]
  unfold aO
  rcases oW hs ho with ⟨h0, h1, h2, h3, h4⟩ | ⟨h0, h1, h2, h3, h4⟩ | ⟨h0, h1, h2, h3, h4, h5⟩ | ⟨h0, h1, h2, h3, h4, h5⟩
  · obtain ⟨k1, k2⟩ := O1 (by omega)
    rw [k1, k2]
    rcases h0 with h0 | h0
    · obtain ⟨w1, q1, q2, q3⟩ := m_chg hM (k := 69 + (s (a + 1) - 48)) (by omega) (nI (s (a + 3) - 48))
      rw [show mj (69 + (s (a + 1) - 48)) = 69 + (s (a + 1) - 48) by unfold mj; rw [if_neg (by omega)]] at q1
      unfold fX4_does_92
      rw [if_neg (show ¬ nI (s a) = 119 by rw [h0]; decide +kernel), if_neg (show ¬ nI (s a) = 111 by rw [h0]; decide +kernel), if_pos rfl, if_pos (show nI (s a) = 97 by rw [h0]; decide +kernel), if_pos h0, xl69, nI_add, q1]
      simp only [ob]
      exact ⟨w1, rfl, q2, q3⟩
    · obtain ⟨w1, q1, q2, q3⟩ := m_chg hM (k := 66 + (s (a + 1) - 48)) (by omega) (nI (s (a + 3) - 48))
      rw [show mj (66 + (s (a + 1) - 48)) = 66 + (s (a + 1) - 48) by unfold mj; rw [if_neg (by omega)]] at q1
      unfold fX4_does_92
      rw [if_neg (show ¬ nI (s a) = 119 by rw [h0]; decide +kernel), if_neg (show ¬ nI (s a) = 111 by rw [h0]; decide +kernel), if_pos rfl, if_neg (show ¬ nI (s a) = 97 by rw [h0]; decide +kernel), if_neg (show ¬ nI (s a) = 111 by rw [h0]; decide +kernel), if_pos (show nI (s a) = 115 by rw [h0]; decide +kernel), if_neg (show ¬ s a = 97 by omega), if_neg (show ¬ s a = 111 by omega), if_pos h0, xl66, nI_add, q1]
      simp only [ob]
      exact ⟨w1, rfl, q2, q3⟩
  · obtain ⟨k1, k2⟩ := O1 (by omega)
    rw [k1, k2]
    have hw := m_mayWeigh hM (g := 0) (by omega) (nI (s (a + 1) - 48)) (nI (s (a + 3) - 48))
    rw [show nI (mj (3 * 0)) = 0 by decide +kernel] at hw
    rw [if_pos (show nI (s a) = 119 by rw [h0]; decide +kernel), hw, if_neg (show ¬ s a = 97 by omega), if_neg (show ¬ s a = 111 by omega), if_neg (show ¬ s a = 115 by omega), if_neg (show ¬ s a = 117 by omega), if_neg (show ¬ s a = 118 by omega)]
    simp only [ob]
    unfold fX4_does_92
    by_cases e : eW f 0 (nI (s (a + 1) - 48)) (nI (s (a + 3) - 48)) = 0
    · obtain ⟨w1, q1, q2, q3⟩ := m_chg hM (k := s (a + 1) - 48) (by omega) (nI (s (a + 3) - 48))
      rw [show mj (s (a + 1) - 48) = s (a + 1) - 48 by unfold mj mi; rw [if_pos (by omega), if_pos (by omega)]] at q1
      rw [if_pos e, if_pos e, if_neg (show ¬ nI (s a) = 97 by rw [h0]; decide +kernel), if_neg (show ¬ nI (s a) = 111 by rw [h0]; decide +kernel), if_neg (show ¬ nI (s a) = 115 by rw [h0]; decide +kernel), if_pos (show nI (s a) = 119 by rw [h0]; decide +kernel), q1]
      simp only [ob]
      exact ⟨w1, rfl, q2, q3⟩
    · rw [if_neg e, if_neg e]
      exact ⟨w, rfl, hM, xFr.rf⟩
  · obtain ⟨k1, k2, k3⟩ := O2 h0
    rw [k1, k2, k3]
    rw [if_neg (show ¬ nI (s a) = 119 by rw [h0]; decide +kernel), if_pos (show nI (s a) = 111 by rw [h0]; decide +kernel), m_mayBelieve hM, if_neg (show ¬ s a = 97 by omega), if_pos h0]
    simp only [ob]
    unfold fX4_does_92
    by_cases e : eB f (nI (s (a + 1) - 48)) (nI (s (a + 2) - 48)) (nI (s (a + 4) - 48)) = 0
    · obtain ⟨w1, q1, q2, q3⟩ := m_chg hM (k := 3 + 3 * (s (a + 1) - 48) + (s (a + 2) - 48)) (by omega) (nI (s (a + 4) - 48))
      rw [show mj (3 + 3 * (s (a + 1) - 48) + (s (a + 2) - 48)) = 57 + 3 * (s (a + 1) - 48) + (s (a + 2) - 48) by unfold mj mi; rw [if_pos (by omega), if_neg (by omega), if_pos (by omega)]; omega] at q1
      rw [if_pos e, if_pos e, if_neg (show ¬ nI (s a) = 97 by rw [h0]; decide +kernel), if_pos (show nI (s a) = 111 by rw [h0]; decide +kernel), show (57 : Int32) = nI 57 by decide +kernel, xl3, pk_mul, nI_add, nI_add, q1]
      simp only [ob]
      exact ⟨w1, rfl, q2, q3⟩
    · rw [if_neg e, if_neg e]
      exact ⟨w, rfl, hM, xFr.rf⟩
  · obtain ⟨k1, k2, k3, k4⟩ := O3 h0
    rw [k1, k2, k3, k4]
    unfold fX4_does_92 fX4_does_214
    rcases h0 with h0 | h0
    · obtain ⟨w1, q1, q2, q3⟩ := m_chg hM (k := 12 + 27 * 0 + 9 * (s (a + 1) - 48) + 3 * (s (a + 2) - 48) + (s (a + 3) - 48)) (by omega) (pV s a)
      rw [show mj (12 + 27 * 0 + 9 * (s (a + 1) - 48) + 3 * (s (a + 2) - 48) + (s (a + 3) - 48)) = 3 + 27 * 0 + 9 * (s (a + 1) - 48) + 3 * (s (a + 2) - 48) + (s (a + 3) - 48) by unfold mj mi; rw [if_pos (by omega), if_neg (by omega), if_neg (by omega)]; omega] at q1
      have hp := m_place 0 (s (a + 1) - 48) (s (a + 2) - 48) (s (a + 3) - 48) w
      rw [← xl0] at hp
      rw [if_neg (show ¬ nI (s a) = 119 by rw [h0]; decide +kernel), if_neg (show ¬ nI (s a) = 111 by rw [h0]; decide +kernel), if_pos rfl, if_neg (show ¬ nI (s a) = 97 by rw [h0]; decide +kernel), if_neg (show ¬ nI (s a) = 111 by rw [h0]; decide +kernel), if_neg (show ¬ nI (s a) = 115 by rw [h0]; decide +kernel), if_neg (show ¬ nI (s a) = 119 by rw [h0]; decide +kernel), if_pos (show nI (s a) = 117 by rw [h0]; decide +kernel), if_neg (show ¬ s a = 97 by omega), if_neg (show ¬ s a = 111 by omega), if_neg (show ¬ s a = 115 by omega), if_pos h0, hp]
      simp only [ob]
      rw [q1]
      simp only [ob]
      exact ⟨w1, rfl, q2, q3⟩
    · obtain ⟨w1, q1, q2, q3⟩ := m_chg hM (k := 12 + 27 * 1 + 9 * (s (a + 1) - 48) + 3 * (s (a + 2) - 48) + (s (a + 3) - 48)) (by omega) (pV s a)
      rw [show mj (12 + 27 * 1 + 9 * (s (a + 1) - 48) + 3 * (s (a + 2) - 48) + (s (a + 3) - 48)) = 3 + 27 * 1 + 9 * (s (a + 1) - 48) + 3 * (s (a + 2) - 48) + (s (a + 3) - 48) by unfold mj mi; rw [if_pos (by omega), if_neg (by omega), if_neg (by omega)]; omega] at q1
      have hp := m_place 1 (s (a + 1) - 48) (s (a + 2) - 48) (s (a + 3) - 48) w
      rw [← xl1] at hp
      rw [if_neg (show ¬ nI (s a) = 119 by rw [h0]; decide +kernel), if_neg (show ¬ nI (s a) = 111 by rw [h0]; decide +kernel), if_pos rfl, if_neg (show ¬ nI (s a) = 97 by rw [h0]; decide +kernel), if_neg (show ¬ nI (s a) = 111 by rw [h0]; decide +kernel), if_neg (show ¬ nI (s a) = 115 by rw [h0]; decide +kernel), if_neg (show ¬ nI (s a) = 119 by rw [h0]; decide +kernel), if_neg (show ¬ nI (s a) = 117 by rw [h0]; decide +kernel), if_neg (show ¬ s a = 97 by omega), if_neg (show ¬ s a = 111 by omega), if_neg (show ¬ s a = 115 by omega), if_neg (show ¬ s a = 117 by omega), if_pos h0, hp]
      simp only [ob]
      rw [q1]
      simp only [ob]
      exact ⟨w1, rfl, q2, q3⟩
end TXH
