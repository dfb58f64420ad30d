/-! AN ORDER CARRIED OUT, on both sides -/
def dG (b : Nat) : Int32 := if 48 ≤ b ∧ b ≤ 57 then nI (b - 48) else 0
theorem dG_ok {b : Nat} (h : 48 ≤ b ∧ b ≤ 57) : dG b = nI (b - 48) := by
  unfold dG
  rw [if_pos h]
section TXG
variable {w : XW} {s : Nat → Nat} {L : Nat} {f : Nat → Int32} {n : Nat} {H : Nat → Nat → Int32} {hb : Nat → Bool} {Sl : Nat → Nat → Int32} {pd at' od : Int32}
theorem c_dig (hs : TS s L) (hT : TC w s L) {i : Nat} (hi : i < 1000) : fX1_digitAt 10 (nI i) w = some (dG (s i), w) := by
  by_cases h : 48 ≤ s i ∧ s i ≤ 57
  · rw [c_digit hs hT hi h.1 h.2, dG_ok h]
  · obtain ⟨sg, ⟨a, b⟩, hh⟩ := id hT
    have h128 := s_lt hs i
    unfold fX1_digitAt dG
    rw [if_pos (xis_ok a), c_sign hs hT hi]
    simp only [ob]
    rw [show (48 : Int32) = nI 48 by decide +kernel, show (57 : Int32) = nI 57 by decide +kernel, if_neg h]
    by_cases h1 : s i < 48
    · rw [if_pos ((nI_ltI (by omega) (by omega)).mpr h1)]
    · rw [if_neg (nI_nlt (by omega) (by omega)), if_pos ((nI_ltI (by omega) (by omega)).mpr (by omega))]
theorem c_isY (h : JC w f n H hb Sl) {k : Nat} (hk : k < 72) (x : Int32) : ∃ w1, fX3_isChanged 0 0 (nI k) x w = some (1, w1) ∧ JC w1 (chg f k x) n H hb Sl ∧ xFr fC w w1 := by
  obtain ⟨w1, a, b, c⟩ := c_chg h hk x
  refine ⟨w1, ?_, b, c⟩
  unfold fX3_isChanged
  rw [if_pos h.o.1, if_pos rfl, h.o.2.1]
  simp only [ob]
  rw [a]
  simp only [ob]
theorem c_isN (h : JC w f n H hb Sl) {e : Int32} (he : ¬ e = 0) (p x : Int32) : fX3_isChanged 0 e p x w = some (0, w) := by
  unfold fX3_isChanged
  rw [if_pos h.o.1, if_neg he]
theorem nar1 : vp_nar .boolean (1 : Int32) = 1 := by decide +kernel
theorem nar0 : vp_nar .boolean (0 : Int32) = 0 := by decide +kernel
theorem c_done (hC : JC w f n H hb Sl) (hs : TS s L) (hT : TC w s L) {a : Nat} (ha : a < 300) (ho : fO s a = none) : ∃ w1, fX3_isDone 0 (nI a) w = some (bO (aO s a f), w1) ∧ JC w1 ((aO s a f).getD f) n H hb Sl ∧ xFr fC w w1 := by
  have e1 : ∀ m, m < 200 → (nI (s a) = nI m) = (s a = m) := fun m hm => propext (nI_eq (by have := s_lt hs a; omega) (by omega))
  unfold fX3_isDone
  rw [if_pos hC.o.1, hC.o.2.2.2.1]
  simp only [ob]
  rw [xl1, nI_add, c_dig hs hT (by omega)]
  simp only [ob]
  rw [hC.o.2.2.2.1]
  simp only [ob]
  rw [xl2, nI_add, c_dig hs hT (by omega)]
  simp only [ob]
  rw [hC.o.2.2.2.1]
  simp only [ob]
  rw [xl3, nI_add, c_dig hs hT (by omega)]
  simp only [ob]
  rw [hC.o.2.2.2.1]
  simp only [ob]
  unfold aO
  rcases oW hs ho with ⟨h0, h1, h2, h3, h4⟩ | ⟨h0, h1, h2, h3, h4⟩ | ⟨h0, h1, h2, h3, h4, h5⟩ | ⟨h0, h1, h2, h3, h4, h5⟩
  · rw [c_last hs hT (e := a + 2) (by omega) (by omega) (show 48 ≤ s (a + 2 + 1) from h3.1) (show s (a + 2 + 1) ≤ 57 by have := h3.2; rw [show a + 2 + 1 = a + 3 from rfl]; omega) (by omega)]
    simp only [ob]
    rw [hC.o.2.2.2.1]
    simp only [ob]
    rw [c_sign hs hT (by omega)]
    simp only [ob]
    rw [if_neg (show ¬ s (a + 2) = 45 by omega), dG_ok (b := s (a + 1)) (by omega)]
    rcases h0 with h0 | h0
    · obtain ⟨w1, q1, q2, q3⟩ := c_isY hC (k := 69 + (s (a + 1) - 48)) (by omega) (nI (s (a + 3) - 48))
      rw [if_pos (show nI (s a) = 97 by rw [h0]; decide +kernel), if_pos h0, s_answerPlace]
      simp only [ob]
      rw [show a + 2 + 1 = a + 3 from rfl, q1]
      simp only [ob]
      rw [if_pos nar1]
      exact ⟨w1, rfl, q2, q3⟩
    · obtain ⟨w1, q1, q2, q3⟩ := c_isY hC (k := 66 + (s (a + 1) - 48)) (by omega) (nI (s (a + 3) - 48))
      rw [if_neg (show ¬ nI (s a) = 97 by rw [h0]; decide +kernel), if_neg (show ¬ nI (s a) = 111 by rw [h0]; decide +kernel), if_pos (show nI (s a) = 115 by rw [h0]; decide +kernel), if_neg (show ¬ s a = 97 by omega), if_neg (show ¬ s a = 111 by omega), if_pos h0, s_messagePlace]
      simp only [ob]
      rw [show a + 2 + 1 = a + 3 from rfl, q1]
      simp only [ob]
      rw [if_pos nar1]
      exact ⟨w1, rfl, q2, q3⟩
  · rw [c_last hs hT (e := a + 2) (by omega) (by omega) (show 48 ≤ s (a + 2 + 1) from h3.1) (show s (a + 2 + 1) ≤ 57 from h3.2) (by omega)]
    simp only [ob]
    rw [hC.o.2.2.2.1]
    simp only [ob]
    rw [c_sign hs hT (by omega)]
    simp only [ob]
    rw [if_neg (show ¬ s (a + 2) = 45 by omega), dG_ok (b := s (a + 1)) (by omega), if_neg (show ¬ nI (s a) = 97 by rw [h0]; decide +kernel), if_neg (show ¬ nI (s a) = 111 by rw [h0]; decide +kernel), if_neg (show ¬ nI (s a) = 115 by rw [h0]; decide +kernel), if_neg (show ¬ nI (s a) = 117 by rw [h0]; decide +kernel), if_neg (show ¬ nI (s a) = 118 by rw [h0]; decide +kernel), if_pos (show nI (s a) = 119 by rw [h0]; decide +kernel), if_neg (show ¬ s a = 97 by omega), if_neg (show ¬ s a = 111 by omega), if_neg (show ¬ s a = 115 by omega), if_neg (show ¬ s a = 117 by omega), if_neg (show ¬ s a = 118 by omega), show a + 2 + 1 = a + 3 from rfl, c_weightError hC]
    simp only [ob]
    unfold fX0_weightPlace
    simp only [ob]
    by_cases e : eW f 0 (nI (s (a + 1) - 48)) (nI (s (a + 3) - 48)) = 0
    · obtain ⟨w1, q1, q2, q3⟩ := c_isY hC (k := s (a + 1) - 48) (by omega) (nI (s (a + 3) - 48))
      rw [e, if_pos rfl, q1]
      simp only [ob]
      rw [if_pos nar1]
      exact ⟨w1, rfl, q2, q3⟩
    · rw [c_isN hC e, if_neg e]
      simp only [ob]
      rw [if_pos nar0]
      exact ⟨w, rfl, hC, xFr.rf⟩
  · rw [c_last hs hT (e := a + 3) (by omega) (by omega) (show 48 ≤ s (a + 3 + 1) from h4.1) (show s (a + 3 + 1) ≤ 57 from h4.2) (by omega)]
    simp only [ob]
    rw [hC.o.2.2.2.1]
    simp only [ob]
    rw [c_sign hs hT (by omega)]
    simp only [ob]
    rw [if_neg (show ¬ s (a + 3) = 45 by omega), dG_ok (b := s (a + 1)) (by omega), dG_ok (b := s (a + 2)) (by omega), if_neg (show ¬ nI (s a) = 97 by rw [h0]; decide +kernel), if_pos (show nI (s a) = 111 by rw [h0]; decide +kernel), if_neg (show ¬ s a = 97 by omega), if_pos h0, show a + 3 + 1 = a + 4 from rfl, c_beliefError hC]
    simp only [ob]
    rw [s_toldPlace]
    simp only [ob]
    by_cases e : eB f (nI (s (a + 1) - 48)) (nI (s (a + 2) - 48)) (nI (s (a + 4) - 48)) = 0
    · obtain ⟨w1, q1, q2, q3⟩ := c_isY hC (k := 3 + 3 * (s (a + 1) - 48) + (s (a + 2) - 48)) (by omega) (nI (s (a + 4) - 48))
      rw [e, if_pos rfl, q1]
      simp only [ob]
      rw [if_pos nar1]
      exact ⟨w1, rfl, q2, q3⟩
    · rw [c_isN hC e, if_neg e]
      simp only [ob]
      rw [if_pos nar0]
      exact ⟨w, rfl, hC, xFr.rf⟩
  · have hl : fX1_lastNumberOf 10 (nI a) w = some (pV s a, w) := by
      unfold pV
      rcases h5 with ⟨k1, k2, k3⟩ | ⟨k1, k2, k3⟩
      · rw [c_last hs hT (e := a + 5) (by omega) (by omega) (show 48 ≤ s (a + 5 + 1) from k2.1) (show s (a + 5 + 1) ≤ 57 from k2.2) (by omega), if_pos k1, if_pos k1, Int32.mul_neg, Int32.mul_one]
      · rw [c_last hs hT (e := a + 4) (by omega) (by omega) (show 48 ≤ s (a + 4 + 1) from k2.1) (show s (a + 4 + 1) ≤ 57 from k2.2) (by omega), if_neg (show ¬ s (a + 4) = 45 by omega), if_neg k1, Int32.mul_one]
    rw [hl]
    simp only [ob]
    rw [hC.o.2.2.2.1]
    simp only [ob]
    rw [c_sign hs hT (by omega)]
    simp only [ob]
    rw [dG_ok (b := s (a + 1)) (by omega), dG_ok (b := s (a + 2)) (by omega), dG_ok (b := s (a + 3)) (by omega)]
    rcases h0 with h0 | h0
    · obtain ⟨w1, q1, q2, q3⟩ := c_isY hC (k := 12 + 27 * 0 + 9 * (s (a + 1) - 48) + 3 * (s (a + 2) - 48) + (s (a + 3) - 48)) (by omega) (pV s a)
      have hp := s_payPlace 0 (s (a + 1) - 48) (s (a + 2) - 48) (s (a + 3) - 48) w
      rw [← xl0] at hp
      rw [if_neg (show ¬ nI (s a) = 97 by rw [h0]; decide +kernel), if_neg (show ¬ nI (s a) = 111 by rw [h0]; decide +kernel), if_neg (show ¬ nI (s a) = 115 by rw [h0]; decide +kernel), if_pos (show nI (s a) = 117 by rw [h0]; decide +kernel), if_neg (show ¬ s a = 97 by omega), if_neg (show ¬ s a = 111 by omega), if_neg (show ¬ s a = 115 by omega), if_pos h0, hp]
      simp only [ob]
      rw [q1]
      simp only [ob]
      rw [if_pos nar1]
      exact ⟨w1, rfl, q2, q3⟩
    · obtain ⟨w1, q1, q2, q3⟩ := c_isY hC (k := 12 + 27 * 1 + 9 * (s (a + 1) - 48) + 3 * (s (a + 2) - 48) + (s (a + 3) - 48)) (by omega) (pV s a)
      have hp := s_payPlace 1 (s (a + 1) - 48) (s (a + 2) - 48) (s (a + 3) - 48) w
      rw [if_neg (show ¬ nI (s a) = 97 by rw [h0]; decide +kernel), if_neg (show ¬ nI (s a) = 111 by rw [h0]; decide +kernel), if_neg (show ¬ nI (s a) = 115 by rw [h0]; decide +kernel), if_neg (show ¬ nI (s a) = 117 by rw [h0]; decide +kernel), if_pos (show nI (s a) = 118 by rw [h0]; decide +kernel), if_neg (show ¬ s a = 97 by omega), if_neg (show ¬ s a = 111 by omega), if_neg (show ¬ s a = 115 by omega), if_neg (show ¬ s a = 117 by omega), if_pos h0, hp]
      simp only [ob]
      rw [q1]
      simp only [ob]
      rw [if_pos nar1]
      exact ⟨w1, rfl, q2, q3⟩
end TXG
