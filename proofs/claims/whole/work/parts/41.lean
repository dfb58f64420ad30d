/-! THE REFERENCE: orders of four parts and of payoffs -/
section TXQ
variable {w : XW} {s : Nat → Nat} {L : Nat} {f : Nat → Int32} {n : Nat} {H : Nat → Nat → Int32} {hb : Nat → Bool} {Sl : Nat → Nat → Int32} {i o : Nat} {ors : Nat → Int32}
theorem m_p4 (h : MT w s L f n H hb Sl (i + 1) o ors) (hs : TS s L) (hi : i ≤ 150) (ho : 5 * o + 4 < 85) : ∃ w1 ors1, ((fX4_isFigure 15 (nI 1) (nI 50) w).bind fun q1 => if q1.1 = 0 then some ((0 : Int32), q1.2) else (fX4_isFigure 15 (nI 2) (nI 50) q1.2).bind fun q2 => if q2.1 = 0 then some ((0 : Int32), q2.2) else (fX4_isSign 15 (nI 61) q2.2).bind fun q3 => if q3.1 = 0 then some ((0 : Int32), q3.2) else (fX4_isFigure 15 (nI 3) (nI 57) q3.2).bind fun q4 => if q4.1 = 0 then some ((0 : Int32), q4.2) else some ((1 : Int32), q4.2)) = some (rF (mis s i [48, 48, 61, 57] 0), w1) ∧ MT w1 s L f n H hb Sl ((mis s i [48, 48, 61, 57] 0).getD (i + 5)) o ors1 ∧ (∀ j, j < 85 → (j < 5 * o + 1 ∨ 5 * o + 3 < j) → ors1 j = ors j) ∧ (mis s i [48, 48, 61, 57] 0 = none → ors1 (5 * o + 1) = nI (s (i + 1) - 48) ∧ ors1 (5 * o + 2) = nI (s (i + 2) - 48) ∧ ors1 (5 * o + 3) = nI (s (i + 4) - 48)) ∧ xFr [15, 21] w w1 := by
  have em : mis s i [48, 48, 61, 57] 0 = if fitB (s (i + 1)) 48 then (if fitB (s (i + 2)) 48 then (if fitB (s (i + 3)) 61 then (if fitB (s (i + 4)) 57 then none else some (i + 4)) else some (i + 3)) else some (i + 2)) else some (i + 1) := rfl
  have f1 : fitB (s (i + 1)) 48 = (decide (48 ≤ s (i + 1)) && decide (s (i + 1) ≤ 50)) := rfl
  have f2 : fitB (s (i + 2)) 48 = (decide (48 ≤ s (i + 2)) && decide (s (i + 2) ≤ 50)) := rfl
  have f3 : fitB (s (i + 3)) 61 = decide (s (i + 3) = 61) := rfl
  have f4 : fitB (s (i + 4)) 57 = (decide (48 ≤ s (i + 4)) && decide (s (i + 4) ≤ 57)) := rfl
  rw [em]
  cases h1 : fitB (s (i + 1)) 48
  · rw [f1] at h1
    rw [m_figN h hs (by omega) (by omega) h1, if_neg Bool.false_ne_true]
    simp only [ob]
    rw [if_pos trivial]
    exact ⟨w, ors, rfl, h, fun _ _ _ => rfl, fun z => (by cases z), xFr.rf⟩
  · rw [f1] at h1
    obtain ⟨w1, a1, a2, a3⟩ := m_figY h hs (by omega) (j := 1) (by omega) (by omega) h1
    rw [a1, if_pos rfl]
    simp only [ob]
    rw [if_neg (by decide +kernel)]
    cases h2 : fitB (s (i + 2)) 48
    · rw [f2] at h2
      rw [m_figN a2 hs (by omega) (by omega) h2, if_neg Bool.false_ne_true]
      simp only [ob]
      rw [if_pos trivial]
      exact ⟨w1, _, rfl, a2, fun j hj h3 => by rw [u_at hj, if_neg (by omega)], fun z => (by cases z), a3⟩
    · rw [f2] at h2
      obtain ⟨w2, b1, b2, b3⟩ := m_figY a2 hs (by omega) (j := 2) (by omega) (by omega) h2
      rw [b1, if_pos rfl]
      simp only [ob]
      rw [if_neg (by decide +kernel)]
      cases h3 : fitB (s (i + 3)) 61
      · rw [f3] at h3
        obtain ⟨w3, c1, c2, c3⟩ := m_sgnN b2 hs (by omega) (c := 61) (by omega) (by omega) (of_decide_eq_false h3)
        rw [c1, if_neg Bool.false_ne_true]
        simp only [ob]
        rw [if_pos trivial]
        exact ⟨w3, _, rfl, c2, fun j hj h3 => by rw [u_at hj, if_neg (by omega), u_at hj, if_neg (by omega)], fun z => (by cases z), (a3.tr b3).tr c3⟩
      · rw [f3] at h3
        obtain ⟨w3, c1, c2, c3⟩ := m_sgnY b2 hs (by omega) (c := 61) (by omega) (by omega) (of_decide_eq_true h3)
        rw [c1, if_pos rfl]
        simp only [ob]
        rw [if_neg (by decide +kernel)]
        cases h4 : fitB (s (i + 4)) 57
        · rw [f4] at h4
          rw [m_figN c2 hs (by omega) (by omega) h4, if_neg Bool.false_ne_true]
          simp only [ob]
          rw [if_pos trivial]
          exact ⟨w3, _, rfl, c2, fun j hj h3 => by rw [u_at hj, if_neg (by omega), u_at hj, if_neg (by omega)], fun z => (by cases z), (a3.tr b3).tr c3⟩
        · rw [f4] at h4
          obtain ⟨w4, d1, d2, d3⟩ := m_figY c2 hs (by omega) (j := 3) (by omega) (by omega) h4
          rw [d1, if_pos rfl]
          simp only [ob]
          rw [if_neg (by decide +kernel)]
          refine ⟨w4, _, rfl, d2, fun j hj h3 => by rw [u_at hj, if_neg (by omega), u_at hj, if_neg (by omega), u_at hj, if_neg (by omega)], fun _ => ⟨?_, ?_, ?_⟩, ((a3.tr b3).tr c3).tr d3⟩
          · rw [u_at (by omega), if_neg (by omega), u_at (by omega), if_neg (by omega), u_at (by omega), if_pos rfl]
          · rw [u_at (by omega), if_neg (by omega), u_at (by omega), if_pos rfl]
          · rw [u_at (by omega), if_pos rfl]
/-- the last of a payoff order: the figure, negated or not -/
theorem m_tail (h : MT w s L f n H hb Sl i o ors) (hs : TS s L) (hi : i ≤ 170) (ho : 5 * o + 4 < 85) (sg : Int32) : ∃ w1 ors1, ((fX4_isFigure 15 (nI 4) (nI 57) w).bind fun q6 => (xgR q6.2 15 4 8).bind fun v7 => (xgI q6.2 15 4 9).bind fun v8 => (xaI q6.2 v7 ((nI 5 * v8) + nI 4)).bind fun v9 => (xsI q6.2 v7 ((nI 5 * v8) + nI 4) (v9 * sg)).bind fun w10 => if vp_nar .boolean q6.1 = q6.1 then some (q6.1, w10) else none) = some (if fitB (s i) 57 then 1 else 0, w1) ∧ MT w1 s L f n H hb Sl (if fitB (s i) 57 then i + 1 else i) o ors1 ∧ (∀ j, j < 85 → j ≠ 5 * o + 4 → ors1 j = ors j) ∧ (fitB (s i) 57 = true → ors1 (5 * o + 4) = nI (s i - 48) * sg) ∧ xFr [15, 21] w w1 := by
  have f4 : fitB (s i) 57 = (decide (48 ≤ s i) && decide (s i ≤ 57)) := rfl
  cases h4 : fitB (s i) 57
  · rw [f4] at h4
    obtain ⟨w1, e1, e2, e3⟩ := h.or ho (ors (5 * o + 4) * sg)
    rw [m_figN h hs (by omega) (by omega) h4, if_neg Bool.false_ne_true, if_neg Bool.false_ne_true]
    simp only [ob]
    rw [h.fo.2.2.2.2.1, h.fo.2.2.2.2.2]
    simp only [ob]
    rw [pk_mul, nI_add, xaI_ok h.2.2 ho (by omega)]
    simp only [ob]
    rw [e1]
    simp only [ob]
    rw [if_pos (by decide +kernel)]
    exact ⟨w1, _, rfl, e2, fun j hj h3 => by rw [u_at hj, if_neg h3], fun z => absurd z (by decide), e3⟩
  · rw [f4] at h4
    obtain ⟨w1, d1, d2, d3⟩ := m_figY h hs (by omega) (j := 4) (by omega) (by omega) h4
    obtain ⟨w2, e1, e2, e3⟩ := d2.or ho (xct 85 (upd ors (5 * o + 4) (nI (s i - 48))) (5 * o + 4) * sg)
    rw [d1, if_pos rfl, if_pos rfl]
    simp only [ob]
    rw [d2.fo.2.2.2.2.1, d2.fo.2.2.2.2.2]
    simp only [ob]
    rw [pk_mul, nI_add, xaI_ok d2.2.2 ho (by omega)]
    simp only [ob]
    rw [e1]
    simp only [ob]
    rw [if_pos (by decide +kernel)]
    refine ⟨w2, _, rfl, e2, fun j hj h3 => by rw [u_at hj, if_neg h3, u_at hj, if_neg h3], fun _ => ?_, d3.tr e3⟩
    rw [u_at ho, if_pos rfl, u_at ho, if_pos rfl]
end TXQ
