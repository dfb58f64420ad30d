/-! THE REFERENCE: an order that sets a payoff -/
def pT (s : Nat → Nat) (i : Nat) : Option Nat := if s (i + 5) = 45 then (if fitB (s (i + 6)) 57 then none else some (i + 6)) else (if fitB (s (i + 5)) 57 then none else some (i + 5))
def pM (s : Nat → Nat) (i : Nat) : Option Nat := if fitB (s (i + 1)) 48 then (if fitB (s (i + 2)) 48 then (if fitB (s (i + 3)) 48 then (if fitB (s (i + 4)) 61 then pT s i else some (i + 4)) else some (i + 3)) else some (i + 2)) else some (i + 1)
def pE (s : Nat → Nat) (i : Nat) : Nat := if s (i + 5) = 45 then i + 7 else i + 6
def pV (s : Nat → Nat) (i : Nat) : Int32 := if s (i + 5) = 45 then nI (s (i + 6) - 48) * (-1) else nI (s (i + 5) - 48) * 1
section TXR
variable {w : XW} {s : Nat → Nat} {L : Nat} {f : Nat → Int32} {n : Nat} {H : Nat → Nat → Int32} {hb : Nat → Bool} {Sl : Nat → Nat → Int32} {i o : Nat} {ors : Nat → Int32}
theorem m_pay (h : MT w s L f n H hb Sl (i + 1) o ors) (hs : TS s L) (hi : i ≤ 150) (ho : 5 * o + 4 < 85) : ∃ w1 ors1, fX4_isPay 15 w = some (rF (pM s i), w1) ∧ MT w1 s L f n H hb Sl ((pM s i).getD (pE s i)) o ors1 ∧ (∀ j, j < 85 → (j < 5 * o + 1 ∨ 5 * o + 4 < j) → ors1 j = ors j) ∧ (pM s i = none → ors1 (5 * o + 1) = nI (s (i + 1) - 48) ∧ ors1 (5 * o + 2) = nI (s (i + 2) - 48) ∧ ors1 (5 * o + 3) = nI (s (i + 3) - 48) ∧ ors1 (5 * o + 4) = pV s i) ∧ xFr [15, 21] w w1 := by
  have f1 : fitB (s (i + 1)) 48 = (decide (48 ≤ s (i + 1)) && decide (s (i + 1) ≤ 50)) := rfl
  have f2 : fitB (s (i + 2)) 48 = (decide (48 ≤ s (i + 2)) && decide (s (i + 2) ≤ 50)) := rfl
  have f3 : fitB (s (i + 3)) 48 = (decide (48 ≤ s (i + 3)) && decide (s (i + 3) ≤ 50)) := rfl
  have f4 : fitB (s (i + 4)) 61 = decide (s (i + 4) = 61) := rfl
  have e10 : ((1 : Int32) = 0) = False := eq_false (by decide +kernel)
  unfold fX4_isPay pM
  rw [if_pos h.fo.1, show (50 : Int32) = nI 50 by decide +kernel, show (57 : Int32) = nI 57 by decide +kernel, show (61 : Int32) = nI 61 by decide +kernel, show (45 : Int32) = nI 45 by decide +kernel, show (2 : Int32) = nI 2 from xl2, show (3 : Int32) = nI 3 from xl3]
  cases h1 : fitB (s (i + 1)) 48
  · rw [f1] at h1
    rw [show fX4_isFigure 15 1 (nI 50) w = fX4_isFigure 15 (nI 1) (nI 50) w by rw [← xl1], m_figN h hs (by omega) (by omega) h1, if_neg Bool.false_ne_true]
    simp only [ob]
    rw [if_pos trivial]
    exact ⟨w, ors, rfl, h, fun _ _ _ => rfl, fun z => (by cases z), xFr.rf⟩
  · rw [f1] at h1
    obtain ⟨w1, a1, a2, a3⟩ := m_figY h hs (by omega) (j := 1) (by omega) (by omega) h1
    rw [show fX4_isFigure 15 1 (nI 50) w = fX4_isFigure 15 (nI 1) (nI 50) w by rw [← xl1], a1, if_pos rfl]
    simp only [ob, e10, if_false]
    cases h2 : fitB (s (i + 2)) 48
    · rw [f2] at h2
      rw [m_figN a2 hs (by omega) (by omega) h2, if_neg Bool.false_ne_true]
      simp only [ob]
      rw [if_pos trivial]
      exact ⟨w1, _, rfl, a2, fun j hj h3 => by rw [u_at hj, if_neg (by omega)], fun z => (by cases z), a3⟩
    · rw [f2] at h2
      obtain ⟨w2, b1, b2, b3⟩ := m_figY a2 hs (by omega) (j := 2) (by omega) (by omega) h2
      rw [b1, if_pos rfl]
      simp only [ob, e10, if_false]
      cases h3 : fitB (s (i + 3)) 48
      · rw [f3] at h3
        rw [m_figN b2 hs (by omega) (by omega) h3, if_neg Bool.false_ne_true]
        simp only [ob]
        rw [if_pos trivial]
        exact ⟨w2, _, rfl, b2, fun j hj h3 => by rw [u_at hj, if_neg (by omega), u_at hj, if_neg (by omega)], fun z => (by cases z), a3.tr b3⟩
      · rw [f3] at h3
        obtain ⟨w3, c1, c2, c3⟩ := m_figY b2 hs (by omega) (j := 3) (by omega) (by omega) h3
        rw [c1, if_pos rfl]
        simp only [ob, e10, if_false]
        cases h4 : fitB (s (i + 4)) 61
        · rw [f4] at h4
          obtain ⟨w4, d1, d2, d3⟩ := m_sgnN c2 hs (by omega) (c := 61) (by omega) (by omega) (of_decide_eq_false h4)
          rw [d1, if_neg Bool.false_ne_true]
          simp only [ob]
          rw [if_pos trivial]
          exact ⟨w4, _, rfl, d2, fun j hj h3 => by rw [u_at hj, if_neg (by omega), u_at hj, if_neg (by omega), u_at hj, if_neg (by omega)], fun z => (by cases z), ((a3.tr b3).tr c3).tr d3⟩
        · rw [f4] at h4
          obtain ⟨w4, d1, d2, d3⟩ := m_sgnY c2 hs (by omega) (c := 61) (by omega) (by omega) (of_decide_eq_true h4)
          rw [d1, if_pos rfl]
          simp only [ob, e10, if_false]
          have hq1 : xct 85 (upd (xct 85 (upd (xct 85 (upd ors (5 * o + 1) (nI (s (i + 1) - 48)))) (5 * o + 2) (nI (s (i + 1 + 1) - 48)))) (5 * o + 3) (nI (s (i + 1 + 1 + 1) - 48))) (5 * o + 1) = nI (s (i + 1) - 48) := by
            rw [u_at (by omega), if_neg (by omega), u_at (by omega), if_neg (by omega), u_at (by omega), if_pos rfl]
          have hq2 : xct 85 (upd (xct 85 (upd (xct 85 (upd ors (5 * o + 1) (nI (s (i + 1) - 48)))) (5 * o + 2) (nI (s (i + 1 + 1) - 48)))) (5 * o + 3) (nI (s (i + 1 + 1 + 1) - 48))) (5 * o + 2) = nI (s (i + 2) - 48) := by
            rw [u_at (by omega), if_neg (by omega), u_at (by omega), if_pos rfl]
          have hq3 : xct 85 (upd (xct 85 (upd (xct 85 (upd ors (5 * o + 1) (nI (s (i + 1) - 48)))) (5 * o + 2) (nI (s (i + 1 + 1) - 48)))) (5 * o + 3) (nI (s (i + 1 + 1 + 1) - 48))) (5 * o + 3) = nI (s (i + 3) - 48) := by
            rw [u_at (by omega), if_pos rfl]
          have hq : ∀ j, j < 85 → (j < 5 * o + 1 ∨ 5 * o + 4 < j) → xct 85 (upd (xct 85 (upd (xct 85 (upd ors (5 * o + 1) (nI (s (i + 1) - 48)))) (5 * o + 2) (nI (s (i + 1 + 1) - 48)))) (5 * o + 3) (nI (s (i + 1 + 1 + 1) - 48))) j = ors j := by
            intro j hj h3
            rw [u_at hj, if_neg (by omega), u_at hj, if_neg (by omega), u_at hj, if_neg (by omega)]
          have fr := ((a3.tr b3).tr c3).tr d3
          unfold pT pE pV
          by_cases h5 : s (i + 5) = 45
          · obtain ⟨w5, g1, g2, g3⟩ := m_sgnY d2 hs (by omega) (c := 45) (by omega) (by omega) h5
            obtain ⟨w6, or6, k1, k2, k3, k4, k5⟩ := m_tail (i := i + 6) g2 hs (by omega) ho (-1)
            rw [g1, if_pos h5, if_pos h5, if_pos h5]
            simp only [ob, e10, if_false]
            rw [show (5 : Int32) = nI 5 by decide +kernel, show (4 : Int32) = nI 4 by decide +kernel, k1]
            refine ⟨w6, or6, ?_, ?_, fun j hj h3 => by rw [k3 j hj (by omega), hq j hj h3], fun z => ?_, (fr.tr g3).tr k5⟩
            · cases fitB (s (i + 6)) 57
              · rw [if_neg Bool.false_ne_true, if_neg Bool.false_ne_true]; rfl
              · rw [if_pos rfl, if_pos rfl]; rfl
            · cases hz : fitB (s (i + 6)) 57
              · rw [hz, if_neg Bool.false_ne_true] at k2; rw [if_neg Bool.false_ne_true]; exact k2
              · rw [hz, if_pos rfl] at k2; rw [if_pos rfl]; exact k2
            · cases hz : fitB (s (i + 6)) 57
              · rw [hz, if_neg Bool.false_ne_true] at z; cases z
              · exact ⟨by rw [k3 _ (by omega) (by omega), hq1], by rw [k3 _ (by omega) (by omega), hq2], by rw [k3 _ (by omega) (by omega), hq3], k4 hz⟩
          · obtain ⟨w5, g1, g2, g3⟩ := m_sgnN d2 hs (by omega) (c := 45) (by omega) (by omega) h5
            obtain ⟨w6, or6, k1, k2, k3, k4, k5⟩ := m_tail (i := i + 5) g2 hs (by omega) ho 1
            rw [g1, if_neg h5, if_neg h5, if_neg h5]
            simp only [ob, if_true]
            rw [show (5 : Int32) = nI 5 by decide +kernel, show (4 : Int32) = nI 4 by decide +kernel, k1]
            refine ⟨w6, or6, ?_, ?_, fun j hj h3 => by rw [k3 j hj (by omega), hq j hj h3], fun z => ?_, (fr.tr g3).tr k5⟩
            · cases fitB (s (i + 5)) 57
              · rw [if_neg Bool.false_ne_true, if_neg Bool.false_ne_true]; rfl
              · rw [if_pos rfl, if_pos rfl]; rfl
            · cases hz : fitB (s (i + 5)) 57
              · rw [hz, if_neg Bool.false_ne_true] at k2; rw [if_neg Bool.false_ne_true]; exact k2
              · rw [hz, if_pos rfl] at k2; rw [if_pos rfl]; exact k2
            · cases hz : fitB (s (i + 5)) 57
              · rw [hz, if_neg Bool.false_ne_true] at z; cases z
              · exact ⟨by rw [k3 _ (by omega) (by omega), hq1], by rw [k3 _ (by omega) (by omega), hq2], by rw [k3 _ (by omega) (by omega), hq3], k4 hz⟩
end TXR
