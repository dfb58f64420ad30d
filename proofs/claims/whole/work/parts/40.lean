/-! THE REFERENCE: an order of three parts -/
def rF : Option Nat → Int32
  | none => 1
  | some _ => 0
theorem u_at {g : Nat → Int32} {k j : Nat} {v : Int32} (hj : j < 85) : xct 85 (upd g k v) j = if j = k then v else g j := by
  unfold xct upd
  rw [if_pos hj]
section TXO
variable {w : XW} {s : Nat → Nat} {L : Nat} {f : Nat → Int32} {n : Nat} {H : Nat → Nat → Int32} {hb : Nat → Bool} {Sl : Nat → Nat → Int32} {i o : Nat} {ors : Nat → Int32}
theorem m_p3 (h : MT w s L f n H hb Sl (i + 1) o ors) (hs : TS s L) (hi : i ≤ 150) (ho : 5 * o + 4 < 85) {c p hi2 : Nat} (hc0 : 57 < c) (hc : c < 200) (hp : (p = 48 ∧ hi2 = 50) ∨ (p = 57 ∧ hi2 = 57)) : ∃ w1 ors1, ((fX4_isFigure 15 (nI 1) (nI 50) w).bind fun q1 => if q1.1 = 0 then some ((0 : Int32), q1.2) else (fX4_isSign 15 (nI c) q1.2).bind fun q2 => if q2.1 = 0 then some ((0 : Int32), q2.2) else (fX4_isFigure 15 (nI 2) (nI hi2) q2.2).bind fun q3 => if q3.1 = 0 then some ((0 : Int32), q3.2) else some ((1 : Int32), q3.2)) = some (rF (mis s i [48, c, p] 0), w1) ∧ MT w1 s L f n H hb Sl ((mis s i [48, c, p] 0).getD (i + 4)) o ors1 ∧ (∀ j, j < 85 → j ≠ 5 * o + 1 → j ≠ 5 * o + 2 → ors1 j = ors j) ∧ (mis s i [48, c, p] 0 = none → ors1 (5 * o + 1) = nI (s (i + 1) - 48) ∧ ors1 (5 * o + 2) = nI (s (i + 3) - 48)) ∧ xFr [15, 21] w w1 := by
  have em : mis s i [48, c, p] 0 = if fitB (s (i + 1)) 48 then (if fitB (s (i + 2)) c then (if fitB (s (i + 3)) p then none else some (i + 3)) else some (i + 2)) else some (i + 1) := rfl
  have f1 : fitB (s (i + 1)) 48 = (decide (48 ≤ s (i + 1)) && decide (s (i + 1) ≤ 50)) := rfl
  have f2 : fitB (s (i + 2)) c = decide (s (i + 2) = c) := by
    unfold fitB
    rw [if_neg (by omega), if_neg (by omega)]
  have f3 : fitB (s (i + 3)) p = (decide (48 ≤ s (i + 3)) && decide (s (i + 3) ≤ hi2)) := by
    rcases hp with ⟨rfl, rfl⟩ | ⟨rfl, rfl⟩
    · rfl
    · rfl
  have hh2 : hi2 < 200 := by omega
  rw [em]
  cases h1 : fitB (s (i + 1)) 48
  · rw [f1] at h1
    rw [m_figN h hs (by omega) (by omega) h1, if_neg Bool.false_ne_true]
    simp only [ob]
    rw [if_pos trivial]
    exact ⟨w, ors, rfl, h, fun _ _ _ _ => rfl, fun z => (by cases z), xFr.rf⟩
  · rw [f1] at h1
    obtain ⟨w1, a1, a2, a3⟩ := m_figY h hs (by omega) (j := 1) (by omega) (by omega) h1
    rw [a1, if_pos rfl]
    simp only [ob]
    rw [if_neg (by decide +kernel)]
    cases h2 : fitB (s (i + 2)) c
    · rw [f2] at h2
      obtain ⟨w2, b1, b2, b3⟩ := m_sgnN a2 hs (by omega) (c := c) (by omega) hc (of_decide_eq_false h2)
      rw [b1, if_neg Bool.false_ne_true]
      simp only [ob]
      rw [if_pos trivial]
      exact ⟨w2, _, rfl, b2, fun j hj h3 h4 => by rw [u_at hj, if_neg h3], fun z => (by cases z), a3.tr b3⟩
    · rw [f2] at h2
      obtain ⟨w2, b1, b2, b3⟩ := m_sgnY a2 hs (by omega) (c := c) (by omega) hc (of_decide_eq_true h2)
      rw [b1, if_pos rfl]
      simp only [ob]
      rw [if_neg (by decide +kernel)]
      cases h3 : fitB (s (i + 3)) p
      · rw [f3] at h3
        rw [m_figN b2 hs (by omega) hh2 h3, if_neg Bool.false_ne_true]
        simp only [ob]
        rw [if_pos trivial]
        exact ⟨w2, _, rfl, b2, fun j hj h3 h4 => by rw [u_at hj, if_neg h3], fun z => (by cases z), a3.tr b3⟩
      · rw [f3] at h3
        obtain ⟨w3, d1, d2, d3⟩ := m_figY b2 hs (by omega) (j := 2) hh2 (by omega) h3
        rw [d1, if_pos rfl]
        simp only [ob]
        rw [if_neg (by decide +kernel)]
        refine ⟨w3, _, rfl, d2, fun j hj h3 h4 => by rw [u_at hj, if_neg h4, u_at hj, if_neg h3], fun _ => ⟨?_, ?_⟩, (a3.tr b3).tr d3⟩
        · rw [u_at (by omega), if_neg (by omega), u_at (by omega), if_pos rfl]
        · rw [u_at (by omega), if_pos rfl]
end TXO
