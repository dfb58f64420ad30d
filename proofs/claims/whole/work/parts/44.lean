/-! THE REFERENCE: the whole text; both sides' fault alike -/
def st (s : Nat → Nat) : Nat → Nat
  | 0 => 0
  | k + 1 => eO s (st s k) + 1
theorem Od_mono {s : Nat → Nat} {a j o : Nat} {g g1 : Nat → Int32} (hj : j < o) (h : ∀ k, k < 5 * o → g1 k = g k) (hO : Od s a j g) : Od s a j g1 := by
  obtain ⟨h0, h1, h2, h3⟩ := hO
  refine ⟨by rw [h _ (by omega)]; exact h0, fun z => ?_, fun z => ?_, fun z => ?_⟩
  · rw [h _ (by omega), h _ (by omega)]; exact h1 z
  · rw [h _ (by omega), h _ (by omega), h _ (by omega)]; exact h2 z
  · rw [h _ (by omega), h _ (by omega), h _ (by omega), h _ (by omega)]; exact h3 z
section TXT
variable {s : Nat → Nat} {L : Nat} {f : Nat → Int32} {n : Nat} {H : Nat → Nat → Int32} {hb : Nat → Bool} {Sl : Nat → Nat → Int32}
theorem m_text12 (hs : TS s L) : ∀ (d g a o : Nat) (w : XW) (ors : Nat → Int32), L + 1 ≤ a + d → d + 1 < g → a ≤ L → 5 * o ≤ a → a = st s o → (∀ j, j < o → Od s (st s j) j ors ∧ st s j < L) → MT w s L f n H hb Sl a o ors → ∃ w1 ors1 m, fX4_isText_12 g 15 1 w = some (rF (fP s d a), w1) ∧ MT w1 s L f n H hb Sl ((fP s d a).getD L) m ors1 ∧ (fP s d a = none → m ≤ 16 ∧ L < st s m ∧ ∀ j, j < m → Od s (st s j) j ors1 ∧ st s j < L) ∧ xFr [15, 21] w w1 := by
  have hL := hs.1
  intro d
  induction d with
  | zero => intro g a o w ors h1 h2 h3; omega
  | succ d ih =>
    intro g a o w ors h1 h2 h3 h4 h5 h6 h7
    obtain ⟨g, rfl⟩ : ∃ x, g = x + 1 := ⟨g - 1, by omega⟩
    obtain ⟨w1, or1, k1, k2, k3, k4, k5⟩ := m_order h7 hs (by omega) (by omega)
    rw [fX4_isText_12, if_neg (by decide +kernel), k1]
    simp only [ob]
    unfold fP
    cases hf : fO s a with
    | some p =>
      rw [hf] at k2
      rw [if_pos (show rF (some p) = 0 from rfl)]
      exact ⟨w1, or1, o, rfl, k2, fun z => (by cases z), k5⟩
    | none =>
      obtain ⟨o1, o2, o3, o4⟩ := fO_none hs hf
      rw [hf] at k2
      have k2' : MT w1 s L f n H hb Sl (eO s a) o or1 := k2
      obtain ⟨w2, b1, b2, b3⟩ := k2'.od (o + 1)
      rw [if_neg (show ¬ rF none = 0 by decide +kernel), k2'.fo.2.2.2.2.2]
      simp only [ob]
      rw [nI_1, b1]
      simp only [ob]
      have hO : ∀ j, j < o + 1 → Od s (st s j) j or1 ∧ st s j < L := by
        intro j hj
        by_cases e : j = o
        · subst e
          rw [← h5]
          exact ⟨k4 hf, by omega⟩
        · exact ⟨Od_mono (o := o) (by omega) k3 (h6 j (by omega)).1, (h6 j (by omega)).2⟩
      have hst : st s (o + 1) = eO s a + 1 := by
        show eO s (st s o) + 1 = eO s a + 1
        rw [← h5]
      by_cases h59 : s (eO s a) = 59
      · have hl : eO s a < L := by
          by_cases z : eO s a < L
          · exact z
          · rw [hs.2.2 _ (by omega)] at h59; omega
        obtain ⟨w3, c1, c2, c3⟩ := m_sgnY b2 hs (by omega) (c := 59) (by omega) (by omega) h59
        obtain ⟨w4, or4, m, d1, d2, d3, d4⟩ := ih g (eO s a + 1) (o + 1) w3 or1 (by omega) (by omega) (by omega) (by omega) hst.symm hO c2
        rw [show (59 : Int32) = nI 59 by decide +kernel, c1]
        simp only [ob]
        rw [if_neg (by omega), if_pos h59, d1]
        exact ⟨w4, or4, m, rfl, d2, d3, ((k5.tr b3).tr c3).tr d4⟩
      · obtain ⟨w3, c1, c2, c3⟩ := m_sgnN b2 hs (by omega) (c := 59) (by omega) (by omega) h59
        obtain ⟨g, rfl⟩ : ∃ x, g = x + 1 := ⟨g - 1, by omega⟩
        rw [show (59 : Int32) = nI 59 by decide +kernel, c1]
        simp only [ob]
        rw [fX4_isText_12, if_pos rfl, c2.fo.2.2.2.1, c2.fo.2.2.1]
        simp only [ob]
        have fr := (k5.tr b3).tr c3
        by_cases h0 : s (eO s a) = 0
        · have hE : eO s a = L := by
            by_cases z : eO s a < L
            · have := (hs.2.1 _ z).1; omega
            · omega
          rw [if_pos (show nI (eO s a) = nI L by rw [hE]), if_pos h0]
          refine ⟨w3, or1, o + 1, rfl, ?_, fun _ => ⟨by omega, by omega, hO⟩, fr⟩
          rw [hE] at c2
          exact c2
        · have hE : eO s a < L := by
            by_cases z : eO s a < L
            · exact z
            · exact absurd (hs.2.2 _ (by omega)) h0
          have hne : ¬ nI (eO s a) = nI L := fun z => absurd ((nI_eq (by omega) (by omega)).mp z) (by omega)
          rw [if_neg hne, if_neg h0, if_neg h59]
          exact ⟨w3, or1, o + 1, rfl, c2, fun z => (by cases z), fr⟩
theorem m_text {w : XW} {a o : Nat} {ors : Nat → Int32} (hs : TS s L) (h : MT w s L f n H hb Sl a o ors) : ∃ w1 ors1 m, fX4_isText 15 w = some (rF (fP s (L + 1) 0), w1) ∧ MT w1 s L f n H hb Sl ((fP s (L + 1) 0).getD L) m ors1 ∧ (fP s (L + 1) 0 = none → m ≤ 16 ∧ L < st s m ∧ ∀ j, j < m → Od s (st s j) j ors1 ∧ st s j < L) ∧ xFr [15, 21] w w1 := by
  have hL := hs.1
  obtain ⟨w1, a1, a2, a3⟩ := h.at 0
  obtain ⟨w2, b1, b2, b3⟩ := a2.od 0
  obtain ⟨w3, or3, m, c1, c2, c3, c4⟩ := m_text12 hs (L + 1) 1000 0 0 w2 ors (by omega) (by omega) (by omega) (by omega) rfl (fun j hj => absurd hj (by omega)) b2
  rw [← xl0] at a1 b1
  unfold fX4_isText
  rw [if_pos h.fo.1, a1]
  simp only [ob]
  rw [b1]
  simp only [ob]
  exact ⟨w3, or3, m, c1, c2, c3, (a3.tr b3).tr c4⟩
end TXT
