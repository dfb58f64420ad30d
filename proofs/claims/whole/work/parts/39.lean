/-! THE REFERENCE: reading the text sign by sign -/
def MT (w : XW) (s : Nat → Nat) (L : Nat) (f : Nat → Int32) (n : Nat) (H : Nat → Nat → Int32) (hb : Nat → Bool) (Sl : Nat → Nat → Int32) (a o : Nat) (ors : Nat → Int32) : Prop := JM w f n H hb Sl (nI L) (nI a) (nI o) ∧ (∃ pa, w[20]? = some (.inl (0, 80, pa)) ∧ ∀ i, i < L → pa i = nI (s i)) ∧ w[21]? = some (.inl (0, 85, ors))
section TXM
variable {w : XW} {s : Nat → Nat} {L : Nat} {f : Nat → Int32} {n : Nat} {H : Nat → Nat → Int32} {hb : Nat → Bool} {Sl : Nat → Nat → Int32} {a o : Nat} {ors : Nat → Int32}
theorem MT.fo (h : MT w s L f n H hb Sl a o ors) : xis w 15 4 = true ∧ xgR w 15 4 5 = some 20 ∧ xgI w 15 4 6 = some (nI L) ∧ xgI w 15 4 7 = some (nI a) ∧ xgR w 15 4 8 = some 21 ∧ xgI w 15 4 9 = some (nI o) := by
  have h0 := h.1.2.1
  unfold MO at h0
  exact ⟨xis_ok h0, xgR_ok h0 rfl, xgI_ok h0 rfl, xgI_ok h0 rfl, xgR_ok h0 rfl, xgI_ok h0 rfl⟩
theorem MT.at (h : MT w s L f n H hb Sl a o ors) (a2 : Nat) : ∃ w1, xpI w 15 4 7 (nI a2) = some w1 ∧ MT w1 s L f n H hb Sl a2 o ors ∧ xFr [15, 21] w w1 := by
  obtain ⟨hM, ⟨pa, p1, p2⟩, p3⟩ := h
  have h0 := hM.2.1
  unfold MO at h0
  have hx : xpI w 15 4 7 (nI a2) = some (w.set 15 (.inr (4, [.ref 16, .ref 17, .int (nI n), .ref 18, .ref 19, .ref 20, .int (nI L), .int (nI a2), .ref 21, .int (nI o), .ref 22, .ref 23]))) := xpI_ok h0 (show 7 < 12 by omega)
  exact ⟨_, hx, ⟨hM.txt _ _ _, ⟨pa, by rw [xset_get _ (by decide)]; exact p1, p2⟩, by rw [xset_get _ (by decide)]; exact p3⟩, xFr.st _ (by decide)⟩
theorem MT.od (h : MT w s L f n H hb Sl a o ors) (o2 : Nat) : ∃ w1, xpI w 15 4 9 (nI o2) = some w1 ∧ MT w1 s L f n H hb Sl a o2 ors ∧ xFr [15, 21] w w1 := by
  obtain ⟨hM, ⟨pa, p1, p2⟩, p3⟩ := h
  have h0 := hM.2.1
  unfold MO at h0
  have hx : xpI w 15 4 9 (nI o2) = some (w.set 15 (.inr (4, [.ref 16, .ref 17, .int (nI n), .ref 18, .ref 19, .ref 20, .int (nI L), .int (nI a), .ref 21, .int (nI o2), .ref 22, .ref 23]))) := xpI_ok h0 (show 9 < 12 by omega)
  exact ⟨_, hx, ⟨hM.txt _ _ _, ⟨pa, by rw [xset_get _ (by decide)]; exact p1, p2⟩, by rw [xset_get _ (by decide)]; exact p3⟩, xFr.st _ (by decide)⟩
theorem MT.or (h : MT w s L f n H hb Sl a o ors) {j : Nat} (hj : j < 85) (v : Int32) : ∃ w1, xsI w 21 (nI j) v = some w1 ∧ MT w1 s L f n H hb Sl a o (xct 85 (upd ors j v)) ∧ xFr [15, 21] w w1 := by
  obtain ⟨hM, ⟨pa, p1, p2⟩, p3⟩ := h
  have t : ∀ (e : XE) (k : Nat), k ≠ 21 → (w.set 21 e)[k]? = w[k]? := fun e k h1 => by rw [xset_get _ (Ne.symm h1)]
  refine ⟨_, xsI_ok p3 hj (by omega), ⟨?_, ⟨pa, by rw [t _ 20 (by decide)]; exact p1, p2⟩, xset_self p3⟩, xFr.st _ (by decide)⟩
  obtain ⟨x, b, c, d, e⟩ := hM
  refine ⟨x, ?_, c.fr (t _ 16 (by decide)) (t _ 22 (by decide)) (t _ 23 (by decide)), d.fr (t _ 17 (by decide)), e.fr (t _ 18 (by decide)) (t _ 19 (by decide))⟩
  unfold MO at b ⊢
  rw [t _ 15 (by decide)]
  exact b
theorem MT.rd (h : MT w s L f n H hb Sl a o ors) (hs : TS s L) {i : Nat} (hi : i < L) : xaI w 20 (nI i) = some (nI (s i)) := by
  obtain ⟨hM, ⟨pa, p1, p2⟩, p3⟩ := h
  have := hs.1
  rw [xaI_ok p1 (by omega) (by omega), p2 i hi]
theorem m_isAt (h : MT w s L f n H hb Sl a o ors) (hs : TS s L) (ha : a ≤ 200) {lo hi : Nat} (hlo : 0 < lo) (hl2 : lo < 200) (hh : hi < 200) : fX4_isAt 15 (nI lo) (nI hi) w = some (if decide (lo ≤ s a) && decide (s a ≤ hi) then 1 else 0, w) := by
  have o1 := h.fo
  have hL := hs.1
  have h128 := s_lt hs a
  unfold fX4_isAt
  rw [if_pos o1.1, o1.2.2.2.1, o1.2.2.1]
  simp only [ob]
  by_cases hl : L ≤ a
  · rw [if_pos ((nI_leI (by omega) (by omega)).mpr hl), hs.2.2 a hl, decide_eq_false (by omega), Bool.false_and, if_neg Bool.false_ne_true]
  · rw [if_neg (nI_ge (by omega) (by omega)), o1.2.1]
    simp only [ob]
    rw [h.rd hs (by omega)]
    simp only [ob]
    rw [m_in]
    simp only [ob]
    by_cases h1 : lo ≤ s a
    · by_cases h2 : s a ≤ hi
      · have e : nI lo ≤ nI (s a) ∧ nI (s a) ≤ nI hi := ⟨(nI_leI (by omega) (by omega)).mpr h1, (nI_leI (by omega) (by omega)).mpr h2⟩
        rw [if_pos e, if_neg (by decide +kernel), decide_eq_true h1, decide_eq_true h2, Bool.true_and, if_pos rfl]
      · have e : ¬ (nI lo ≤ nI (s a) ∧ nI (s a) ≤ nI hi) := fun z => h2 ((nI_leI (by omega) (by omega)).mp z.2)
        rw [if_neg e, if_pos (by decide +kernel), decide_eq_true h1, decide_eq_false h2, Bool.true_and, if_neg Bool.false_ne_true]
    · have e : ¬ (nI lo ≤ nI (s a) ∧ nI (s a) ≤ nI hi) := fun z => h1 ((nI_leI (by omega) (by omega)).mp z.1)
      rw [if_neg e, if_pos (by decide +kernel), decide_eq_false h1, Bool.false_and, if_neg Bool.false_ne_true]
/-- a figure read: fitB 48 (up to 2) or fitB 57 (up to 9) -/
theorem m_figN (h : MT w s L f n H hb Sl a o ors) (hs : TS s L) (ha : a ≤ 200) {j hi : Nat} (hh : hi < 200) (hf : (decide (48 ≤ s a) && decide (s a ≤ hi)) = false) : fX4_isFigure 15 (nI j) (nI hi) w = some (0, w) := by
  unfold fX4_isFigure
  rw [if_pos h.fo.1, show (48 : Int32) = nI 48 by decide +kernel, m_isAt h hs ha (by omega) (by omega) hh, hf, if_neg Bool.false_ne_true]
  simp only [ob]
  rw [if_pos trivial]
theorem m_figY (h : MT w s L f n H hb Sl a o ors) (hs : TS s L) (ha : a ≤ 200) {j hi : Nat} (hh : hi < 200) (hj : 5 * o + j < 85) (hf : (decide (48 ≤ s a) && decide (s a ≤ hi)) = true) : ∃ w1, fX4_isFigure 15 (nI j) (nI hi) w = some (1, w1) ∧ MT w1 s L f n H hb Sl (a + 1) o (xct 85 (upd ors (5 * o + j) (nI (s a - 48)))) ∧ xFr [15, 21] w w1 := by
  have h48 : 48 ≤ s a := by
    rw [Bool.and_eq_true] at hf
    exact of_decide_eq_true hf.1
  have haL : a < L := by
    by_cases z : a < L
    · exact z
    · rw [hs.2.2 a (by omega)] at h48; omega
  have h128 := s_lt hs a
  have o1 := h.fo
  obtain ⟨w1, e1, e2, e3⟩ := h.or hj (nI (s a - 48))
  obtain ⟨w2, d1, d2, d3⟩ := e2.at (a + 1)
  have hsub : nI (s a) - nI 48 = nI (s a - 48) := by
    have : nI (s a) = nI (s a - 48) + nI 48 := by rw [nI_add]; congr 1; omega
    rw [this]
    exact Int32.add_sub_cancel _ _
  unfold fX4_isFigure
  rw [if_pos o1.1, show (48 : Int32) = nI 48 by decide +kernel, m_isAt h hs ha (by omega) (by omega) hh, hf, if_pos rfl]
  simp only [ob]
  rw [if_neg (by decide +kernel), o1.2.2.2.2.1, o1.2.2.2.2.2, o1.2.1, o1.2.2.2.1]
  simp only [ob]
  rw [h.rd hs haL]
  simp only [ob]
  rw [show (5 : Int32) = nI 5 by decide +kernel, pk_mul, nI_add, hsub, e1]
  simp only [ob]
  rw [e2.fo.2.2.2.1]
  simp only [ob]
  rw [nI_1, d1]
  simp only [ob]
  exact ⟨w2, rfl, d2, e3.tr d3⟩
theorem m_sgnY (h : MT w s L f n H hb Sl a o ors) (hs : TS s L) (ha : a ≤ 200) {c : Nat} (hc0 : 0 < c) (hc : c < 200) (hf : s a = c) : ∃ w1, fX4_isSign 15 (nI c) w = some (1, w1) ∧ MT w1 s L f n H hb Sl (a + 1) o ors ∧ xFr [15, 21] w w1 := by
  obtain ⟨w2, d1, d2, d3⟩ := h.at (a + 1)
  unfold fX4_isSign
  rw [if_pos h.fo.1, m_isAt h hs ha hc0 hc hc, hf, decide_eq_true (Nat.le_refl _), Bool.and_self, if_pos rfl]
  simp only [ob]
  rw [h.fo.2.2.2.1]
  simp only [ob]
  rw [if_neg (by decide +kernel), nI_1, d1]
  simp only [ob]
  rw [if_pos (by decide +kernel)]
  exact ⟨w2, rfl, d2, d3⟩
theorem m_sgnN (h : MT w s L f n H hb Sl a o ors) (hs : TS s L) (ha : a ≤ 200) {c : Nat} (hc0 : 0 < c) (hc : c < 200) (hf : ¬ s a = c) : ∃ w1, fX4_isSign 15 (nI c) w = some (0, w1) ∧ MT w1 s L f n H hb Sl a o ors ∧ xFr [15, 21] w w1 := by
  obtain ⟨w2, d1, d2, d3⟩ := h.at a
  have hb : (decide (c ≤ s a) && decide (s a ≤ c)) = false := by
    cases hz : (decide (c ≤ s a) && decide (s a ≤ c))
    · rfl
    · rw [Bool.and_eq_true] at hz
      have z1 := of_decide_eq_true hz.1
      have z2 := of_decide_eq_true hz.2
      omega
  unfold fX4_isSign
  rw [if_pos h.fo.1, m_isAt h hs ha hc0 hc hc, hb, if_neg Bool.false_ne_true]
  simp only [ob]
  rw [h.fo.2.2.2.1]
  simp only [ob]
  rw [if_pos trivial, xl0, nI_add, Nat.add_zero, d1]
  simp only [ob]
  rw [if_pos (by decide +kernel)]
  exact ⟨w2, rfl, d2, d3⟩
end TXM
