/-! THE CLASS: the numbers of an order -/
section TXD
variable {w : XW} {s : Nat → Nat} {L : Nat}
theorem c_digit (hs : TS s L) (hT : TC w s L) {i : Nat} (hi : i < 1000) (h1 : 48 ≤ s i) (h2 : s i ≤ 57) : fX1_digitAt 10 (nI i) w = some (nI (s i - 48), w) := by
  obtain ⟨sg, ⟨a, b⟩, h⟩ := id hT
  have hsub : nI (s i) - nI 48 = nI (s i - 48) := by
    have : nI (s i) = nI (s i - 48) + nI 48 := by rw [nI_add]; congr 1; omega
    rw [this]
    exact Int32.add_sub_cancel _ _
  unfold fX1_digitAt
  rw [if_pos (xis_ok a), c_sign hs hT hi]
  simp only [ob]
  rw [show (48 : Int32) = nI 48 by decide +kernel, show (57 : Int32) = nI 57 by decide +kernel, if_neg (nI_nlt h1 (by omega)), if_neg (nI_nlt h2 (by omega)), hsub]
theorem c_last (hs : TS s L) (hT : TC w s L) {i e : Nat} (hi : i < 900) (he : eO s i = e + 2) (h1 : 48 ≤ s (e + 1)) (h2 : s (e + 1) ≤ 57) (hE : e + 2 < 1000) : fX1_lastNumberOf 10 (nI i) w = some (if s e = 45 then -(nI (s (e + 1) - 48)) else nI (s (e + 1) - 48), w) := by
  obtain ⟨sg, ⟨a, b⟩, h⟩ := id hT
  have h128 := s_lt hs e
  unfold fX1_lastNumberOf
  rw [if_pos (xis_ok a), c_end hs hT hi, show i + 1 + (shp (sK s i)).length = e + 2 from he]
  simp only [ob]
  rw [show e + 2 = (e + 1) + 1 from rfl, k_sub1, c_digit hs hT (by omega) h1 h2]
  simp only [ob]
  rw [show e + 1 + 1 = e + 2 from rfl, show nI (e + 2) - 2 = nI e by rw [xl2, k_sub (by omega)]; rfl, c_sign hs hT (by omega)]
  simp only [ob]
  by_cases h45 : s e = 45
  · rw [if_pos (show nI (s e) = 45 by rw [h45]; decide +kernel), if_pos h45]
  · have hne : ¬ nI (s e) = 45 := by
      rw [show (45 : Int32) = nI 45 by decide +kernel]
      exact fun z => h45 ((nI_eq (by omega) (by omega)).mp z)
    rw [if_neg hne, if_neg h45]
end TXD
