/-! THE LAW'S LOOP over both sides -/
theorem jx_count (k : Int32) : JSx (fX3_count 0 k) (fX4_count 15 k) := by
  by_cases h : k = 6
  · rw [h]; exact j_count6
  · exact (j_count k h).x
theorem lp {c m : XW → Option (Int32 × XW)} {F : XW → Option (Int32 × XW)} {w : XW} (h : JSx c m) (hJ : JX w) (ih : ∀ w2, JX w2 → ∃ w9, F w2 = some ((1 : Int32), w9)) : ∃ w9, ((c w).bind fun q => (m q.2).bind fun q2 => if q.1 = q2.1 then F q2.2 else some ((0 : Int32), q2.2)) = some ((1 : Int32), w9) := by
  obtain ⟨r, w1, w2, e1, e2, e3⟩ := h w hJ
  obtain ⟨w9, e9⟩ := ih w2 e3
  refine ⟨w9, ?_⟩
  rw [e1]
  simp only [ob]
  rw [e2]
  simp only [ob]
  rw [if_pos trivial]
  exact e9
theorem sc_ok {n0 : Nat} {xs : Nat → Int32} {i k : Nat} (hi : i + k < n0) (hn : n0 ≤ 3072) : xsc n0 xs (nI i + nI k) = some (xs (i + k)) := by
  unfold xsc
  rw [nI_add, nI_clamp (by omega), if_neg]
  intro z
  rcases z with z | z
  · rw [xl0] at z
    exact nI_nlt (Nat.zero_le _) (by omega) z
  · omega
theorem lp_end {n0 i : Nat} (hn : n0 ≤ 3072) (hi : i ≤ 4000) : ((Int32.ofNat n0) - 6 < nI i) ↔ n0 < i + 6 := by
  rw [Int32.lt_iff_toInt_lt, nI_toInt (by omega), Int32.toInt_sub, show Int32.ofNat n0 = nI n0 from rfl, nI_toInt (by omega), show (6 : Int32).toInt = 6 by decide +kernel, Int.bmod_def]
  split <;> omega
theorem law_ok {n0 : Nat} {xs : Nat → Int32} (hn : n0 ≤ 3072) : ∀ (d g i : Nat) (w : XW), n0 < i + 6 * (d + 1) → d < g → i ≤ n0 + 6 → JX w → ∃ w9, fL_law_18 n0 xs g 0 15 (nI i) w = some ((1 : Int32), w9) := by
  intro d
  induction d with
  | zero =>
    intro g i w h1 h2 h3 hJ
    obtain ⟨g, rfl⟩ : ∃ x, g = x + 1 := ⟨g - 1, by omega⟩
    rw [fL_law_18, if_pos ((lp_end hn (by omega)).mpr (by omega))]
    exact ⟨w, rfl⟩
  | succ d ih =>
    intro g i w h1 h2 h3 hJ
    obtain ⟨g, rfl⟩ : ∃ x, g = x + 1 := ⟨g - 1, by omega⟩
    rw [fL_law_18]
    by_cases he : n0 < i + 6
    · rw [if_pos ((lp_end hn (by omega)).mpr he)]
      exact ⟨w, rfl⟩
    rw [if_neg (fun z => he ((lp_end hn (by omega)).mp z))]
    have x0 : xsc n0 xs (nI i) = some (xs i) := by
      have := sc_ok (xs := xs) (i := i) (k := 0) (by omega) hn
      rw [nI_add, Nat.add_zero] at this
      exact this
    have x1 : xsc n0 xs (nI i + 1) = some (xs (i + 1)) := by rw [xl1]; exact sc_ok (by omega) hn
    have x2 : xsc n0 xs (nI i + 2) = some (xs (i + 2)) := by rw [xl2]; exact sc_ok (by omega) hn
    have x3 : xsc n0 xs (nI i + 3) = some (xs (i + 3)) := by rw [xl3]; exact sc_ok (by omega) hn
    have x4 : xsc n0 xs (nI i + 4) = some (xs (i + 4)) := by rw [show (4 : Int32) = nI 4 by decide +kernel]; exact sc_ok (by omega) hn
    have x5 : xsc n0 xs (nI i + 5) = some (xs (i + 5)) := by rw [show (5 : Int32) = nI 5 by decide +kernel]; exact sc_ok (by omega) hn
    have e6 : nI i + 6 = nI (i + 6) := by rw [show (6 : Int32) = nI 6 by decide +kernel, nI_add]
    have iH : ∀ w2, JX w2 → ∃ w9, fL_law_18 n0 xs g 0 15 (nI i + 6) w2 = some ((1 : Int32), w9) := by
      intro w2 hJ2
      rw [e6]
      exact ih g (i + 6) w2 (by omega) (by omega) (by omega) hJ2
    rw [x0]
    simp only [ob]
    generalize xs i &&& 31 = v
    by_cases h0 : v = 0
    · rw [if_pos h0, x1, x2]
      simp only [ob]
      exact lp (F := fL_law_18 n0 xs g 0 15 (nI i + 6)) (j_weight (xs (i + 1)) (xs (i + 2))).x hJ iH
    rw [if_neg h0]
    by_cases h1 : v = 1
    · rw [if_pos h1, x1, x2, x3, x4, x5]
      simp only [ob]
      exact lp (F := fL_law_18 n0 xs g 0 15 (nI i + 6)) (j_pay (xs (i + 1)) (xs (i + 2)) (xs (i + 3)) (xs (i + 4)) (xs (i + 5))).x hJ iH
    rw [if_neg h1]
    by_cases h2 : v = 2
    · rw [if_pos h2, x1, x2, x3]
      simp only [ob]
      exact lp (F := fL_law_18 n0 xs g 0 15 (nI i + 6)) (j_believe (xs (i + 1)) (xs (i + 2)) (xs (i + 3))).x hJ iH
    rw [if_neg h2]
    by_cases h3 : v = 3
    · rw [if_pos h3, x1, x2]
      simp only [ob]
      exact lp (F := fL_law_18 n0 xs g 0 15 (nI i + 6)) (j_send (xs (i + 1)) (xs (i + 2))).x hJ iH
    rw [if_neg h3]
    by_cases h4 : v = 4
    · rw [if_pos h4, x1, x2]
      simp only [ob]
      exact lp (F := fL_law_18 n0 xs g 0 15 (nI i + 6)) (j_answer (xs (i + 1)) (xs (i + 2))).x hJ iH
    rw [if_neg h4]
    by_cases h5 : v = 5
    · rw [if_pos h5, x1]
      simp only [ob]
      exact lp (F := fL_law_18 n0 xs g 0 15 (nI i + 6)) (j_adopt (xs (i + 1))).x hJ iH
    rw [if_neg h5]
    by_cases h6 : v = 6
    · rw [if_pos h6, x1, x2, x3, x4]
      simp only [ob]
      exact lp (F := fL_law_18 n0 xs g 0 15 (nI i + 6)) (j_payoff (xs (i + 1)) (xs (i + 2)) (xs (i + 3)) (xs (i + 4))).x hJ iH
    rw [if_neg h6]
    by_cases h7 : v = 7
    · rw [if_pos h7, x1, x2]
      simp only [ob]
      exact lp (F := fL_law_18 n0 xs g 0 15 (nI i + 6)) (j_ofType (xs (i + 1)) (xs (i + 2))).x hJ iH
    rw [if_neg h7]
    by_cases h8 : v = 8
    · rw [if_pos h8, x1, x2]
      simp only [ob]
      exact lp (F := fL_law_18 n0 xs g 0 15 (nI i + 6)) (j_ofMessage (xs (i + 1)) (xs (i + 2))).x hJ iH
    rw [if_neg h8]
    by_cases h9 : v = 9
    · rw [if_pos h9, x1, x2, x3]
      simp only [ob]
      exact lp (F := fL_law_18 n0 xs g 0 15 (nI i + 6)) (j_belief (xs (i + 1)) (xs (i + 2)) (xs (i + 3))).x hJ iH
    rw [if_neg h9]
    by_cases h10 : v = 10
    · rw [if_pos h10, x1, x2, x3]
      simp only [ob]
      exact lp (F := fL_law_18 n0 xs g 0 15 (nI i + 6)) (j_mean (xs (i + 1)) (xs (i + 2)) (xs (i + 3))).x hJ iH
    rw [if_neg h10]
    by_cases h11 : v = 11
    · rw [if_pos h11, x1]
      simp only [ob]
      exact lp (F := fL_law_18 n0 xs g 0 15 (nI i + 6)) (j_why (xs (i + 1))).x hJ iH
    rw [if_neg h11]
    by_cases h12 : v = 12
    · rw [if_pos h12, x1]
      simp only [ob]
      exact lp (F := fL_law_18 n0 xs g 0 15 (nI i + 6)) (jx_count (xs (i + 1))) hJ iH
    rw [if_neg h12]
    by_cases h13 : v = 13
    · rw [if_pos h13, x1]
      simp only [ob]
      exact lp (F := fL_law_18 n0 xs g 0 15 (nI i + 6)) (j_plans (xs (i + 1))).x hJ iH
    rw [if_neg h13]
    by_cases h14 : v = 14
    · rw [if_pos h14, x1]
      simp only [ob]
      exact lp (F := fL_law_18 n0 xs g 0 15 (nI i + 6)) (j_planAt (xs (i + 1))).x hJ iH
    rw [if_neg h14]
    by_cases h15 : v = 15
    · rw [if_pos h15, x1]
      simp only [ob]
      exact lp (F := fL_law_18 n0 xs g 0 15 (nI i + 6)) (j_bestAnswer (xs (i + 1))).x hJ iH
    rw [if_neg h15]
    by_cases h16 : v = 16
    · rw [if_pos h16, x1]
      simp only [ob]
      exact lp (F := fL_law_18 n0 xs g 0 15 (nI i + 6)) (j_bestPlan (xs (i + 1))).x hJ iH
    rw [if_neg h16]
    by_cases h17 : v = 17
    · rw [if_pos h17, x1, x2]
      simp only [ob]
      exact lp (F := fL_law_18 n0 xs g 0 15 (nI i + 6)) (j_put _) hJ iH
    rw [if_neg h17]
    by_cases h18 : v = 18
    · rw [if_pos h18]
      exact lp (F := fL_law_18 n0 xs g 0 15 (nI i + 6)) (j_wipe) hJ iH
    rw [if_neg h18]
    by_cases h19 : v = 19
    · rw [if_pos h19]
      exact lp (F := fL_law_18 n0 xs g 0 15 (nI i + 6)) (j_fault) hJ iH
    rw [if_neg h19]
    by_cases h20 : v = 20
    · rw [if_pos h20]
      exact lp (F := fL_law_18 n0 xs g 0 15 (nI i + 6)) (j_carryOut) hJ iH
    rw [if_neg h20]
    by_cases h21 : v = 21
    · rw [if_pos h21]
      exact lp (F := fL_law_18 n0 xs g 0 15 (nI i + 6)) (j_undo).x hJ iH
    rw [if_neg h21]
    by_cases h22 : v = 22
    · rw [if_pos h22, x1]
      simp only [ob]
      exact lp (F := fL_law_18 n0 xs g 0 15 (nI i + 6)) (j_save (xs (i + 1))).x hJ iH
    rw [if_neg h22]
    by_cases h23 : v = 23
    · rw [if_pos h23, x1]
      simp only [ob]
      exact lp (F := fL_law_18 n0 xs g 0 15 (nI i + 6)) (j_restore (xs (i + 1))).x hJ iH
    rw [if_neg h23]
    exact iH w hJ
