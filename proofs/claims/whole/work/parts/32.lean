/-! BOTH SIDES TOGETHER: a plan by its place, the best plan, adopting one -/
theorem vBst_be {f g : Nat → Int32} (hf : Cn 72 f) (hg : Cn 72 g) (h : BE f g) : vBst f = vBst g := by
  have : vBs1 f = vBs1 g := by
    funext acc c
    unfold vBs1
    rw [vPc_be hf hg h c]
  unfold vBst
  rw [vLs_be hf hg h, this]
theorem vAt_lt {l : List Nat} {i : Nat} (h : i < l.length) (hi : i < 2 ^ 31) : vAt l (nI i) = nI l[i] := by
  unfold vAt
  rw [if_neg (by rw [xl0]; exact nI_nlt (by omega) (by omega)), nI_clamp hi, List.getElem?_eq_getElem h]
theorem k_pl (x : Int32) (L : Nat) (hL : L < 2 ^ 31) : (∃ i, i < L ∧ x = nI i) ∨ ((if x < 0 then (0 : Int32) else if nI L ≤ x then 0 else 1) = 0 ∧ ∀ i, i < L → x ≠ nI i) := by
  by_cases h : ∃ i, i < L ∧ x = nI i
  · exact Or.inl h
  · refine Or.inr ⟨?_, fun i hi z => h ⟨i, hi, z⟩⟩
    by_cases h1 : x < 0
    · rw [if_pos h1]
    · rw [if_neg h1]
      have hx := k_of h1
      have hn : x.toNatClampNeg < 2 ^ 31 := by
        have := x.toInt_lt
        show x.toInt.toNat < 2 ^ 31
        omega
      have hge : L ≤ x.toNatClampNeg := by
        by_cases z : L ≤ x.toNatClampNeg
        · exact z
        · exact absurd ⟨x.toNatClampNeg, by omega, hx⟩ h
      rw [hx, if_pos ((nI_leI hL hn).mpr hge)]
theorem vNm_0 (f : Nat → Int32) : vNm f 0 = (vLs f).length := by
  unfold vNm
  rw [if_pos rfl]
section STL
variable {w : XW} {f : Nat → Int32} {n : Nat} {H : Nat → Nat → Int32} {hb : Nat → Bool} {Sl : Nat → Nat → Int32} {pd at' od : Int32}
theorem c_planAt (hC : JC w f n H hb Sl) (hg : Gd f) (x : Int32) : ∃ w1, fX3_planAt 0 x w = some (vAt (vLs f) x, w1) ∧ JC w1 f n H hb Sl ∧ xFr fC w w1 := by
  obtain ⟨p, g1, g2, g3⟩ := hC.2.2.1
  obtain ⟨w1, e1, e2, e3⟩ := s_numberOf g1 hg.1 hg.2.2.1 hC.2.2.2.1 (k := 0) (by omega)
  have hC1 := hC.sv (e2.IS hg.1) e3
  have hlen := vLs_len f
  rw [← xl0, vNm_0] at e1
  unfold fX3_planAt
  rw [if_pos hC.o.1, hC.o.2.2.1, hC.o.2.1]
  simp only [ob]
  rw [e1]
  simp only [ob]
  rw [s_in]
  simp only [ob]
  obtain ⟨f1, p1, cd, nb, hS, hB, hV, hN, hc⟩ := e2
  have hlt : ∀ c, c ∈ vLs f → c < 729 := fun c h => List.mem_range.mp (List.mem_filter.mp h).1
  generalize vLs f = l at hlen hV hlt ⊢
  rcases k_pl x l.length (by omega) with ⟨i, hi, rfl⟩ | ⟨h0, hx⟩
  · rw [if_neg (show ¬ nI i < 0 by rw [xl0]; exact nI_nlt (by omega) (by omega)), if_neg (nI_ge hi (by omega)), if_neg (by decide +kernel), hC1.o.2.2.1]
    simp only [ob]
    rw [s_codeAt hS (by omega), hV.2 i hi, vAt_lt hi (by omega)]
    simp only [ob]
    exact ⟨w1, rfl, hC1, e3.wk (by decide)⟩
  · rw [h0, if_pos (by decide +kernel), vAt_hi hx]
    exact ⟨w1, rfl, hC1, e3.wk (by decide)⟩
theorem m_planAt (hM : JM w f n H hb Sl pd at' od) (x : Int32) : ∃ q r, fX4_planAt 15 x w = some (vAt (vLs f) x, mW w q r) := by
  obtain ⟨N, pl, be, hi, hB, hcf⟩ := hM.ms
  obtain ⟨q, r, e⟩ := m_codeAt hi x
  have e2 : vUp (mv N pl) 729 = vLs f := vLs_be (mv_cn _ _) hcf hB
  rw [e2] at e
  unfold fX4_planAt
  rw [if_pos hM.o.1, e]
  simp only [ob]
  exact ⟨q, r, rfl⟩
theorem c_best12 (hC : JC w f n H hb Sl) (hg : Gd f) (x : Int32) : ∃ w1, fX3_bestPlan_12 0 x w = some (vBq f x, w1) ∧ JC w1 f n H hb Sl ∧ xFr fC w w1 := by
  obtain ⟨p, g1, g2, g3⟩ := hC.2.2.1
  obtain ⟨w1, r, e1, e2, e3, e4⟩ := s_bestPlace g1 hg.1 hC.2.2.2.1
  have hC1 := hC.sv (e2.IS hg.1) e3
  have fr1 : xFr fC w w1 := e3.wk (by decide)
  unfold fX3_bestPlan_12 vBq
  rw [hC.o.2.2.1, hC.o.2.1]
  simp only [ob]
  rw [e1]
  simp only [ob]
  rcases e4 with ⟨h1, h2⟩ | ⟨j, b, y, h1, h2, h3⟩
  · rw [h1, h2, if_pos rfl]
    exact ⟨w1, rfl, hC1, fr1⟩
  · obtain ⟨hjl, hjb⟩ := List.getElem?_eq_some_iff.mp h3
    have hlen := vLs_len f
    have hy : y = vRs (vPc f b) := vBst_sum f (vLs f) none (by intro b y h; cases h) b y h1
    have hlt : b < 729 := by
      have : b ∈ vLs f := by rw [← hjb]; exact List.getElem_mem hjl
      exact List.mem_range.mp (List.mem_filter.mp this).1
    obtain ⟨f1, p1, cd, nb, hS, hB, hV, hN, hc⟩ := e2
    have hcd : cd j = nI b := by rw [hV.2 j hjl, hjb]
    rw [h1, h2, if_neg (nI_m6 (by omega)), hC1.o.2.2.1]
    simp only [ob]
    rw [s_codeAt hS (by omega), hcd]
    simp only [ob]
    obtain ⟨q1, q2⟩ := s_recAt hg.1 hS hB (i := j) (by omega) hcd hlt
    rw [q1]
    simp only [ob]
    by_cases hx : x = 0
    · rw [if_pos hx]
      show ∃ w_1, some (nI b, w1) = some (if x = 0 then nI b else y + 1000, w_1) ∧ _
      rw [if_pos hx]
      exact ⟨w1, rfl, hC1, fr1⟩
    · rw [if_neg hx]
      show ∃ w_1, some (vRs (vPc f b) + 1000, w1.set 6 (.inl (0, 72, vPc f b))) = some (if x = 0 then nI b else y + 1000, w_1) ∧ _
      rw [if_neg hx, hy]
      have hfr : xFr [4, 6, 7, 8, 9] w1 (w1.set 6 (.inl (0, 72, vPc f b))) := xFr.st _ (by decide)
      have hI1 : IM (w1.set 6 (.inl (0, 72, vPc f b))) f := ⟨vPc f b, p1, cd, nb, q2, vPc_b f b, hV, hN, (hB.tr (vPc_b f b).sy).Vc hc⟩
      exact ⟨_, rfl, hC1.sv (hI1.IS hg.1) hfr, fr1.tr (hfr.wk (by decide))⟩
theorem c_bestPl (hC : JC w f n H hb Sl) (hg : Gd f) (x : Int32) : ∃ w1, fX3_bestPlan 0 x w = some (if 0 ≤ x ∧ x ≤ 1 then vBq f x else -2, w1) ∧ JC w1 f n H hb Sl ∧ xFr fC w w1 := by
  obtain ⟨w1, e1, e2, e3⟩ := c_best12 hC hg x
  unfold fX3_bestPlan
  rw [if_pos hC.o.1]
  rcases k01 x with ⟨c, hc, rfl, hs⟩ | hs
  · rw [if_pos hs]
    have : c = 0 ∨ c = 1 := by omega
    rcases this with rfl | rfl
    · rw [if_pos (show nI 0 = 0 by decide +kernel)]
      exact ⟨w1, e1, e2, e3⟩
    · rw [if_neg (show ¬ nI 1 = 0 by decide +kernel), if_pos (show nI 1 = 1 by decide +kernel)]
      exact ⟨w1, e1, e2, e3⟩
  · rw [if_neg hs, if_neg (k_ne hs (by decide +kernel)), if_neg (k_ne hs (by decide +kernel))]
    exact ⟨w, rfl, hC, xFr.rf⟩
theorem m_bestPl (hM : JM w f n H hb Sl pd at' od) (x : Int32) : ∃ q r, fX4_bestPlan 15 x w = some (if 0 ≤ x ∧ x ≤ 1 then vBq f x else -2, mW w q r) := by
  obtain ⟨N, pl, be, hi, hB, hcf⟩ := hM.ms
  obtain ⟨q, r, e⟩ := m_bestPlan hi x
  have e2 : vBq (mv N pl) x = vBq f x := by
    unfold vBq
    rw [vBst_be (mv_cn _ _) hcf hB]
  rw [e2] at e
  exact ⟨q, r, e⟩
end STL
theorem j_planAt (x : Int32) : JSt (fX3_planAt 0 x) (fX4_planAt 15 x) :=
  JSo (fun f => vAt (vLs f) x) (fun w f n H hb Sl hC hg => c_planAt hC hg x) (fun w f n H hb Sl pd at' od hM hg => m_planAt hM x)
theorem j_bestPlan (x : Int32) : JSt (fX3_bestPlan 0 x) (fX4_bestPlan 15 x) :=
  JSo (fun f => if 0 ≤ x ∧ x ≤ 1 then vBq f x else -2) (fun w f n H hb Sl hC hg => c_bestPl hC hg x) (fun w f n H hb Sl pd at' od hM hg => m_bestPl hM x)
