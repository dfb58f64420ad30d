/-! BOTH SIDES TOGETHER: counts, the list of plans -/
def aCt (f : Nat → Int32) (n : Nat) (k : Int32) : Int32 := if k = 0 then (if vHo f then 1 else 0) else if k = 1 then vKi f else if k = 2 then (if vHo f && vRe f then 1 else 0) else if k = 3 then xbs (vH f 0) (vH f 1) (vH f 2) else if k = 4 then xbs (vAny f 0) (vAny f 1) (vAny f 2) else if k = 5 then nI (vCd f) else if k = 7 then nI n else -2
theorem k_b01 (b : Bool) : ((if b then (1 : Int32) else 0) = 0) = (b = false) := by
  cases b
  · exact propext ⟨fun _ => rfl, fun _ => by decide⟩
  · exact propext ⟨fun h => absurd h (by decide +kernel), fun h => absurd h (by decide)⟩
theorem k_bif (b : Bool) : (if b = false then (0 : Int32) else 1) = if b then 1 else 0 := by
  cases b
  · rw [if_pos rfl, if_neg Bool.false_ne_true]
  · rw [if_neg (by decide), if_pos rfl]
theorem JSn {c m : XW → Option (Int32 × XW)} (a : (Nat → Int32) → Nat → Int32) (hc : ∀ w f n H hb Sl, JC w f n H hb Sl → Gd f → ∃ w1, c w = some (a f n, w1) ∧ JC w1 f n H hb Sl ∧ xFr fC w w1) (hm : ∀ w f n H hb Sl pd at' od, JM w f n H hb Sl pd at' od → Gd f → ∃ q r, m w = some (a f n, mW w q r)) : JSt c m := by
  intro w pd at' od hJ
  obtain ⟨f, n, H, hb, Sl, hC, hM, hG⟩ := hJ
  obtain ⟨w1, e1, e2, e3⟩ := hc _ _ _ _ _ _ hC hG.1
  have hM1 := hM.fr (fC_fr e3)
  obtain ⟨q, r, e4⟩ := hm _ _ _ _ _ _ _ _ _ hM1 hG.1
  exact ⟨_, w1, _, e1, e4, JJ_rd e2 e3 hM1 hG q r⟩
section STK
variable {w : XW} {f : Nat → Int32} {n : Nat} {H : Nat → Nat → Int32} {hb : Nat → Bool} {Sl : Nat → Nat → Int32} {pd at' od : Int32}
theorem c_count (hC : JC w f n H hb Sl) (hg : Gd f) (k : Int32) (h6 : ¬ k = 6) : ∃ w1, fX3_count 0 k w = some (aCt f n k, w1) ∧ JC w1 f n H hb Sl ∧ xFr fC w w1 := by
  obtain ⟨p, g1, g2, g3⟩ := hC.2.2.1
  have hv := hg.2.1
  unfold fX3_count aCt
  rw [if_pos hC.o.1, hC.o.2.1, hC.o.2.2.2.2.2.2.2]
  simp only [ob]
  by_cases k0 : k = 0
  · rw [if_pos k0, if_pos k0, s_isHolding g1 hv]
    simp only [ob, k_b01]
    rw [k_if, k_bif]
    exact ⟨w, rfl, hC, xFr.rf⟩
  rw [if_neg k0, if_neg k0]
  by_cases k1 : k = 1
  · rw [if_pos k1, if_pos k1, s_kind g1]
    simp only [ob]
    exact ⟨w, rfl, hC, xFr.rf⟩
  rw [if_neg k1, if_neg k1]
  by_cases k2 : k = 2
  · rw [if_pos k2, if_pos k2, s_isHolding g1 hv]
    simp only [ob, k_b01]
    obtain ⟨q, e1, e2⟩ := s_untempted g1 (by decide) (by decide) hv hg.2.2.1 g2
    cases vHo f
    · rw [if_pos rfl]
      simp only [Bool.false_and]
      exact ⟨w, rfl, hC, xFr.rf⟩
    · rw [if_neg (by decide), hC.o.2.1]
      simp only [ob]
      rw [e1]
      simp only [ob, k_b01, Bool.true_and]
      rw [k_if, k_bif]
      exact ⟨_, rfl, hC.ps e2⟩
  rw [if_neg k2, if_neg k2]
  by_cases k3 : k = 3
  · rw [if_pos k3, if_pos k3, s_typesThere g1]
    simp only [ob]
    exact ⟨w, rfl, hC, xFr.rf⟩
  rw [if_neg k3, if_neg k3]
  by_cases k4 : k = 4
  · rw [if_pos k4, if_pos k4, s_messagesSent g1]
    simp only [ob]
    exact ⟨w, rfl, hC, xFr.rf⟩
  rw [if_neg k4, if_neg k4]
  by_cases k5 : k = 5
  · rw [if_pos k5, if_pos k5, s_code g1 hv]
    simp only [ob]
    exact ⟨w, rfl, hC, xFr.rf⟩
  rw [if_neg k5, if_neg k5, if_neg h6]
  by_cases k7 : k = 7
  · rw [if_pos k7, if_pos k7]
    exact ⟨w, rfl, hC, xFr.rf⟩
  rw [if_neg k7, if_neg k7]
  exact ⟨w, rfl, hC, xFr.rf⟩
theorem m_sent {N pl be : Nat → Int32} (h : xIsM w N pl be) : fX4_sentSet 15 w = some (xbs (vAny (mv N pl) 0) (vAny (mv N pl) 1) (vAny (mv N pl) 2), w) := by
  have step : ∀ (g m : Nat) (y : Int32), m < 3 → fX4_sentSet_4 (g + 1) 15 y (nI m) w = fX4_sentSet_4 g 15 (if vAny (mv N pl) m then y ||| ((1 : Int32) <<< (nI m &&& 31)) else y ||| 0) (nI (m + 1)) w := by
    intro g m y hm
    have e : (xbs (vS (mv N pl) m 0) (vS (mv N pl) m 1) (vS (mv N pl) m 2) = 0) = (vAny (mv N pl) m = false) := propext (xbs_0 _ _ _)
    rw [fX4_sentSet_4, if_neg (by rw [xl3]; exact nI_ge hm (by omega)), m_senders h m]
    simp only [ob, nI_1, e]
    cases vAny (mv N pl) m
    · rw [if_pos rfl, if_neg Bool.false_ne_true]
    · rw [if_neg (by decide), if_pos rfl]
  unfold fX4_sentSet
  rw [if_pos h.1, show fX4_sentSet_4 1000 15 0 0 w = fX4_sentSet_4 (999 + 1) 15 0 (nI 0) w by rw [← xl0], step 999 0 _ (by omega), step 998 1 _ (by omega), step 997 2 _ (by omega), fX4_sentSet_4, if_pos (by decide +kernel)]
  congr 2
  cases vAny (mv N pl) 0 <;> cases vAny (mv N pl) 1 <;> cases vAny (mv N pl) 2 <;> decide +kernel
theorem m_count (hM : JM w f n H hb Sl pd at' od) (hg : Gd f) (k : Int32) (h6 : ¬ k = 6) : ∃ q r, fX4_count 15 k w = some (aCt f n k, mW w q r) := by
  obtain ⟨N, be, l1, l2, l3, l4⟩ := m_lk hM hg
  obtain ⟨N0, pl0, be0, hi0, -⟩ := hM.is
  have hM2 := hM.pb (mS N) be
  unfold fX4_count
  rw [if_pos hM.o.1, m_in]
  simp only [ob]
  rcases kN k (M := 7) (N := 7) (by decide +kernel) with ⟨j, hj, rfl, hk⟩ | hk
  · rw [if_pos hk, if_neg (by decide +kernel), l1]
    simp only [ob]
    have hj6 : j ≠ 6 := fun z => h6 (by rw [z]; decide +kernel)
    have hc : j = 0 ∨ j = 1 ∨ j = 2 ∨ j = 3 ∨ j = 4 ∨ j = 5 ∨ j = 7 := by omega
    rcases hc with rfl | rfl | rfl | rfl | rfl | rfl | rfl
    · have ea : aCt f n (nI 0) = if vHo f then 1 else 0 := by
        unfold aCt
        rw [if_pos (by decide +kernel)]
      obtain ⟨b, e1⟩ := m_holds l2 l4
      rw [l3, mW_B] at e1
      rw [ea, if_neg (show ¬ (3 : Int32) ≤ nI 0 by decide +kernel), if_neg (show ¬ nI 0 = 1 by decide +kernel), if_pos (show nI 0 = 0 by decide +kernel), e1]
      simp only [ob, k_b01]
      rw [k_if, k_bif]
      exact ⟨_, _, rfl⟩
    · have ea : aCt f n (nI 1) = vKi f := by
        unfold aCt
        rw [if_neg (by decide +kernel), if_pos (by decide +kernel)]
      rw [ea, if_neg (show ¬ (3 : Int32) ≤ nI 1 by decide +kernel), if_pos (show nI 1 = 1 by decide +kernel), m_sort l2 l4, l3]
      simp only [ob]
      exact ⟨_, _, rfl⟩
    · have ea : aCt f n (nI 2) = if vHo f && vRe f then 1 else 0 := by
        unfold aCt
        rw [if_neg (by decide +kernel), if_neg (by decide +kernel), if_pos (by decide +kernel)]
      obtain ⟨b, e1⟩ := m_isRefined l2 l4
      rw [l3, mW_B] at e1
      rw [ea, if_neg (show ¬ (3 : Int32) ≤ nI 2 by decide +kernel), if_neg (show ¬ nI 2 = 1 by decide +kernel), if_neg (show ¬ nI 2 = 0 by decide +kernel), e1]
      simp only [ob, k_b01]
      rw [k_if, k_bif]
      exact ⟨_, _, rfl⟩
    · have ea : aCt f n (nI 3) = xbs (vH f 0) (vH f 1) (vH f 2) := by
        unfold aCt
        rw [if_neg (by decide +kernel), if_neg (by decide +kernel), if_neg (by decide +kernel), if_pos (by decide +kernel)]
      rw [ea, if_pos (show (3 : Int32) ≤ nI 3 by decide +kernel), if_neg (show ¬ (6 : Int32) ≤ nI 3 by decide +kernel), if_pos (show nI 3 = 3 by decide +kernel), m_there l2, l3]
      simp only [ob]
      exact ⟨_, _, rfl⟩
    · have ea : aCt f n (nI 4) = xbs (vAny f 0) (vAny f 1) (vAny f 2) := by
        unfold aCt
        rw [if_neg (by decide +kernel), if_neg (by decide +kernel), if_neg (by decide +kernel), if_neg (by decide +kernel), if_pos (by decide +kernel)]
      rw [ea, if_pos (show (3 : Int32) ≤ nI 4 by decide +kernel), if_neg (show ¬ (6 : Int32) ≤ nI 4 by decide +kernel), if_neg (show ¬ nI 4 = 3 by decide +kernel), if_pos (show nI 4 = 4 by decide +kernel), m_sent l2, l3]
      simp only [ob]
      exact ⟨_, _, rfl⟩
    · have ea : aCt f n (nI 5) = nI (vCd f) := by
        unfold aCt
        rw [if_neg (by decide +kernel), if_neg (by decide +kernel), if_neg (by decide +kernel), if_neg (by decide +kernel), if_neg (by decide +kernel), if_pos (by decide +kernel)]
      rw [ea, if_pos (show (3 : Int32) ≤ nI 5 by decide +kernel), if_neg (show ¬ (6 : Int32) ≤ nI 5 by decide +kernel), if_neg (show ¬ nI 5 = 3 by decide +kernel), if_neg (show ¬ nI 5 = 4 by decide +kernel), m_codeS hM2 hg]
      simp only [ob]
      exact ⟨_, _, rfl⟩
    · have ea : aCt f n (nI 7) = nI n := by
        unfold aCt
        rw [if_neg (by decide +kernel), if_neg (by decide +kernel), if_neg (by decide +kernel), if_neg (by decide +kernel), if_neg (by decide +kernel), if_neg (by decide +kernel), if_pos (by decide +kernel)]
      rw [ea, if_pos (show (3 : Int32) ≤ nI 7 by decide +kernel), if_pos (show (6 : Int32) ≤ nI 7 by decide +kernel), if_neg (show ¬ nI 7 = 6 by decide +kernel), hM2.o.2.1]
      simp only [ob]
      exact ⟨_, _, rfl⟩
  · refine ⟨pl0, be0, ?_⟩
    rw [if_neg hk, if_pos (by decide +kernel), mW_same hi0]
    unfold aCt
    rw [if_neg (k_ne hk (by decide +kernel)), if_neg (k_ne hk (by decide +kernel)), if_neg (k_ne hk (by decide +kernel)), if_neg (k_ne hk (by decide +kernel)), if_neg (k_ne hk (by decide +kernel)), if_neg (k_ne hk (by decide +kernel)), if_neg (k_ne hk (by decide +kernel))]
theorem JM.ms (hM : JM w f n H hb Sl pd at' od) : ∃ N pl be, xIsM w N pl be ∧ BE (mv N pl) f ∧ Cn 72 f := by
  obtain ⟨N, pl, be, hi, e⟩ := hM.is
  have e' : mv N (mS N) = f := e
  exact ⟨N, pl, be, hi, by rw [← e']; exact mv_be N pl (mS N), by rw [← e']; exact mv_cn _ _⟩
theorem c_plans (hC : JC w f n H hb Sl) (hg : Gd f) (k : Int32) : ∃ w1, fX3_plans 0 k w = some (if 0 ≤ k ∧ k ≤ 4 then nI (vNm f k.toNatClampNeg) else -2, w1) ∧ JC w1 f n H hb Sl ∧ xFr fC w w1 := by
  obtain ⟨p, g1, g2, g3⟩ := hC.2.2.1
  unfold fX3_plans
  rw [if_pos hC.o.1]
  rcases kN k (M := 4) (N := 4) (by decide +kernel) with ⟨j, hj, rfl, hk⟩ | hk
  · obtain ⟨w1, e1, e2, e3⟩ := s_numberOf g1 hg.1 hg.2.2.1 hC.2.2.2.1 (k := j) (by omega)
    rw [if_pos hk, show (5 : Int32) = nI 5 by decide +kernel, s_inN (by omega) (by omega)]
    simp only [ob]
    rw [if_neg (by decide +kernel), hC.o.2.1, hC.o.2.2.1]
    simp only [ob]
    rw [e1, nI_clamp (by omega)]
    simp only [ob]
    exact ⟨w1, rfl, hC.sv (e2.IS hg.1) e3, e3.wk (by decide)⟩
  · rw [if_neg hk, s_in]
    simp only [ob]
    refine ⟨w, ?_, hC, xFr.rf⟩
    by_cases h1 : k < 0
    · rw [if_pos h1, if_pos (by decide +kernel)]
    · rw [if_neg h1, if_pos (c := (5 : Int32) ≤ k) (by
        rw [Int32.le_iff_toInt_le]
        rw [Int32.le_iff_toInt_le, Int32.le_iff_toInt_le] at hk
        rw [Int32.lt_iff_toInt_lt] at h1
        rw [show (0 : Int32).toInt = 0 by decide +kernel] at hk h1
        rw [show (4 : Int32).toInt = 4 by decide +kernel] at hk
        rw [show (5 : Int32).toInt = 5 by decide +kernel]
        omega), if_pos (by decide +kernel)]
theorem m_plansS (hM : JM w f n H hb Sl pd at' od) (k : Int32) : ∃ q r, fX4_plans 15 k w = some (if 0 ≤ k ∧ k ≤ 4 then nI (vNm f k.toNatClampNeg) else -2, mW w q r) := by
  obtain ⟨N, pl, be, hi, hB, hcf⟩ := hM.ms
  unfold fX4_plans
  rw [if_pos hM.o.1, m_in]
  simp only [ob]
  rcases kN k (M := 4) (N := 4) (by decide +kernel) with ⟨j, hj, rfl, hk⟩ | hk
  · obtain ⟨q, r, e⟩ := m_counts hi (k := j) (by omega)
    rw [if_pos hk, if_pos hk, if_neg (by decide +kernel), e, nI_clamp (by omega), vNm_be (mv_cn _ _) hcf hB]
    simp only [ob]
    exact ⟨q, r, rfl⟩
  · rw [if_neg hk, if_neg hk, if_pos (by decide +kernel)]
    exact ⟨pl, be, by rw [mW_same hi]⟩
end STK
theorem j_count (k : Int32) (h6 : ¬ k = 6) : JSt (fX3_count 0 k) (fX4_count 15 k) :=
  JSn (fun f n => aCt f n k) (fun w f n H hb Sl hC hg => c_count hC hg k h6) (fun w f n H hb Sl pd at' od hM hg => m_count hM hg k h6)
theorem j_plans (k : Int32) : JSt (fX3_plans 0 k) (fX4_plans 15 k) :=
  JSo (fun f => if 0 ≤ k ∧ k ≤ 4 then nI (vNm f k.toNatClampNeg) else -2) (fun w f n H hb Sl hC hg => c_plans hC hg k) (fun w f n H hb Sl pd at' od hM hg => m_plansS hM k)
