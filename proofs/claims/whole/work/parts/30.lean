/-! BOTH SIDES TOGETHER: of a message, why, counts, best answer -/
def aMs (f : Nat → Int32) (m : Nat) (k : Int32) : Int32 := if k = 0 then (if vAny f m then 1 else 0) else if k = 1 then nI (vA f m) else if k = 2 then vBA f m else if k = 3 then xbs (vS f m 0) (vS f m 1) (vS f m 2) else if k = 4 then xbs (vNv f m 0) (vNv f m 1) (vNv f m 2) else if k = 5 then vPo f m (vH f 0) (vH f 1) (vH f 2) else -2
def aWh (f : Nat → Int32) (k : Int32) : Int32 := if k = 0 then (if vLo f = -6 then (if vWr f = -6 then 0 else 2) else 1) else if k = 1 then (if vLo f = -6 then vWr f else vLo f) else -2
def aBa (f : Nat → Int32) (m : Nat) : Int32 := if vIb (vWo f m 0 (vB f m 0) (vB f m 1) (vB f m 2)) (vWo f m 1 (vB f m 0) (vB f m 1) (vB f m 2)) (vWo f m 2 (vB f m 0) (vB f m 1) (vB f m 2)) 0 then 0 else if vIb (vWo f m 0 (vB f m 0) (vB f m 1) (vB f m 2)) (vWo f m 1 (vB f m 0) (vB f m 1) (vB f m 2)) (vWo f m 2 (vB f m 0) (vB f m 1) (vB f m 2)) 1 then 1 else if vIb (vWo f m 0 (vB f m 0) (vB f m 1) (vB f m 2)) (vWo f m 1 (vB f m 0) (vB f m 1) (vB f m 2)) (vWo f m 2 (vB f m 0) (vB f m 1) (vB f m 2)) 2 then 2 else -6
theorem k_any (b0 b1 b2 : Bool) : (if xbs b0 b1 b2 = 0 then (0 : Int32) else 1) = if (b0 || b1 || b2) then 1 else 0 := by
  by_cases h : xbs b0 b1 b2 = 0
  · rw [if_pos h, (xbs_0 _ _ _).mp h, if_neg Bool.false_ne_true]
  · have : (b0 || b1 || b2) = true := by
      cases hz : (b0 || b1 || b2)
      · exact absurd ((xbs_0 _ _ _).mpr hz) h
      · rfl
    rw [if_neg h, this, if_pos rfl]
theorem k_if {α : Type} (c : Prop) [Decidable c] (x y : Int32) (w : α) : (if c then some (x, w) else some (y, w)) = some (if c then x else y, w) := by
  by_cases h : c
  · rw [if_pos h, if_pos h]
  · rw [if_neg h, if_neg h]
section STJ
variable {w : XW} {f : Nat → Int32} {n : Nat} {H : Nat → Nat → Int32} {hb : Nat → Bool} {Sl : Nat → Nat → Int32} {pd at' od : Int32}
theorem c_ofMs (hC : JC w f n H hb Sl) (hg : Gd f) (t k : Int32) : ∃ w1, fX3_ofMessage 0 t k w = some (if 0 ≤ t ∧ t ≤ 2 then aMs f t.toNatClampNeg k else -1, w1) ∧ JC w1 f n H hb Sl ∧ xFr fC w w1 := by
  obtain ⟨p, g1, g2, g3⟩ := hC.2.2.1
  have hv := hg.2.1
  unfold fX3_ofMessage aMs
  rw [if_pos hC.o.1, c_in3]
  simp only [ob]
  rcases k3 t with ⟨i, hi, rfl, ht⟩ | ht
  · rw [if_pos ht, if_pos ht, if_neg (by decide +kernel), hC.o.2.1, nI_clamp (by omega)]
    simp only [ob]
    by_cases k0 : k = 0
    · rw [if_pos k0, if_pos k0, s_sendersOf g1]
      simp only [ob]
      rw [k_if, k_any]
      exact ⟨w, rfl, hC, xFr.rf⟩
    rw [if_neg k0, if_neg k0]
    by_cases k1 : k = 1
    · rw [if_pos k1, if_pos k1, s_answerPlace]
      simp only [ob]
      rw [s_ans g1 hv hi]
      simp only [ob]
      exact ⟨w, rfl, hC, xFr.rf⟩
    rw [if_neg k1, if_neg k1]
    by_cases k2 : k = 2
    · rw [if_pos k2, if_pos k2, s_bestActions g1 hi]
      simp only [ob]
      exact ⟨w, rfl, hC, xFr.rf⟩
    rw [if_neg k2, if_neg k2]
    by_cases k3 : k = 3
    · rw [if_pos k3, if_pos k3, s_sendersOf g1]
      simp only [ob]
      exact ⟨w, rfl, hC, xFr.rf⟩
    rw [if_neg k3, if_neg k3]
    by_cases k4 : k = 4
    · obtain ⟨q, e1, e2⟩ := s_never g1 (by decide) (by decide) hv hg.2.2.1 g2 hi
      rw [if_pos k4, if_pos k4, e1]
      simp only [ob]
      exact ⟨_, rfl, hC.ps e2⟩
    rw [if_neg k4, if_neg k4]
    by_cases k5 : k = 5
    · obtain ⟨q, e1, e2⟩ := s_possible g1 g2 hi (vH f 0) (vH f 1) (vH f 2)
      rw [if_pos k5, if_pos k5, s_typesThere g1]
      simp only [ob]
      rw [e1]
      simp only [ob]
      exact ⟨_, rfl, hC.ps e2⟩
    rw [if_neg k5, if_neg k5]
    exact ⟨w, rfl, hC, xFr.rf⟩
  · rw [if_neg ht, if_neg ht, if_pos (by decide +kernel)]
    exact ⟨w, rfl, hC, xFr.rf⟩
theorem m_ofMs (hM : JM w f n H hb Sl pd at' od) (hg : Gd f) (t k : Int32) : ∃ q r, fX4_ofMessage 15 t k w = some (if 0 ≤ t ∧ t ≤ 2 then aMs f t.toNatClampNeg k else -1, mW w q r) := by
  obtain ⟨N, be, l1, l2, l3, l4⟩ := m_lk hM hg
  obtain ⟨N0, pl0, be0, hi0, -⟩ := hM.is
  unfold fX4_ofMessage
  rw [if_pos hM.o.1, m_one]
  simp only [ob]
  rcases k3 t with ⟨i, hi, rfl, ht⟩ | ht
  · rw [if_pos ht, if_pos ht, if_neg (by decide +kernel), m_in, nI_clamp (by omega)]
    simp only [ob]
    rcases kN k (M := 5) (N := 5) (by decide +kernel) with ⟨j, hj, rfl, hk⟩ | hk
    · rw [if_pos hk, if_neg (by decide +kernel), l1]
      simp only [ob]
      have hc : j = 0 ∨ j = 1 ∨ j = 2 ∨ j = 3 ∨ j = 4 ∨ j = 5 := by omega
      rcases hc with rfl | rfl | rfl | rfl | rfl | rfl
      · have ea : aMs f i (nI 0) = if vAny f i then 1 else 0 := by
          unfold aMs
          rw [if_pos (by decide +kernel)]
        rw [ea, if_neg (by decide +kernel), if_pos (by decide +kernel), m_senders l2, l3]
        simp only [ob]
        rw [k_if, k_any]
        exact ⟨_, _, rfl⟩
      · have ea : aMs f i (nI 1) = nI (vA f i) := by
          unfold aMs
          rw [if_neg (by decide +kernel), if_pos (by decide +kernel)]
        rw [ea, if_neg (by decide +kernel), if_neg (by decide +kernel), if_pos (by decide +kernel), l2.2.2.1]
        simp only [ob]
        rw [m_ans l2 l4 hi, l3]
        simp only [ob]
        exact ⟨_, _, rfl⟩
      · have ea : aMs f i (nI 2) = vBA f i := by
          unfold aMs
          rw [if_neg (by decide +kernel), if_neg (by decide +kernel), if_pos (by decide +kernel)]
        rw [ea, if_neg (by decide +kernel), if_neg (by decide +kernel), if_neg (by decide +kernel), m_best l2 hi, l3, mW_B]
        simp only [ob]
        exact ⟨_, _, rfl⟩
      · have ea : aMs f i (nI 3) = xbs (vS f i 0) (vS f i 1) (vS f i 2) := by
          unfold aMs
          rw [if_neg (by decide +kernel), if_neg (by decide +kernel), if_neg (by decide +kernel), if_pos (by decide +kernel)]
        rw [ea, if_pos (by decide +kernel), if_pos (by decide +kernel), m_senders l2, l3]
        simp only [ob]
        exact ⟨_, _, rfl⟩
      · have ea : aMs f i (nI 4) = xbs (vNv f i 0) (vNv f i 1) (vNv f i 2) := by
          unfold aMs
          rw [if_neg (by decide +kernel), if_neg (by decide +kernel), if_neg (by decide +kernel), if_neg (by decide +kernel), if_pos (by decide +kernel)]
        obtain ⟨b, e1⟩ := m_never l2 l4 hi
        rw [l3, mW_B] at e1
        rw [ea, if_pos (by decide +kernel), if_neg (by decide +kernel), if_pos (by decide +kernel), e1]
        simp only [ob]
        exact ⟨_, _, rfl⟩
      · have ea : aMs f i (nI 5) = vPo f i (vH f 0) (vH f 1) (vH f 2) := by
          unfold aMs
          rw [if_neg (by decide +kernel), if_neg (by decide +kernel), if_neg (by decide +kernel), if_neg (by decide +kernel), if_neg (by decide +kernel), if_pos (by decide +kernel)]
        obtain ⟨b, e1⟩ := m_possible l2 hi (vH f 0) (vH f 1) (vH f 2)
        rw [l3, mW_B] at e1
        rw [ea, if_pos (by decide +kernel), if_neg (by decide +kernel), if_neg (by decide +kernel), m_there l2, l3]
        simp only [ob]
        rw [e1]
        simp only [ob]
        exact ⟨_, _, rfl⟩
    · refine ⟨pl0, be0, ?_⟩
      rw [if_neg hk, if_pos (by decide +kernel), mW_same hi0]
      unfold aMs
      rw [if_neg (k_ne hk (by decide +kernel)), if_neg (k_ne hk (by decide +kernel)), if_neg (k_ne hk (by decide +kernel)), if_neg (k_ne hk (by decide +kernel)), if_neg (k_ne hk (by decide +kernel)), if_neg (k_ne hk (by decide +kernel))]
  · refine ⟨pl0, be0, ?_⟩
    rw [if_neg ht, if_neg ht, if_pos (by decide +kernel), mW_same hi0]
theorem c_bestA (hC : JC w f n H hb Sl) (t : Int32) : fX3_bestAnswer 0 t w = some (if 0 ≤ t ∧ t ≤ 2 then aBa f t.toNatClampNeg else -1, w) := by
  obtain ⟨p, g1, g2, g3⟩ := hC.2.2.1
  unfold fX3_bestAnswer
  rw [if_pos hC.o.1, c_in3]
  simp only [ob]
  rcases k3 t with ⟨i, hi, rfl, ht⟩ | ht
  · rw [if_pos ht, if_pos ht, if_neg (by decide +kernel), hC.o.2.1, nI_clamp (by omega)]
    simp only [ob]
    rw [s_bestActions g1 hi]
    simp only [ob]
    unfold vBA vBest vB3
    rw [c_low]
    simp only [ob]
    rfl
  · rw [if_neg ht, if_neg ht, if_pos (by decide +kernel)]
theorem m_bestA (hM : JM w f n H hb Sl pd at' od) (hg : Gd f) (t : Int32) : ∃ q r, fX4_bestAnswer 15 t w = some (if 0 ≤ t ∧ t ≤ 2 then aBa f t.toNatClampNeg else -1, mW w q r) := by
  obtain ⟨N, be, l1, l2, l3, l4⟩ := m_lk hM hg
  obtain ⟨N0, pl0, be0, hi0, -⟩ := hM.is
  unfold fX4_bestAnswer
  rw [if_pos hM.o.1, m_one]
  simp only [ob]
  rcases k3 t with ⟨i, hi, rfl, ht⟩ | ht
  · rw [if_pos ht, if_pos ht, if_neg (by decide +kernel), nI_clamp (by omega), l1]
    simp only [ob]
    rw [m_best l2 hi, l3, mW_B]
    simp only [ob]
    have hk := k_low _ _ _ (vIb_any (vWo f i 0 (vB f i 0) (vB f i 1) (vB f i 2)) (vWo f i 1 (vB f i 0) (vB f i 1) (vB f i 2)) (vWo f i 2 (vB f i 0) (vB f i 1) (vB f i 2)))
    unfold vBA vBest vB3 aBa
    rw [← hk, k_if, k_if]
    exact ⟨_, _, rfl⟩
  · refine ⟨pl0, be0, ?_⟩
    rw [if_neg ht, if_neg ht, if_pos (by decide +kernel), mW_same hi0]
theorem c_why (hC : JC w f n H hb Sl) (hg : Gd f) (k : Int32) : fX3_why 0 k w = some (aWh f k, w) := by
  obtain ⟨p, g1, g2, g3⟩ := hC.2.2.1
  have hv := hg.2.1
  have e : fX3_why_12 0 k w = some (if k = 0 then (if vLo f = -6 then (if vWr f = -6 then 0 else 2) else 1) else (if vLo f = -6 then vWr f else vLo f), w) := by
    unfold fX3_why_12
    rw [hC.o.2.1]
    simp only [ob]
    rw [s_better g1 hv]
    simp only [ob]
    rw [hC.o.2.1]
    simp only [ob]
    rw [s_wrong1 g1 hv]
    simp only [ob]
    by_cases k0 : k = 0 <;> by_cases h1 : vLo f = -6 <;> by_cases h2 : vWr f = -6 <;> simp only [k0, h1, h2, if_true, if_false]
  unfold fX3_why aWh
  rw [if_pos hC.o.1, e]
  by_cases k0 : k = 0
  · rw [if_pos k0, if_pos k0, if_pos k0]
  · rw [if_neg k0, if_neg k0, if_neg k0]
    by_cases k1 : k = 1
    · rw [if_pos k1, if_pos k1]
    · rw [if_neg k1, if_neg k1]
theorem m_why (hM : JM w f n H hb Sl pd at' od) (hg : Gd f) (k : Int32) : ∃ q r, fX4_why 15 k w = some (aWh f k, mW w q r) := by
  obtain ⟨N, be, l1, l2, l3, l4⟩ := m_lk hM hg
  obtain ⟨N0, pl0, be0, hi0, -⟩ := hM.is
  unfold fX4_why
  rw [if_pos hM.o.1, m_in]
  simp only [ob]
  rcases k01 k with ⟨j, hj, rfl, hk⟩ | hk
  · obtain ⟨b, e1⟩ := m_wrong l2 l4
    rw [l3, mW_B] at e1
    rw [if_pos hk, if_neg (by decide +kernel), l1]
    simp only [ob]
    rw [m_unhappy l2 l4, l3]
    simp only [ob]
    rw [e1]
    simp only [ob]
    refine ⟨mS N, b, ?_⟩
    unfold aWh
    have : j = 0 ∨ j = 1 := by omega
    rcases this with rfl | rfl
    · rw [if_pos (show nI 0 = 0 by decide +kernel), if_pos (show nI 0 = 0 by decide +kernel), k_if, k_if]
    · rw [if_neg (show ¬ nI 1 = 0 by decide +kernel), if_neg (show ¬ nI 1 = 0 by decide +kernel), if_pos (show nI 1 = 1 by decide +kernel), k_if]
  · refine ⟨pl0, be0, ?_⟩
    rw [if_neg hk, if_pos (by decide +kernel), mW_same hi0]
    unfold aWh
    rw [if_neg (k_ne hk (by decide +kernel)), if_neg (k_ne hk (by decide +kernel))]
end STJ
theorem j_ofMessage (t k : Int32) : JSt (fX3_ofMessage 0 t k) (fX4_ofMessage 15 t k) :=
  JSo (fun f => if 0 ≤ t ∧ t ≤ 2 then aMs f t.toNatClampNeg k else -1) (fun w f n H hb Sl hC hg => c_ofMs hC hg t k) (fun w f n H hb Sl pd at' od hM hg => m_ofMs hM hg t k)
theorem j_bestAnswer (t : Int32) : JSt (fX3_bestAnswer 0 t) (fX4_bestAnswer 15 t) :=
  JSo (fun f => if 0 ≤ t ∧ t ≤ 2 then aBa f t.toNatClampNeg else -1) (fun w f n H hb Sl hC hg => ⟨w, c_bestA hC t, hC, xFr.rf⟩) (fun w f n H hb Sl pd at' od hM hg => m_bestA hM hg t)
theorem j_why (k : Int32) : JSt (fX3_why 0 k) (fX4_why 15 k) :=
  JSo (fun f => aWh f k) (fun w f n H hb Sl hC hg => ⟨w, c_why hC hg k, hC, xFr.rf⟩) (fun w f n H hb Sl pd at' od hM hg => m_why hM hg k)
