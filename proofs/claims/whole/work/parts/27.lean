/-! BOTH SIDES TOGETHER: the orders that change the game -/
def GG (f : Nat → Int32) (n : Nat) (H : Nat → Nat → Int32) (hb : Nat → Bool) (Sl : Nat → Nat → Int32) : Prop := Gd f ∧ (∀ i, i < n → Gd (H i)) ∧ ∀ i, i < 2 → hb i = true → Gd (Sl i)
def JJ (w : XW) (pd at' od : Int32) : Prop := ∃ f n H hb Sl, JC w f n H hb Sl ∧ JM w f n H hb Sl pd at' od ∧ GG f n H hb Sl
/-- a step of the class and the same step of the reference answer alike and keep both states alike -/
def JSt (c m : XW → Option (Int32 × XW)) : Prop := ∀ w pd at' od, JJ w pd at' od → ∃ r w1 w2, c w = some (r, w1) ∧ m w1 = some (r, w2) ∧ JJ w2 pd at' od ∧ xFr (fC ++ fM) w w2
theorem fC_fr {w w1 : XW} (h : xFr fC w w1) : ∀ k, 15 ≤ k → w1[k]? = w[k]? := fun k hk => h.2 k (by unfold fC; simp; omega)
theorem fM_fr {w w1 : XW} (h : xFr fM w w1) : ∀ k, k < 15 → w1[k]? = w[k]? := fun k hk => h.2 k (by unfold fM; simp; omega)
theorem JJ_of {w w1 w2 : XW} {f : Nat → Int32} {n : Nat} {H : Nat → Nat → Int32} {hb : Nat → Bool} {Sl : Nat → Nat → Int32} {pd at' od : Int32} (hC : JC w1 f n H hb Sl) (r1 : xFr fC w w1) (hM : JM w2 f n H hb Sl pd at' od) (r2 : xFr fM w1 w2) (hG : GG f n H hb Sl) : JJ w2 pd at' od ∧ xFr (fC ++ fM) w w2 :=
  ⟨⟨f, n, H, hb, Sl, hC.fr (fun k hk _ _ => fM_fr r2 k hk), hM, hG⟩, (r1.wk (fun k h => List.mem_append_left _ h)).tr (r2.wk (fun k h => List.mem_append_right _ h))⟩
theorem JJ_same {w : XW} {pd at' od : Int32} (h : JJ w pd at' od) : JJ w pd at' od ∧ xFr (fC ++ fM) w w := ⟨h, xFr.rf⟩
theorem GG_rec {f : Nat → Int32} {n : Nat} {H : Nat → Nat → Int32} {hb : Nat → Bool} {Sl : Nat → Nat → Int32} (h : GG f n H hb Sl) (hn : n ≤ 6) {f' : Nat → Int32} (hf : Gd f') : GG f' (hN n) (hP n H f) hb Sl := by
  refine ⟨hf, ?_, h.2.2⟩
  intro i hi
  unfold hN at hi
  unfold hP
  by_cases h6 : n < 6
  · rw [if_pos h6] at hi ⊢
    by_cases e : i = n
    · rw [if_pos e]; exact h.1
    · rw [if_neg e]; exact h.2.1 i (by omega)
  · rw [if_neg h6] at hi ⊢
    by_cases e : i = 5
    · rw [if_pos e]; exact h.1
    · rw [if_neg e]; exact h.2.1 (i + 1) (by omega)
section STE
variable {w : XW} {f : Nat → Int32} {n : Nat} {H : Nat → Nat → Int32} {hb : Nat → Bool} {Sl : Nat → Nat → Int32} {pd at' od : Int32}
theorem JC.o (h : JC w f n H hb Sl) : xis w 0 3 = true ∧ xgR w 0 3 0 = some 1 ∧ xgR w 0 3 1 = some 4 ∧ xgR w 0 3 2 = some 10 ∧ xgR w 0 3 3 = some 12 ∧ xgR w 0 3 4 = some 13 ∧ xgR w 0 3 5 = some 14 ∧ xgI w 0 3 6 = some (nI n) := by
  have h0 := h.2.1
  unfold CO at h0
  exact ⟨xis_ok h0, xgR_ok h0 rfl, xgR_ok h0 rfl, xgR_ok h0 rfl, xgR_ok h0 rfl, xgR_ok h0 rfl, xgR_ok h0 rfl, xgI_ok h0 rfl⟩
theorem JM.o (h : JM w f n H hb Sl pd at' od) : xis w 15 4 = true ∧ xgI w 15 4 2 = some (nI n) ∧ xgR w 15 4 0 = some 16 ∧ xgR w 15 4 1 = some 17 ∧ xgR w 15 4 3 = some 18 ∧ xgR w 15 4 4 = some 19 ∧ xgI w 15 4 6 = some pd := by
  have h0 := h.2.1
  unfold MO at h0
  exact ⟨xis_ok h0, xgI_ok h0 rfl, xgR_ok h0 rfl, xgR_ok h0 rfl, xgR_ok h0 rfl, xgR_ok h0 rfl, xgI_ok h0 rfl⟩
/-- recorded and then one cell changed, on both sides -/
theorem j_rc (hC : JC w f n H hb Sl) (hM : JM w f n H hb Sl pd at' od) (hG : GG f n H hb Sl) {k : Nat} (hk : k < 72) (x : Int32) (hx : Gd (chg f k x)) : ∃ u w1 v w2, fX3_record 0 w = some u ∧ xgR u 0 3 0 = some 1 ∧ fX0_change 1 (nI k) x u = some (f k, w1) ∧ JM w1 f n H hb Sl pd at' od ∧ fX4_records 15 w1 = some v ∧ fX4_changes 15 (nI (mj k)) x v = some (f k, w2) ∧ JJ w2 pd at' od ∧ xFr (fC ++ fM) w w2 := by
  obtain ⟨u, a1, a2, a3⟩ := c_record hC hG.1.1
  obtain ⟨w1, b1, b2, b3⟩ := c_chg a2 hk x
  have hM1 := hM.fr (fC_fr (a3.tr b3))
  obtain ⟨v, c1, c2, c3⟩ := m_records hM1
  obtain ⟨w2, d1, d2, d3⟩ := m_chg c2 hk x
  exact ⟨u, w1, v, w2, a1, a2.o.2.1, b1, hM1, c1, d1, JJ_of b2 (a3.tr b3) d2 (c3.tr d3) (GG_rec hG hC.1 hx)⟩
end STE
theorem j_weight (t v : Int32) : JSt (fX3_weight 0 t v) (fX4_weight 15 t v) := by
  intro w pd at' od hJ
  obtain ⟨f, n, H, hb, Sl, hC, hM, hG⟩ := hJ
  have hw := m_mayWeigh hM (g := 0) (by omega) t v
  rw [show nI (mj (3 * 0)) = 0 by decide +kernel] at hw
  unfold fX3_weight fX4_weight
  rw [if_pos hC.o.1, c_weightError hC]
  simp only [ob]
  by_cases e : eW f 0 t v = 0
  · obtain ⟨i, j, hi, hj, rfl, rfl, hz⟩ := eW_0 e
    have hgd := Gd_w hG.1 (g := 0) (by omega) hi hj rfl hz
    rw [show 3 * 0 + i = i by omega] at hgd
    obtain ⟨u, w1, v', w2, a1, a2, a3, hM2, a4, a5, a6⟩ := j_rc hC hM hG (k := i) (by omega) (nI j) hgd
    rw [if_pos e, a1]
    simp only [ob]
    rw [a2]
    unfold fX0_weightPlace
    simp only [ob]
    rw [a3]
    simp only [ob]
    refine ⟨f i, w1, w2, rfl, ?_, a6⟩
    have hw2 := m_mayWeigh hM2 (g := 0) (by omega) (nI i) (nI j)
    rw [show nI (mj (3 * 0)) = 0 by decide +kernel] at hw2
    rw [if_pos hM2.o.1, hw2]
    simp only [ob]
    rw [if_pos e, a4]
    simp only [ob]
    rw [show nI i = nI (mj i) by unfold mj mi; rw [if_pos (by omega), if_pos hi], a5]
    simp only [ob]
  · rw [if_neg e]
    refine ⟨_, w, w, rfl, ?_, JJ_same ⟨f, n, H, hb, Sl, hC, hM, hG⟩⟩
    rw [if_pos hM.o.1, hw]
    simp only [ob]
    rw [if_neg e]
theorem j_believe (m t v : Int32) : JSt (fX3_believe 0 m t v) (fX4_believe 15 m t v) := by
  intro w pd at' od hJ
  obtain ⟨f, n, H, hb, Sl, hC, hM, hG⟩ := hJ
  unfold fX3_believe fX4_believe
  rw [if_pos hC.o.1, c_beliefError hC]
  simp only [ob]
  by_cases e : eB f m t v = 0
  · have e' := e
    unfold eB at e'
    rcases k3 m with ⟨b, hb3, rfl, hm⟩ | hm
    · rw [if_pos hm, nI_clamp (by omega)] at e'
      obtain ⟨i, j, hi, hj, rfl, rfl, hz⟩ := eW_0 e'
      have hgd := Gd_w hG.1 (g := 1 + b) (by omega) hi hj rfl hz
      rw [show 3 * (1 + b) + i = 3 + 3 * b + i by omega] at hgd
      obtain ⟨u, w1, v', w2, a1, a2, a3, hM2, a4, a5, a6⟩ := j_rc hC hM hG (k := 3 + 3 * b + i) (by omega) (nI j) hgd
      rw [if_pos e, a1]
      simp only [ob]
      rw [a2]
      simp only [ob]
      rw [s_toldPlace]
      simp only [ob]
      rw [a3]
      simp only [ob]
      refine ⟨_, w1, w2, rfl, ?_, a6⟩
      rw [if_pos hM2.o.1, m_mayBelieve hM2]
      simp only [ob]
      rw [if_pos e, a4]
      simp only [ob]
      rw [show (57 : Int32) = nI 57 by decide +kernel, xl3, pk_mul, nI_add, nI_add, show 57 + 3 * b + i = mj (3 + 3 * b + i) by unfold mj mi; rw [if_pos (by omega), if_neg (by omega), if_pos (by omega)]; omega, a5]
      simp only [ob]
    · rw [if_neg hm] at e'
      exact absurd e' (by decide +kernel)
  · rw [if_neg e]
    refine ⟨_, w, w, rfl, ?_, JJ_same ⟨f, n, H, hb, Sl, hC, hM, hG⟩⟩
    rw [if_pos hM.o.1, m_mayBelieve hM]
    simp only [ob]
    rw [if_neg e]
theorem j_send (t m : Int32) : JSt (fX3_send 0 t m) (fX4_send 15 t m) := by
  intro w pd at' od hJ
  have hJ' := hJ
  obtain ⟨f, n, H, hb, Sl, hC, hM, hG⟩ := hJ
  unfold fX3_send fX4_send
  rw [if_pos hC.o.1, c_in3]
  simp only [ob]
  rcases k3 t with ⟨i, hi, rfl, ht⟩ | ht
  · rw [if_pos ht, if_neg (by decide +kernel), c_in3]
    simp only [ob]
    rcases k3 m with ⟨j, hj, rfl, hm⟩ | hm
    · rw [if_pos hm, if_neg (by decide +kernel)]
      obtain ⟨u, w1, v', w2, a1, a2, a3, hM2, a4, a5, a6⟩ := j_rc hC hM hG (k := 66 + i) (by omega) (nI j) (Gd_l hG.1 (by omega) hj)
      rw [a1]
      simp only [ob]
      rw [a2]
      simp only [ob]
      rw [s_messagePlace]
      simp only [ob]
      rw [a3]
      simp only [ob]
      refine ⟨_, w1, w2, rfl, ?_, a6⟩
      rw [if_pos hM2.o.1, m_one]
      simp only [ob]
      rw [if_pos ht, if_neg (by decide +kernel), m_one]
      simp only [ob]
      rw [if_pos hm, if_neg (by decide +kernel), a4]
      simp only [ob]
      rw [xl66, nI_add, show nI (66 + i) = nI (mj (66 + i)) by unfold mj; rw [if_neg (by omega)], a5]
      simp only [ob]
    · rw [if_neg hm, if_pos (by decide +kernel)]
      refine ⟨_, w, w, rfl, ?_, JJ_same hJ'⟩
      rw [if_pos hM.o.1, m_one]
      simp only [ob]
      rw [if_pos ht, if_neg (by decide +kernel), m_one]
      simp only [ob]
      rw [if_neg hm, if_pos (by decide +kernel)]
  · rw [if_neg ht, if_pos (by decide +kernel)]
    refine ⟨_, w, w, rfl, ?_, JJ_same hJ'⟩
    rw [if_pos hM.o.1, m_one]
    simp only [ob]
    rw [if_neg ht, if_pos (by decide +kernel)]
theorem j_answer (t m : Int32) : JSt (fX3_answer 0 t m) (fX4_answer 15 t m) := by
  intro w pd at' od hJ
  have hJ' := hJ
  obtain ⟨f, n, H, hb, Sl, hC, hM, hG⟩ := hJ
  unfold fX3_answer fX4_answer
  rw [if_pos hC.o.1, c_in3]
  simp only [ob]
  rcases k3 t with ⟨i, hi, rfl, ht⟩ | ht
  · rw [if_pos ht, if_neg (by decide +kernel), c_in3]
    simp only [ob]
    rcases k3 m with ⟨j, hj, rfl, hm⟩ | hm
    · rw [if_pos hm, if_neg (by decide +kernel)]
      have hgd := Gd_l hG.1 (k := 3 + i) (by omega) hj
      rw [show 66 + (3 + i) = 69 + i by omega] at hgd
      obtain ⟨u, w1, v', w2, a1, a2, a3, hM2, a4, a5, a6⟩ := j_rc hC hM hG (k := 69 + i) (by omega) (nI j) hgd
      rw [a1]
      simp only [ob]
      rw [a2]
      simp only [ob]
      rw [s_answerPlace]
      simp only [ob]
      rw [a3]
      simp only [ob]
      refine ⟨_, w1, w2, rfl, ?_, a6⟩
      rw [if_pos hM2.o.1, m_one]
      simp only [ob]
      rw [if_pos ht, if_neg (by decide +kernel), m_one]
      simp only [ob]
      rw [if_pos hm, if_neg (by decide +kernel), a4]
      simp only [ob]
      rw [xl69, nI_add, show nI (69 + i) = nI (mj (69 + i)) by unfold mj; rw [if_neg (by omega)], a5]
      simp only [ob]
    · rw [if_neg hm, if_pos (by decide +kernel)]
      refine ⟨_, w, w, rfl, ?_, JJ_same hJ'⟩
      rw [if_pos hM.o.1, m_one]
      simp only [ob]
      rw [if_pos ht, if_neg (by decide +kernel), m_one]
      simp only [ob]
      rw [if_neg hm, if_pos (by decide +kernel)]
  · rw [if_neg ht, if_pos (by decide +kernel)]
    refine ⟨_, w, w, rfl, ?_, JJ_same hJ'⟩
    rw [if_pos hM.o.1, m_one]
    simp only [ob]
    rw [if_neg ht, if_pos (by decide +kernel)]
theorem m_arePlace (t m a : Int32) (w : XW) : fX4_arePlace t m a w = some (if (0 ≤ t ∧ t ≤ 2) ∧ (0 ≤ m ∧ m ≤ 2) ∧ (0 ≤ a ∧ a ≤ 2) then 1 else 0, w) := by
  unfold fX4_arePlace
  rw [m_one]
  simp only [ob]
  by_cases ht : 0 ≤ t ∧ t ≤ 2
  · rw [if_pos ht, if_neg (by decide +kernel), m_one]
    simp only [ob]
    by_cases hm : 0 ≤ m ∧ m ≤ 2
    · rw [if_pos hm, if_neg (by decide +kernel), m_one]
      simp only [ob]
      by_cases ha : 0 ≤ a ∧ a ≤ 2
      · rw [if_pos ha, if_neg (by decide +kernel), if_pos ⟨ht, hm, ha⟩]
      · rw [if_neg ha, if_pos (by decide +kernel), if_neg (fun z => ha z.2.2)]
    · rw [if_neg hm, if_pos (by decide +kernel), if_neg (fun z => hm z.2.1)]
  · rw [if_neg ht, if_pos (by decide +kernel), if_neg (fun z => ht z.1)]
theorem m_are1 {t m a : Int32} (w : XW) (ht : 0 ≤ t ∧ t ≤ 2) (hm : 0 ≤ m ∧ m ≤ 2) (ha : 0 ≤ a ∧ a ≤ 2) : fX4_arePlace t m a w = some (1, w) := by
  rw [m_arePlace]
  have : (0 ≤ t ∧ t ≤ 2) ∧ (0 ≤ m ∧ m ≤ 2) ∧ (0 ≤ a ∧ a ≤ 2) := ⟨ht, hm, ha⟩
  rw [if_pos this]
theorem m_are0 {t m a : Int32} (w : XW) (h : ¬ ((0 ≤ t ∧ t ≤ 2) ∧ (0 ≤ m ∧ m ≤ 2) ∧ (0 ≤ a ∧ a ≤ 2))) : fX4_arePlace t m a w = some (0, w) := by
  rw [m_arePlace, if_neg h]
theorem k01 (x : Int32) : (∃ s : Nat, s < 2 ∧ x = nI s ∧ (0 ≤ x ∧ x ≤ 1)) ∨ ¬ (0 ≤ x ∧ x ≤ 1) := by
  by_cases h : 0 ≤ x ∧ x ≤ 1
  · have h2 := h
    rw [Int32.le_iff_toInt_le, Int32.le_iff_toInt_le, show (0 : Int32).toInt = 0 by decide +kernel, show (1 : Int32).toInt = 1 by decide +kernel] at h2
    exact Or.inl ⟨x.toNatClampNeg, by show x.toInt.toNat < 2; omega, k_of (by rw [Int32.not_lt]; exact h.1), h⟩
  · exact Or.inr h
theorem j_pay (s t m a v : Int32) : JSt (fX3_pay 0 s t m a v) (fX4_pay 15 s t m a v) := by
  intro w pd at' od hJ
  have hJ' := hJ
  obtain ⟨f, n, H, hb, Sl, hC, hM, hG⟩ := hJ
  unfold fX3_pay fX4_pay
  rw [if_pos hC.o.1, c_in3]
  simp only [ob]
  rcases k3 t with ⟨i, hi, rfl, ht⟩ | ht
  · rw [if_pos ht, if_neg (by decide +kernel), c_in3]
    simp only [ob]
    rcases k3 m with ⟨j, hj, rfl, hm⟩ | hm
    · rw [if_pos hm, if_neg (by decide +kernel), c_in3]
      simp only [ob]
      rcases k3 a with ⟨b, hb3, rfl, ha⟩ | ha
      · rw [if_pos ha, if_neg (by decide +kernel)]
        rcases k01 s with ⟨c, hc, rfl, hs⟩ | hs
        · have e1 : (if nI c = 0 then fX3_pay_36 0 (nI c) (nI i) (nI j) (nI b) v w else if nI c = 1 then fX3_pay_36 0 (nI c) (nI i) (nI j) (nI b) v w else some (-2, w)) = fX3_pay_36 0 (nI c) (nI i) (nI j) (nI b) v w := by
            have : c = 0 ∨ c = 1 := by omega
            rcases this with rfl | rfl
            · rw [if_pos (by decide +kernel)]
            · rw [if_neg (by decide +kernel), if_pos (by decide +kernel)]
          rw [e1]
          unfold fX3_pay_36
          by_cases h9 : (-9 : Int32) ≤ v ∧ v ≤ 9
          · have hgd := Gd_p hG.1 (k := 27 * c + 9 * i + 3 * j + b) (by omega) h9
            rw [show 12 + (27 * c + 9 * i + 3 * j + b) = 12 + 27 * c + 9 * i + 3 * j + b by omega] at hgd
            obtain ⟨u, w1, v', w2, a1, a2, a3, hM2, a4, a5, a6⟩ := j_rc hC hM hG (k := 12 + 27 * c + 9 * i + 3 * j + b) (by omega) v hgd
            rw [if_neg (by rw [Int32.not_lt]; exact h9.1), if_pos h9.2, a1]
            simp only [ob]
            rw [a2]
            simp only [ob]
            rw [s_payPlace]
            simp only [ob]
            rw [a3]
            simp only [ob]
            refine ⟨_, w1, w2, rfl, ?_, a6⟩
            rw [if_pos hM2.o.1, m_are1 _ ht hm ha]
            simp only [ob]
            rw [if_neg (by decide +kernel), m_in]
            simp only [ob]
            rw [if_pos hs, if_neg (by decide +kernel), m_in]
            simp only [ob]
            rw [if_pos h9, if_neg (by decide +kernel), a4]
            simp only [ob]
            rw [m_place]
            simp only [ob]
            rw [show 3 + 27 * c + 9 * i + 3 * j + b = mj (12 + 27 * c + 9 * i + 3 * j + b) by unfold mj mi; rw [if_pos (by omega), if_neg (by omega), if_neg (by omega)]; omega, a5]
            simp only [ob]
          · have e2 : (if v < -9 then some (-2, w) else if v ≤ 9 then (fX3_record 0 w).bind fun q4 => (xgR q4 0 3 0).bind fun v5 => (fX0_payPlace (nI c) (nI i) (nI j) (nI b) q4).bind fun q6 => (fX0_change v5 q6.1 v q6.2).bind fun q7 => some ((q7.1 + (100)), q7.2) else some ((-2), w)) = some ((-2 : Int32), w) := by
              by_cases h1 : v < -9
              · rw [if_pos h1]
              · rw [if_neg h1, if_neg (fun z => h9 ⟨Int32.not_lt.mp h1, z⟩)]
            rw [e2]
            refine ⟨_, w, w, rfl, ?_, JJ_same hJ'⟩
            rw [if_pos hM.o.1, m_are1 _ ht hm ha]
            simp only [ob]
            rw [if_neg (by decide +kernel), m_in]
            simp only [ob]
            rw [if_pos hs, if_neg (by decide +kernel), m_in]
            simp only [ob]
            rw [if_neg h9, if_pos (by decide +kernel)]
        · rw [if_neg (fun z => hs (by rw [z]; decide +kernel)), if_neg (fun z => hs (by rw [z]; decide +kernel))]
          refine ⟨_, w, w, rfl, ?_, JJ_same hJ'⟩
          rw [if_pos hM.o.1, m_are1 _ ht hm ha]
          simp only [ob]
          rw [if_neg (by decide +kernel), m_in]
          simp only [ob]
          rw [if_neg hs, if_pos (by decide +kernel)]
      · rw [if_neg ha, if_pos (by decide +kernel)]
        refine ⟨_, w, w, rfl, ?_, JJ_same hJ'⟩
        rw [if_pos hM.o.1, m_are0 _ (fun z => ha z.2.2)]
        simp only [ob]
        rw [if_pos (by decide +kernel)]
    · rw [if_neg hm, if_pos (by decide +kernel)]
      refine ⟨_, w, w, rfl, ?_, JJ_same hJ'⟩
      rw [if_pos hM.o.1, m_are0 _ (fun z => hm z.2.1)]
      simp only [ob]
      rw [if_pos (by decide +kernel)]
  · rw [if_neg ht, if_pos (by decide +kernel)]
    refine ⟨_, w, w, rfl, ?_, JJ_same hJ'⟩
    rw [if_pos hM.o.1, m_are0 _ (fun z => ht z.1)]
    simp only [ob]
    rw [if_pos (by decide +kernel)]
