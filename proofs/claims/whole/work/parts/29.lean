/-! BOTH SIDES TOGETHER: what is only read -/
theorem kN (x : Int32) {M : Int32} {N : Nat} (hM : M.toInt = N) : (∃ k : Nat, k ≤ N ∧ x = nI k ∧ (0 ≤ x ∧ x ≤ M)) ∨ ¬ (0 ≤ x ∧ x ≤ M) := by
  by_cases h : 0 ≤ x ∧ x ≤ M
  · have h2 := h
    rw [Int32.le_iff_toInt_le, Int32.le_iff_toInt_le, show (0 : Int32).toInt = 0 by decide +kernel, hM] at h2
    exact Or.inl ⟨x.toNatClampNeg, by show x.toInt.toNat ≤ N; omega, k_of (by rw [Int32.not_lt]; exact h.1), h⟩
  · exact Or.inr h
section STH
variable {w w1 : XW} {f : Nat → Int32} {n : Nat} {H : Nat → Nat → Int32} {hb : Nat → Bool} {Sl : Nat → Nat → Int32} {pd at' od : Int32}
theorem JJ_rd (hC : JC w1 f n H hb Sl) (r1 : xFr fC w w1) (hM : JM w1 f n H hb Sl pd at' od) (hG : GG f n H hb Sl) (q r : Nat → Int32) : JJ (mW w1 q r) pd at' od ∧ xFr (fC ++ fM) w (mW w1 q r) :=
  JJ_of hC r1 (hM.pb q r) (mW_fr w1 q r) hG
theorem JC.ps (hC : JC w f n H hb Sl) {q : Nat → Int32} (hq : Vc f q) : JC (w.set 3 (.inl (0, 24, q))) f n H hb Sl ∧ xFr fC w (w.set 3 (.inl (0, 24, q))) := by
  obtain ⟨hn, h0, ⟨p, g1, g2, g3⟩, hI, hH, hS⟩ := hC
  have t : ∀ (e : XE) (k : Nat), k ≠ 3 → (w.set 3 e)[k]? = w[k]? := fun e k h1 => by rw [xset_get _ (Ne.symm h1)]
  refine ⟨⟨hn, ?_, ⟨q, g1.setP (by decide) (by decide) q, hq, hq.1⟩, hI.fr (fun k h1 h2 => t _ k (by omega)), hH.fr (t _ 12 (by decide)), hS.fr (t _ 13 (by decide)) (t _ 14 (by decide))⟩, xFr.st _ (by decide)⟩
  unfold CO at h0 ⊢
  rw [t _ 0 (by decide)]
  exact h0
theorem m_lk (h : JM w f n H hb Sl pd at' od) (hg : Gd f) : ∃ N be, fX4_looks 15 w = some (mW w (mS N) be) ∧ xIsM (mW w (mS N) be) N (mS N) be ∧ mv N (mS N) = f ∧ Vd (mv N (mS N)) := by
  obtain ⟨N, pl, be, hi, e⟩ := h.is
  have e' : mv N (mS N) = f := e
  have hv : Vd (mv N (mS N)) := by rw [e']; exact hg.2.1
  have e2 : w.set 22 (.inl (0, 6, mS N)) = mW w (mS N) be := by
    unfold mW
    rw [xset_same (show (w.set 22 (.inl (0, 6, mS N)))[23]? = some (.inl (0, 3, be)) by rw [xset_get _ (by decide)]; exact hi.2.2.2.2.2.2)]
  exact ⟨N, be, by rw [m_looks hi hv, e2], by rw [← e2]; exact hi.setP _, e', hv⟩
theorem c_low (b0 b1 b2 : Bool) (w : XW) : fX3_lowestIn (xbs b0 b1 b2) w = some (if b0 then 0 else if b1 then 1 else if b2 then 2 else -6, w) := by
  have step : ∀ (g t : Nat), t < 3 → fX3_lowestIn_2 (g + 1) (xbs b0 b1 b2) (nI t) w = if vHas (xbs b0 b1 b2) t then some (nI t, w) else fX3_lowestIn_2 g (xbs b0 b1 b2) (nI (t + 1)) w := by
    intro g t ht
    rw [fX3_lowestIn_2, if_neg (by rw [xl3]; exact nI_ge ht (by omega)), s_has]
    simp only [ob, nI_1]
    cases vHas (xbs b0 b1 b2) t
    · rw [if_pos (by decide +kernel), if_neg (by decide)]
    · rw [if_neg (by decide +kernel), if_pos rfl]
  obtain ⟨v0, v1, v2⟩ := vHas_bs b0 b1 b2
  unfold fX3_lowestIn
  rw [show fX3_lowestIn_2 1000 (xbs b0 b1 b2) 0 w = fX3_lowestIn_2 (999 + 1) (xbs b0 b1 b2) (nI 0) w by rw [← xl0], step 999 0 (by omega), v0]
  cases b0
  · rw [if_neg Bool.false_ne_true, if_neg Bool.false_ne_true, step 998 1 (by omega), v1]
    cases b1
    · rw [if_neg Bool.false_ne_true, if_neg Bool.false_ne_true, step 997 2 (by omega), v2]
      cases b2
      · rw [if_neg Bool.false_ne_true, if_neg Bool.false_ne_true, fX3_lowestIn_2, if_pos (by decide +kernel)]
      · rw [if_pos rfl, if_pos rfl, ← xl2]
    · rw [if_pos rfl, if_pos rfl, ← xl1]
  · rw [if_pos rfl, if_pos rfl, ← xl0]
theorem k_low : ∀ b0 b1 b2 : Bool, (b0 || b1 || b2) = true → (if (xbs b0 b1 b2 &&& 1) = 1 then (0 : Int32) else if (xbs b0 b1 b2 &&& 2) = 2 then 1 else 2) = (if b0 then 0 else if b1 then 1 else if b2 then 2 else -6) := by decide +kernel
end STH
theorem JSp {c m : XW → Option (Int32 × XW)} (h : ∀ w pd at' od, JJ w pd at' od → ∃ r w2, c w = some (r, w) ∧ m w = some (r, w2) ∧ JJ w2 pd at' od ∧ xFr (fC ++ fM) w w2) : JSt c m := by
  intro w pd at' od hJ
  obtain ⟨r, w2, q⟩ := h w pd at' od hJ
  exact ⟨r, w, w2, q⟩
theorem j_payoff (s t m a : Int32) : JSt (fX3_payoff 0 s t m a) (fX4_payoff 15 s t m a) := by
  intro w pd at' od hJ
  have hJ' := hJ
  obtain ⟨f, n, H, hb, Sl, hC, hM, hG⟩ := hJ
  unfold fX3_payoff fX4_payoff
  rw [if_pos hC.o.1, c_in3]
  simp only [ob]
  rcases k3 t with ⟨i, hi, rfl, ht⟩ | ht
  · rw [if_pos ht, if_neg (by decide +kernel), c_in3]
    simp only [ob]
    rcases k3 m with ⟨j, hj, rfl, hm⟩ | hm
    · rw [if_pos hm, if_neg (by decide +kernel), c_in3]
      simp only [ob]
      rcases k3 a with ⟨b, hb3, rfl, ha⟩ | ha
      · rw [if_pos ha, if_neg (by decide +kernel)]
        rcases k01 s with ⟨c, hc, rfl, hs⟩ | hs
        · have e1 : (if nI c = 0 then fX3_payoff_39 0 (nI c) (nI i) (nI j) (nI b) w else if nI c = 1 then fX3_payoff_39 0 (nI c) (nI i) (nI j) (nI b) w else some (-2, w)) = fX3_payoff_39 0 (nI c) (nI i) (nI j) (nI b) w := by
            have : c = 0 ∨ c = 1 := by omega
            rcases this with rfl | rfl
            · rw [if_pos (by decide +kernel)]
            · rw [if_neg (by decide +kernel), if_pos (by decide +kernel)]
          obtain ⟨p, g1, g2, g3⟩ := hC.2.2.1
          rw [e1]
          unfold fX3_payoff_39
          rw [hC.o.2.1]
          simp only [ob]
          rw [s_payPlace]
          simp only [ob]
          rw [s_cell g1 (by omega)]
          simp only [ob]
          refine ⟨_, w, w, rfl, ?_, JJ_same hJ'⟩
          obtain ⟨N, pl, be, hi', e⟩ := hM.is
          rw [if_pos hM.o.1, m_are1 _ ht hm ha]
          simp only [ob]
          rw [if_neg (by decide +kernel), m_in]
          simp only [ob]
          rw [if_pos hs, if_neg (by decide +kernel), hM.o.2.2.1]
          simp only [ob]
          rw [m_place]
          simp only [ob]
          rw [xaI_ok hi'.2.2.2.2.1 (by omega) (by omega)]
          simp only [ob]
          rw [← e, MV_at, if_pos (by omega), show mj (12 + 27 * c + 9 * i + 3 * j + b) = 3 + 27 * c + 9 * i + 3 * j + b by unfold mj mi; rw [if_pos (by omega), if_neg (by omega), if_neg (by omega)]; omega]
        · rw [if_neg (fun z => hs (by rw [z]; decide +kernel)), if_neg (fun z => hs (by rw [z]; decide +kernel))]
          refine ⟨_, w, w, rfl, ?_, JJ_same hJ'⟩
          rw [if_pos hM.o.1, m_are1 _ ht hm ha]
          simp only [ob]
          rw [if_neg (by decide +kernel), m_in]
          simp only [ob]
          rw [if_neg hs, if_pos (by decide +kernel)]
      · rw [if_neg ha, if_pos (by decide +kernel)]
        refine ⟨_, w, w, rfl, ?_, JJ_same hJ'⟩
        rw [if_pos hM.o.1, m_are0 _ (fun z => ha z.2.2)]
        simp only [ob]
        rw [if_pos (by decide +kernel)]
    · rw [if_neg hm, if_pos (by decide +kernel)]
      refine ⟨_, w, w, rfl, ?_, JJ_same hJ'⟩
      rw [if_pos hM.o.1, m_are0 _ (fun z => hm z.2.1)]
      simp only [ob]
      rw [if_pos (by decide +kernel)]
  · rw [if_neg ht, if_pos (by decide +kernel)]
    refine ⟨_, w, w, rfl, ?_, JJ_same hJ'⟩
    rw [if_pos hM.o.1, m_are0 _ (fun z => ht z.1)]
    simp only [ob]
    rw [if_pos (by decide +kernel)]
def aTy (f : Nat → Int32) (i : Nat) (k : Int32) : Int32 := if k = 0 then f i else if k = 1 then nI (vM f i) else if k = 2 then vOw f i + 100 else if k = 3 then nI (vDe f i) else if k = 4 then vPf f i (vDe f i) - vOw f i else -2
section STI
variable {w : XW} {f : Nat → Int32} {n : Nat} {H : Nat → Nat → Int32} {hb : Nat → Bool} {Sl : Nat → Nat → Int32} {pd at' od : Int32}
theorem c_ofType (hC : JC w f n H hb Sl) (hg : Gd f) (t k : Int32) : fX3_ofType 0 t k w = some (if 0 ≤ t ∧ t ≤ 2 then aTy f t.toNatClampNeg k else -1, w) := by
  obtain ⟨p, g1, g2, g3⟩ := hC.2.2.1
  have hv := hg.2.1
  unfold fX3_ofType aTy
  rw [if_pos hC.o.1, c_in3]
  simp only [ob]
  rcases k3 t with ⟨i, hi, rfl, ht⟩ | ht
  · rw [if_pos ht, if_pos ht, if_neg (by decide +kernel), hC.o.2.1, nI_clamp (by omega)]
    simp only [ob]
    by_cases k0 : k = 0
    · rw [if_pos k0, if_pos k0]
      unfold fX0_weightPlace
      simp only [ob]
      rw [s_cell g1 (by omega)]
      simp only [ob]
    rw [if_neg k0, if_neg k0]
    by_cases k1 : k = 1
    · rw [if_pos k1, if_pos k1, s_messagePlace]
      simp only [ob]
      rw [s_msg g1 hv hi]
      simp only [ob]
    rw [if_neg k1, if_neg k1]
    by_cases k2 : k = 2
    · rw [if_pos k2, if_pos k2, s_ownPayoff g1 hv hi]
      simp only [ob]
    rw [if_neg k2, if_neg k2]
    by_cases k3 : k = 3
    · rw [if_pos k3, if_pos k3, s_dearest g1 hv hi]
      simp only [ob]
    rw [if_neg k3, if_neg k3]
    by_cases k4 : k = 4
    · rw [if_pos k4, if_pos k4, s_dearest g1 hv hi]
      simp only [ob]
      rw [s_payoffBy g1 hv hi (vDe_lt f i)]
      simp only [ob]
      rw [hC.o.2.1]
      simp only [ob]
      rw [s_ownPayoff g1 hv hi]
      simp only [ob]
    rw [if_neg k4, if_neg k4]
  · rw [if_neg ht, if_neg ht, if_pos (by decide +kernel)]
theorem k_ne {x M y : Int32} (h : ¬ (0 ≤ x ∧ x ≤ M)) (hy : 0 ≤ y ∧ y ≤ M) : ¬ x = y := fun z => h (by rw [z]; exact hy)
theorem m_ofType (hM : JM w f n H hb Sl pd at' od) (hg : Gd f) (t k : Int32) : ∃ q r, fX4_ofType 15 t k w = some (if 0 ≤ t ∧ t ≤ 2 then aTy f t.toNatClampNeg k else -1, mW w q r) := by
  obtain ⟨N, be, l1, l2, l3, l4⟩ := m_lk hM hg
  obtain ⟨N0, pl0, be0, hi0, -⟩ := hM.is
  unfold fX4_ofType
  rw [if_pos hM.o.1, m_one]
  simp only [ob]
  rcases k3 t with ⟨i, hi, rfl, ht⟩ | ht
  · rw [if_pos ht, if_pos ht, if_neg (by decide +kernel), m_in, nI_clamp (by omega)]
    simp only [ob]
    rcases kN k (M := 4) (N := 4) (by decide +kernel) with ⟨j, hj, rfl, hk⟩ | hk
    · refine ⟨mS N, be, ?_⟩
      rw [if_pos hk, if_neg (by decide +kernel), l1]
      simp only [ob]
      have hc : j = 0 ∨ j = 1 ∨ j = 2 ∨ j = 3 ∨ j = 4 := by omega
      unfold aTy
      rcases hc with rfl | rfl | rfl | rfl | rfl
      · rw [if_neg (by decide +kernel), if_pos (by decide +kernel), l2.2.1, if_pos (by decide +kernel)]
        simp only [ob]
        rw [xaI_ok l2.2.2.2.2.1 (by omega) (by omega)]
        simp only [ob]
        rw [← mv_t N (mS N) hi, l3]
      · rw [if_neg (by decide +kernel), if_neg (by decide +kernel), if_pos (by decide +kernel), l2.2.2.1, if_neg (by decide +kernel), if_pos (by decide +kernel)]
        simp only [ob]
        rw [m_msg l2 l4 hi, l3]
        simp only [ob]
      · rw [if_neg (by decide +kernel), if_neg (by decide +kernel), if_neg (by decide +kernel), m_payoffOf l2 l4 hi, l3, if_neg (by decide +kernel), if_neg (by decide +kernel), if_pos (by decide +kernel)]
        simp only [ob]
      · rw [if_pos (by decide +kernel), m_most l2 l4 hi, l3, if_neg (by decide +kernel), if_neg (by decide +kernel), if_neg (by decide +kernel), if_pos (by decide +kernel)]
        simp only [ob]
        rw [if_pos (by decide +kernel)]
      · rw [if_pos (by decide +kernel), m_most l2 l4 hi]
        simp only [ob]
        rw [if_neg (by decide +kernel), m_has l2 l4 hi (vDe_lt _ i)]
        simp only [ob]
        rw [m_payoffOf l2 l4 hi, l3]
        simp only [ob]
        rw [if_neg (by decide +kernel), if_neg (by decide +kernel), if_neg (by decide +kernel), if_neg (by decide +kernel), if_pos (by decide +kernel)]
    · refine ⟨pl0, be0, ?_⟩
      rw [if_neg hk, if_pos (by decide +kernel), mW_same hi0]
      unfold aTy
      rw [if_neg (k_ne hk (by decide +kernel)), if_neg (k_ne hk (by decide +kernel)), if_neg (k_ne hk (by decide +kernel)), if_neg (k_ne hk (by decide +kernel)), if_neg (k_ne hk (by decide +kernel))]
  · refine ⟨pl0, be0, ?_⟩
    rw [if_neg ht, if_neg ht, if_pos (by decide +kernel), mW_same hi0]
end STI
/-- both sides answer by one rule, and keep what they hold -/
theorem JSo {c m : XW → Option (Int32 × XW)} (a : (Nat → Int32) → Int32) (hc : ∀ w f n H hb Sl, JC w f n H hb Sl → Gd f → ∃ w1, c w = some (a f, w1) ∧ JC w1 f n H hb Sl ∧ xFr fC w w1) (hm : ∀ w f n H hb Sl pd at' od, JM w f n H hb Sl pd at' od → Gd f → ∃ q r, m w = some (a f, mW w q r)) : JSt c m := by
  intro w pd at' od hJ
  obtain ⟨f, n, H, hb, Sl, hC, hM, hG⟩ := hJ
  obtain ⟨w1, e1, e2, e3⟩ := hc _ _ _ _ _ _ hC hG.1
  have hM1 := hM.fr (fC_fr e3)
  obtain ⟨q, r, e4⟩ := hm _ _ _ _ _ _ _ _ _ hM1 hG.1
  exact ⟨_, w1, _, e1, e4, JJ_rd e2 e3 hM1 hG q r⟩
theorem j_ofType (t k : Int32) : JSt (fX3_ofType 0 t k) (fX4_ofType 15 t k) :=
  JSo (fun f => if 0 ≤ t ∧ t ≤ 2 then aTy f t.toNatClampNeg k else -1) (fun w f n H hb Sl hC hg => ⟨w, c_ofType hC hg t k, hC, xFr.rf⟩) (fun w f n H hb Sl pd at' od hM hg => m_ofType hM hg t k)
