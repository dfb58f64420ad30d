/-! BOTH SIDES TOGETHER: adopting a plan -/
theorem Gd_pc {f : Nat → Int32} (h : Gd f) (c : Nat) : Gd (vPc f c) := by
  obtain ⟨a, b, d, e, g⟩ := h
  have hb := vPc_b f c
  refine ⟨vPc_cn a c, vPc_vd f c, hb.sy.VP d, ?_, ?_⟩
  · intro k hk
    rw [hb k (by omega)]
    exact e k hk
  · intro k hk
    rw [hb _ (by omega), hb _ (by omega), hb _ (by omega)]
    exact g k hk
theorem xIsS.fr {w w1 : XW} {f1 p1 cd nb : Nat → Int32} {made : Int32} (h : xIsS w f1 p1 cd nb made) (hk : ∀ k, 4 ≤ k → k < 10 → w1[k]? = w[k]?) : xIsS w1 f1 p1 cd nb made := by
  obtain ⟨a1, a2, a3, a4, a5, a6, a7⟩ := h
  exact ⟨a1.fr (hk 5 (by omega) (by omega)) (hk 6 (by omega) (by omega)) (hk 7 (by omega) (by omega)), by rw [hk 4 (by omega) (by omega)]; exact a2, by rw [hk 8 (by omega) (by omega)]; exact a3, by rw [hk 9 (by omega) (by omega)]; exact a4, a5, a6, a7⟩
section STN
variable {w : XW} {f : Nat → Int32} {n : Nat} {H : Nat → Nat → Int32} {hb : Nat → Bool} {Sl : Nat → Nat → Int32} {pd at' od : Int32}
theorem c_take (hC : JC w f n H hb Sl) (hcf : Cn 72 f) {c : Nat} (hc : c < 2 ^ 31) : ∃ w1, fX0_takePlan 1 (nI c) w = some w1 ∧ JC w1 (vPc f c) n H hb Sl ∧ xFr fC w w1 := by
  obtain ⟨hn, h0, ⟨p, g1, g2, g3⟩, hI, hH, hS⟩ := hC
  have t : ∀ (e : XE) (k : Nat), k ≠ 2 → (w.set 2 e)[k]? = w[k]? := fun e k h1 => by rw [xset_get _ (Ne.symm h1)]
  refine ⟨_, s_takePlan g1 (by decide) hcf hc, ⟨hn, ?_, ⟨p, g1.setC (by decide) (by decide) _, g2.to (fun i hi => (vPc_b f c _ (by omega)).symm), g3⟩, hI.fr (fun k h1 h2 => t _ k (by omega)), hH.fr (t _ 12 (by decide)), hS.fr (t _ 13 (by decide)) (t _ 14 (by decide))⟩, xFr.st _ (by decide)⟩
  unfold CO at h0 ⊢
  rw [t _ 0 (by decide)]
  exact h0
theorem c_adopt1 (hC : JC w f n H hb Sl) (hg : Gd f) {i : Nat} (hi : i < (vLs f).length) {c : Nat} (hc : (vLs f)[i]? = some c) (hc7 : c < 729) : ∃ w1, fX3_adopt 0 (nI i) w = some (nI (vNm f 0), w1) ∧ JC w1 (vPc f c) (hN n) (hP n H f) hb Sl ∧ xFr fC w w1 := by
  obtain ⟨p, g1, g2, g3⟩ := hC.2.2.1
  obtain ⟨w1, e1, e2, e3⟩ := s_numberOf g1 hg.1 hg.2.2.1 hC.2.2.2.1 (k := 0) (by omega)
  have hC1 := hC.sv (e2.IS hg.1) e3
  have hlen := vLs_len f
  rw [← xl0, vNm_0] at e1
  obtain ⟨w2, a1, a2, a3⟩ := c_recordF hC1 hg.1
  obtain ⟨w3, b1, b2, b3⟩ := c_take a2 hg.1 (c := c) (by omega)
  rw [vNm_0]
  unfold fX3_adopt
  rw [if_pos hC.o.1, hC.o.2.2.1, hC.o.2.1]
  simp only [ob]
  rw [e1]
  simp only [ob]
  rw [s_inN hi (by omega)]
  simp only [ob]
  rw [if_neg (by decide +kernel), a1]
  simp only [ob]
  rw [a2.o.2.1, a2.o.2.2.1]
  simp only [ob]
  obtain ⟨f1, p1, cd, nb, hS, hB, hV, hN', hc'⟩ := e2
  have hS2 := hS.fr (w1 := w2) (fun k h1 h2 => a3.2 k (by simp; omega))
  obtain ⟨hil, hib⟩ := List.getElem?_eq_some_iff.mp hc
  rw [s_codeAt hS2 (by omega), hV.2 i hil, hib]
  simp only [ob]
  rw [b1]
  simp only [ob]
  exact ⟨w3, rfl, b2, ((e3.wk (by decide)).tr (a3.wk (by decide))).tr b3⟩
theorem c_adopt0 (hC : JC w f n H hb Sl) (hg : Gd f) {x : Int32} (h0 : (if x < 0 then (0 : Int32) else if nI (vLs f).length ≤ x then 0 else 1) = 0) : ∃ w1, fX3_adopt 0 x w = some (-1, w1) ∧ JC w1 f n H hb Sl ∧ xFr fC w w1 := by
  obtain ⟨p, g1, g2, g3⟩ := hC.2.2.1
  obtain ⟨w1, e1, e2, e3⟩ := s_numberOf g1 hg.1 hg.2.2.1 hC.2.2.2.1 (k := 0) (by omega)
  have hC1 := hC.sv (e2.IS hg.1) e3
  rw [← xl0, vNm_0] at e1
  unfold fX3_adopt
  rw [if_pos hC.o.1, hC.o.2.2.1, hC.o.2.1]
  simp only [ob]
  rw [e1]
  simp only [ob]
  rw [s_in, h0]
  simp only [ob]
  rw [if_pos (by decide +kernel)]
  exact ⟨w1, rfl, hC1, e3.wk (by decide)⟩
theorem m_adopt24 {N be : Nat → Int32} {c : Nat} (hi : xIsM w N (mpc c) be) : ∃ h', fX4_adopt_24 1000 15 0 w = ((fX4_counts 15 0 (w.set 16 (.inl (0, 72, h')))).bind fun q4 => some (q4.1, q4.2)) ∧ ∀ k, k < 72 → h' k = if 66 ≤ k ∧ k < 72 then mpc c (k - 66) else N k := by
  have key : ∀ (d z j : Nat) (h : Nat → Int32), j + d = 6 → d < z → (∀ k, k < 72 → h k = if 66 ≤ k ∧ k < 66 + j then mpc c (k - 66) else N k) → ∃ h', fX4_adopt_24 z 15 (nI j) (w.set 16 (.inl (0, 72, h))) = ((fX4_counts 15 0 (w.set 16 (.inl (0, 72, h')))).bind fun q4 => some (q4.1, q4.2)) ∧ ∀ k, k < 72 → h' k = if 66 ≤ k ∧ k < 72 then mpc c (k - 66) else N k := by
    intro d
    induction d with
    | zero =>
      intro z j h hj hz hh
      obtain ⟨z, rfl⟩ : ∃ x, z = x + 1 := ⟨z - 1, by omega⟩
      obtain rfl : j = 6 := by omega
      rw [fX4_adopt_24, if_pos (by decide +kernel)]
      exact ⟨h, rfl, hh⟩
    | succ d ih =>
      intro z j h hj hz hh
      obtain ⟨z, rfl⟩ : ∃ x, z = x + 1 := ⟨z - 1, by omega⟩
      have o1 : xgR (w.set 16 (.inl (0, 72, h))) 15 4 0 = some 16 := by rw [xgR_set (by decide)]; exact hi.2.1
      have o2 : xgR (w.set 16 (.inl (0, 72, h))) 15 4 10 = some 22 := by rw [xgR_set (by decide)]; exact hi.2.2.1
      rw [fX4_adopt_24, if_neg (by rw [show (6 : Int32) = nI 6 by decide +kernel]; exact nI_ge (by omega) (by omega)), o1, o2]
      simp only [ob]
      rw [xaI_ok (show (w.set 16 (.inl (0, 72, h)))[22]? = _ by rw [xset_get _ (by decide)]; exact hi.2.2.2.2.2.1) (by omega) (by omega)]
      simp only [ob]
      rw [xl66, nI_add, xsI_ok (xset_self hi.2.2.2.2.1) (by omega) (by omega)]
      simp only [ob]
      rw [List.set_set, nI_1]
      refine ih z (j + 1) _ (by omega) (by omega) ?_
      intro k hk
      unfold xct upd
      rw [if_pos hk]
      by_cases e1 : k = 66 + j
      · rw [if_pos e1, if_pos (by omega)]
        congr 1; omega
      · rw [if_neg e1, hh k hk]
        by_cases e2 : 66 ≤ k ∧ k < 66 + j
        · rw [if_pos e2, if_pos (by omega)]
        · rw [if_neg e2, if_neg (by omega)]
  obtain ⟨h', r1, r2⟩ := key 6 1000 0 N (by omega) (by omega) (by intro k hk; rw [if_neg (by omega)])
  rw [xset_same hi.2.2.2.2.1, ← xl0] at r1
  exact ⟨h', r1, r2⟩
theorem m_adopt1 (hM : JM w f n H hb Sl pd at' od) {x : Int32} {c : Nat} (hx : vAt (vLs f) x = nI c) (hc7 : c < 729) : ∃ w1, fX4_adopt 15 x w = some (nI (vNm f 0), w1) ∧ JM w1 (vPc f c) (hN n) (hP n H f) hb Sl pd at' od ∧ xFr fM w w1 := by
  obtain ⟨N, pl, be, hi, hB, hcf⟩ := hM.ms
  obtain ⟨q, r, e⟩ := m_codeAt hi x
  have e2 : vUp (mv N pl) 729 = vLs f := vLs_be (mv_cn _ _) hcf hB
  rw [e2, hx] at e
  obtain ⟨w1, a1, a2, a3⟩ := m_records (hM.pb q r)
  obtain ⟨N1, pl1, be1, hi1, e1⟩ := a2.is
  have hi2 := hi1.setP (mpc c)
  have hw2 : w1.set 22 (.inl (0, 6, mpc c)) = mW w1 (mpc c) be1 := by
    unfold mW
    rw [xset_same (show (w1.set 22 (.inl (0, 6, mpc c)))[23]? = some (.inl (0, 3, be1)) by rw [xset_get _ (by decide)]; exact hi1.2.2.2.2.2.2)]
  have hM2 := a2.pb (mpc c) be1
  rw [← hw2] at hM2
  obtain ⟨h', c1, c2⟩ := m_adopt24 hi2
  generalize hw3 : (w1.set 22 (.inl (0, 6, mpc c))).set 16 (.inl (0, 72, h')) = w3 at c1
  have t : ∀ k, k ≠ 16 → w3[k]? = (w1.set 22 (.inl (0, 6, mpc c)))[k]? := fun k h1 => by rw [← hw3, xset_get _ (Ne.symm h1)]
  have t16 : w3[16]? = some (.inl (0, 72, h')) := by rw [← hw3]; exact xset_self hi2.2.2.2.2.1
  have hmv : MV h' = vPc f c := by
    rw [← e1]
    funext k
    rw [MV_at]
    unfold vPc
    by_cases hk : k < 72
    · rw [if_pos hk, c2 _ (mj_lt hk)]
      by_cases h6 : 66 ≤ k
      · have : mj k = k := by unfold mj; rw [if_neg (by omega)]
        rw [this, if_pos ⟨h6, hk⟩, if_pos ⟨h6, hk⟩]
        unfold mpc
        rw [if_pos (by omega), show 5 - (k - 66) = 71 - k by omega]
      · have : mj k < 66 := by
          unfold mj mi
          split
          · split
            · omega
            · split <;> omega
          · omega
        rw [if_neg (by omega), if_neg (by omega), MV_at, if_pos hk]
    · rw [if_neg hk, if_neg (by omega), MV_at, if_neg hk]
  have hi3 : xIsM w3 h' (mpc c) be1 := by
    obtain ⟨y1, y2, y3, y4, y5, y6, y7⟩ := hi2
    exact ⟨by rw [← hw3, xis_set (by decide)]; exact y1, by rw [← hw3, xgR_set (by decide)]; exact y2, by rw [← hw3, xgR_set (by decide)]; exact y3, by rw [← hw3, xgR_set (by decide)]; exact y4, t16, by rw [t 22 (by decide)]; exact y6, by rw [t 23 (by decide)]; exact y7⟩
  have hM3 : JM w3 (vPc f c) (hN n) (hP n H f) hb Sl pd at' od := by
    obtain ⟨z1, z2, z3, z4, z5⟩ := hM2
    refine ⟨z1, ?_, ⟨h', mpc c, be1, t16, hi3.2.2.2.2.2.1, hi3.2.2.2.2.2.2, hmv⟩, z4.fr (t 17 (by decide)), z5.fr (t 18 (by decide)) (t 19 (by decide))⟩
    unfold MO at z2 ⊢
    rw [t 15 (by decide)]
    exact z2
  obtain ⟨q3, r3, d1⟩ := m_counts hi3 (k := 0) (by omega)
  have hbe : BE (mv h' (mpc c)) f := by
    have h1 : BE (mv h' (mpc c)) (MV h') := mv_be h' (mpc c) (mS h')
    rw [hmv] at h1
    exact h1.tr (vPc_b f c)
  rw [← xl0, vNm_be (mv_cn _ _) hcf hbe] at d1
  unfold fX4_adopt
  rw [if_pos hM.o.1, e]
  simp only [ob]
  rw [if_neg (nI_m1 (by omega)), a1]
  simp only [ob]
  rw [m_looksAt hi1 (by omega)]
  simp only [ob]
  rw [c1, d1]
  simp only [ob]
  refine ⟨_, rfl, hM3.pb q3 r3, ?_⟩
  have f1 : xFr fM w1 w3 := by rw [← hw3]; exact (xFr.st _ (by decide)).tr (xFr.st _ (by decide))
  exact (((mW_fr w q r).tr a3).tr f1).tr (mW_fr w3 q3 r3)
theorem m_adopt0 (hM : JM w f n H hb Sl pd at' od) {x : Int32} (hx : vAt (vLs f) x = -1) : ∃ q r, fX4_adopt 15 x w = some (-1, mW w q r) := by
  obtain ⟨N, pl, be, hi, hB, hcf⟩ := hM.ms
  obtain ⟨q, r, e⟩ := m_codeAt hi x
  have e2 : vUp (mv N pl) 729 = vLs f := vLs_be (mv_cn _ _) hcf hB
  rw [e2, hx] at e
  unfold fX4_adopt
  rw [if_pos hM.o.1, e]
  simp only [ob]
  rw [if_pos (by decide +kernel)]
  exact ⟨q, r, rfl⟩
end STN
theorem j_adopt (x : Int32) : JSt (fX3_adopt 0 x) (fX4_adopt 15 x) := by
  intro w pd at' od hJ
  obtain ⟨f, n, H, hb, Sl, hC, hM, hG⟩ := hJ
  have hlen := vLs_len f
  rcases k_pl x (vLs f).length (by omega) with ⟨i, hi, rfl⟩ | ⟨h0, hx⟩
  · obtain ⟨c, hc⟩ : ∃ c, (vLs f)[i]? = some c := ⟨_, List.getElem?_eq_getElem hi⟩
    obtain ⟨hil, hib⟩ := List.getElem?_eq_some_iff.mp hc
    have hc7 : c < 729 := by
      have : c ∈ vLs f := by rw [← hib]; exact List.getElem_mem hil
      exact List.mem_range.mp (List.mem_filter.mp this).1
    obtain ⟨w1, e1, e2, e3⟩ := c_adopt1 hC hG.1 hi hc hc7
    have hat : vAt (vLs f) (nI i) = nI c := by rw [vAt_lt hi (by omega), hib]
    obtain ⟨w2, d1, d2, d3⟩ := m_adopt1 (hM.fr (fC_fr e3)) hat hc7
    exact ⟨_, w1, w2, e1, d1, JJ_of e2 e3 d2 d3 (GG_rec hG hC.1 (Gd_pc hG.1 c))⟩
  · obtain ⟨w1, e1, e2, e3⟩ := c_adopt0 hC hG.1 h0
    have hM1 := hM.fr (fC_fr e3)
    obtain ⟨q, r, d1⟩ := m_adopt0 hM1 (vAt_hi hx)
    exact ⟨_, w1, _, e1, d1, JJ_rd e2 e3 hM1 hG q r⟩
