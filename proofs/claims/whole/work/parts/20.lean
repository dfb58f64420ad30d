/-! THE REFERENCE: its reads, over the class' order of the numbers -/
def mi (k : Nat) : Nat := if k < 3 then k else if k < 12 then k + 54 else k - 9
def mv (N pl : Nat → Int32) : Nat → Int32 := fun k => if k < 66 then N (mi k) else if k < 72 then pl (k - 66) else 0
def mS (N : Nat → Int32) : Nat → Int32 := fun k => if k < 6 then N (66 + k) else 0
def xb3 (x0 x1 x2 : Int32) : Nat → Int32 := fun k => if k = 0 then x0 else if k = 1 then x1 else if k = 2 then x2 else 0
def mpc (c : Nat) : Nat → Int32 := fun k => if k < 6 then nI (c / 3 ^ (5 - k) % 3) else 0
def xIsM (w : XW) (N pl be : Nat → Int32) : Prop := xis w 15 4 = true ∧ xgR w 15 4 0 = some 16 ∧ xgR w 15 4 10 = some 22 ∧ xgR w 15 4 11 = some 23 ∧ w[16]? = some (.inl (0, 72, N)) ∧ w[22]? = some (.inl (0, 6, pl)) ∧ w[23]? = some (.inl (0, 3, be))
theorem mv_cn (N pl : Nat → Int32) : Cn 72 (mv N pl) := fun k h => by unfold mv; rw [if_neg (by omega), if_neg (by omega)]
theorem mv_t (N pl : Nat → Int32) {t : Nat} (h : t < 3) : mv N pl t = N t := by unfold mv mi; rw [if_pos (by omega), if_pos h]
theorem mv_told (N pl : Nat → Int32) {m t : Nat} (hm : m < 3) (ht : t < 3) : mv N pl (3 + 3 * m + t) = N (57 + 3 * m + t) := by
  unfold mv mi
  rw [if_pos (by omega), if_neg (by omega), if_pos (by omega)]
  congr 1; omega
theorem mv_P (N pl : Nat → Int32) {s t m b : Nat} (hs : s < 2) (ht : t < 3) (hm : m < 3) (hb : b < 3) : vP (mv N pl) s t m b = N (3 + 27 * s + 9 * t + 3 * m + b) := by
  unfold vP mv mi
  rw [if_pos (by omega), if_neg (by omega), if_neg (by omega)]
  congr 1; omega
theorem mv_pl (N pl : Nat → Int32) {i : Nat} (h : i < 6) : mv N pl (66 + i) = pl i := by
  unfold mv
  rw [if_neg (by omega), if_pos (by omega)]
  congr 1; omega
theorem mv_pc (N pl : Nat → Int32) (c : Nat) : mv N (mpc c) = vPc (mv N pl) c := by
  funext k
  unfold mv mpc vPc
  by_cases h1 : k < 66
  · rw [if_pos h1, if_neg (by omega)]
    exact (if_pos h1).symm
  · rw [if_neg h1]
    by_cases h2 : k < 72
    · rw [if_pos h2, if_pos (by omega), if_pos (by omega), show 5 - (k - 66) = 71 - k by omega]
    · rw [if_neg h2, if_neg (by omega)]
      show 0 = (if k < 66 then N (mi k) else if k < 72 then pl (k - 66) else 0)
      rw [if_neg h1, if_neg h2]
theorem mv_be (N pl pl2 : Nat → Int32) : BE (mv N pl) (mv N pl2) := fun k h => by unfold mv; rw [if_pos h, if_pos h]
theorem vHasZ : ∀ b0 b1 b2 : Bool, ∀ k : Fin 3, (((xbs b0 b1 b2 >>> (nI k.val &&& 31)) &&& 1) = 0) ↔ vHas (xbs b0 b1 b2) k.val = false := by decide +kernel
section MOD
variable {w : XW} {N pl be : Nat → Int32}
theorem xIsM.setB (h : xIsM w N pl be) (g : Nat → Int32) : xIsM (w.set 23 (.inl (0, 3, g))) N pl g := by
  obtain ⟨h1, h2, h3, h4, h5, h6, h7⟩ := h
  exact ⟨by rw [xis_set (by decide)]; exact h1, by rw [xgR_set (by decide)]; exact h2, by rw [xgR_set (by decide)]; exact h3, by rw [xgR_set (by decide)]; exact h4, by rw [xset_get _ (by decide)]; exact h5, by rw [xset_get _ (by decide)]; exact h6, xset_self h7⟩
theorem xIsM.setP (h : xIsM w N pl be) (g : Nat → Int32) : xIsM (w.set 22 (.inl (0, 6, g))) N g be := by
  obtain ⟨h1, h2, h3, h4, h5, h6, h7⟩ := h
  exact ⟨by rw [xis_set (by decide)]; exact h1, by rw [xgR_set (by decide)]; exact h2, by rw [xgR_set (by decide)]; exact h3, by rw [xgR_set (by decide)]; exact h4, by rw [xset_get _ (by decide)]; exact h5, xset_self h6, by rw [xset_get _ (by decide)]; exact h7⟩
theorem m_place (s t m b : Nat) (w : XW) : fX4_place (nI s) (nI t) (nI m) (nI b) w = some (nI (3 + 27 * s + 9 * t + 3 * m + b), w) := by
  unfold fX4_place
  rw [xl3, xl27, show (9 : Int32) = nI 9 by decide +kernel]
  simp only [pk_mul, nI_add]
theorem m_isThere (h : xIsM w N pl be) {t : Nat} (ht : t < 3) : fX4_isThere 15 (nI t) w = some (if vH (mv N pl) t then 1 else 0, w) := by
  unfold fX4_isThere vH
  rw [if_pos h.1, h.2.1]
  simp only [ob]
  rw [xaI_ok h.2.2.2.2.1 (by omega) (by omega), mv_t N pl ht]
  simp only [ob]
  by_cases hz : N t ≤ 0 <;> simp [hz]
theorem m_ans (h : xIsM w N pl be) (hv : Vd (mv N pl)) {m : Nat} (hm : m < 3) : xaI w 22 ((3 : Int32) + nI m) = some (nI (vA (mv N pl) m)) := by
  rw [xl3, nI_add, xaI_ok h.2.2.2.2.2.1 (by omega) (by omega), ← mv_pl N pl (by omega), ← (hv.A hm).1]
  congr 2; omega
theorem m_msg (h : xIsM w N pl be) (hv : Vd (mv N pl)) {t : Nat} (ht : t < 3) : xaI w 22 (nI t) = some (nI (vM (mv N pl) t)) := by
  rw [xaI_ok h.2.2.2.2.2.1 (by omega) (by omega), ← mv_pl N pl (by omega), ← (hv.M ht).1]
theorem m_has (h : xIsM w N pl be) (hv : Vd (mv N pl)) {t m : Nat} (ht : t < 3) (hm : m < 3) : fX4_has 15 (nI t) (nI m) w = some (vPf (mv N pl) t m, w) := by
  have hA := (hv.A hm).2
  unfold fX4_has vPf
  rw [if_pos h.1, h.2.1]
  simp only [ob]
  rw [h.2.2.1]
  simp only [ob]
  rw [m_ans h hv hm]
  simp only [ob]
  rw [xl0, m_place]
  simp only [ob]
  rw [xaI_ok h.2.2.2.2.1 (by omega) (by omega), mv_P N pl (by omega) ht hm hA]
  simp only [ob]
theorem m_most (h : xIsM w N pl be) (hv : Vd (mv N pl)) {t : Nat} (ht : t < 3) : fX4_most 15 (nI t) w = some (nI (vDe (mv N pl) t), w) := by
  have c0 : fX4_has 15 (nI t) 0 w = _ := m_has h hv (m := 0) ht (by omega)
  have c1 : fX4_has 15 (nI t) 1 w = _ := m_has h hv (m := 1) ht (by omega)
  have c2 : fX4_has 15 (nI t) 2 w = _ := m_has h hv (m := 2) ht (by omega)
  unfold fX4_most vDe vD1
  rw [if_pos h.1]
  generalize mv N pl = f at c0 c1 c2 ⊢
  simp [fX4_most_4, c0, c1, c2]
  by_cases a1 : vPf f t 1 ≤ vPf f t 0
  · by_cases a2 : vPf f t 2 ≤ vPf f t 0 <;> simp [a1, a2, c0, c1, c2] <;> rfl
  · by_cases a2 : vPf f t 2 ≤ vPf f t 1 <;> simp [a1, a2, c0, c1, c2] <;> rfl
theorem m_payoffOf (h : xIsM w N pl be) (hv : Vd (mv N pl)) {t : Nat} (ht : t < 3) : fX4_payoffOf 15 (nI t) w = some (vOw (mv N pl) t, w) := by
  unfold fX4_payoffOf vOw
  rw [if_pos h.1, h.2.2.1]
  simp only [ob]
  rw [m_msg h hv ht]
  simp only [ob]
  rw [m_has h hv ht (hv.M ht).2]
  simp only [ob]
theorem m_unhappy (h : xIsM w N pl be) (hv : Vd (mv N pl)) : fX4_unhappy 15 w = some (vLo (mv N pl), w) := by
  have step : ∀ (g t : Nat), t < 3 → fX4_unhappy_2 (g + 1) 15 (nI t) w = if vUn (mv N pl) t then some (nI t, w) else fX4_unhappy_2 g 15 (nI (t + 1)) w := by
    intro g t ht
    have hpay := m_payoffOf h hv ht
    have hhas := m_has h hv ht (vDe_lt (mv N pl) t)
    obtain ⟨d, hd⟩ : ∃ d, vDe (mv N pl) t = d := ⟨_, rfl⟩
    unfold vUn
    rw [hd] at hhas ⊢
    rw [fX4_unhappy_2, if_neg (by rw [xl3]; exact nI_ge ht (by omega)), m_isThere h ht]
    simp only [ob]
    rw [m_most h hv ht, hd]
    simp only [ob]
    rw [hhas]
    simp only [ob]
    rw [hpay]
    simp only [ob, nI_1]
    cases vH (mv N pl) t
    · rw [if_pos (by decide +kernel)]; simp only [Bool.false_and, Bool.false_eq_true, if_false]
    · rw [if_neg (by decide +kernel)]
      by_cases a2 : vPf (mv N pl) t d ≤ vOw (mv N pl) t <;> simp [a2]
  unfold fX4_unhappy vLo
  rw [if_pos h.1, show fX4_unhappy_2 1000 15 0 w = fX4_unhappy_2 (999 + 1) 15 (nI 0) w by rw [← xl0], step 999 0 (by omega), step 998 1 (by omega), step 997 2 (by omega)]
  cases vUn (mv N pl) 0
  · cases vUn (mv N pl) 1
    · cases vUn (mv N pl) 2
      · simp only [Bool.false_eq_true, if_false]
        rw [fX4_unhappy_2, if_pos (by decide +kernel)]
      · simp; rfl
    · simp; rfl
  · simp; rfl
theorem m_senders (h : xIsM w N pl be) (m : Nat) : fX4_senders 15 (nI m) w = some (xbs (vS (mv N pl) m 0) (vS (mv N pl) m 1) (vS (mv N pl) m 2), w) := by
  have step : ∀ (g t : Nat) (y : Int32), t < 3 → fX4_senders_4 (g + 1) 15 (nI m) y (nI t) w = fX4_senders_4 g 15 (nI m) (if vS (mv N pl) m t then y ||| ((1 : Int32) <<< (nI t &&& 31)) else y ||| 0) (nI (t + 1)) w := by
    intro g t y ht
    rw [fX4_senders_4, if_neg (by rw [xl3]; exact nI_ge ht (by omega)), m_isThere h ht]
    simp only [ob, nI_1]
    rw [h.2.2.1]
    simp only [ob]
    rw [xaI_ok h.2.2.2.2.2.1 (by omega) (by omega)]
    simp only [ob]
    unfold vS
    rw [mv_pl N pl (by omega)]
    cases vH (mv N pl) t
    · rw [if_pos (by decide +kernel)]; rfl
    · rw [if_neg (by decide +kernel)]
      by_cases e : pl t = nI m
      · rw [if_pos e, decide_eq_true e]; rfl
      · rw [if_neg e, decide_eq_false e]; rfl
  unfold fX4_senders
  rw [if_pos h.1, show fX4_senders_4 1000 15 (nI m) 0 0 w = fX4_senders_4 (999 + 1) 15 (nI m) 0 (nI 0) w by rw [← xl0], step 999 0 _ (by omega), step 998 1 _ (by omega), step 997 2 _ (by omega), fX4_senders_4, if_pos (by decide +kernel)]
  congr 2
  cases vS (mv N pl) m 0 <;> cases vS (mv N pl) m 1 <;> cases vS (mv N pl) m 2 <;> decide +kernel
theorem m_there (h : xIsM w N pl be) : fX4_there 15 w = some (xbs (vH (mv N pl) 0) (vH (mv N pl) 1) (vH (mv N pl) 2), w) := by
  have step : ∀ (g t : Nat) (y : Int32), t < 3 → fX4_there_4 (g + 1) 15 y (nI t) w = fX4_there_4 g 15 (if vH (mv N pl) t then y ||| ((1 : Int32) <<< (nI t &&& 31)) else y ||| 0) (nI (t + 1)) w := by
    intro g t y ht
    rw [fX4_there_4, if_neg (by rw [xl3]; exact nI_ge ht (by omega)), m_isThere h ht]
    simp only [ob, nI_1]
    cases vH (mv N pl) t
    · rw [if_pos (by decide +kernel)]; rfl
    · rw [if_neg (by decide +kernel)]; rfl
  unfold fX4_there
  rw [if_pos h.1, show fX4_there_4 1000 15 0 0 w = fX4_there_4 (999 + 1) 15 0 (nI 0) w by rw [← xl0], step 999 0 _ (by omega), step 998 1 _ (by omega), step 997 2 _ (by omega), fX4_there_4, if_pos (by decide +kernel)]
  congr 2
  cases vH (mv N pl) 0 <;> cases vH (mv N pl) 1 <;> cases vH (mv N pl) 2 <;> decide +kernel
theorem xb3_0 (x0 x1 x2 : Int32) : xb3 x0 x1 x2 0 = x0 := rfl
theorem xb3_1 (x0 x1 x2 : Int32) : xb3 x0 x1 x2 1 = x1 := rfl
theorem xb3_2 (x0 x1 x2 : Int32) : xb3 x0 x1 x2 2 = x2 := rfl
theorem xb3_run (g : Nat → Int32) (x0 x1 x2 : Int32) : xct 3 (upd (xct 3 (upd (xct 3 (upd g 0 x0)) 1 x1)) 2 x2) = xb3 x0 x1 x2 := by
  funext k
  unfold xct upd xb3
  by_cases h0 : k = 0
  · subst h0; rfl
  by_cases h1 : k = 1
  · subst h1; rfl
  by_cases h2 : k = 2
  · subst h2; rfl
  rw [if_neg (by omega), if_neg h0, if_neg h1, if_neg h2]
theorem m_believes (h : xIsM w N pl be) {m : Nat} (hm : m < 3) : fX4_believes 15 (nI m) w = some (w.set 23 (.inl (0, 3, xb3 (vB (mv N pl) m 0) (vB (mv N pl) m 1) (vB (mv N pl) m 2)))) := by
  have e : (xbs (vS (mv N pl) m 0) (vS (mv N pl) m 1) (vS (mv N pl) m 2) = 0) = (vAny (mv N pl) m = false) := propext (xbs_0 _ _ _)
  have step : ∀ (g t : Nat) (b : Nat → Int32), t < 3 → fX4_believes_8 (g + 1) 15 (nI m) (xbs (vS (mv N pl) m 0) (vS (mv N pl) m 1) (vS (mv N pl) m 2)) (nI t) (w.set 23 (.inl (0, 3, b))) = fX4_believes_8 g 15 (nI m) (xbs (vS (mv N pl) m 0) (vS (mv N pl) m 1) (vS (mv N pl) m 2)) (nI (t + 1)) (w.set 23 (.inl (0, 3, xct 3 (upd b t (vB (mv N pl) m t))))) := by
    intro g t b ht
    have hb := h.setB b
    have eh : vHas (xbs (vS (mv N pl) m 0) (vS (mv N pl) m 1) (vS (mv N pl) m 2)) t = vS (mv N pl) m t := by rw [vHas_t ht]; rcases lt3 ht with rfl | rfl | rfl <;> rfl
    have eh2 : (((xbs (vS (mv N pl) m 0) (vS (mv N pl) m 1) (vS (mv N pl) m 2)) >>> (nI t &&& 31)) &&& 1 = 1) = (vS (mv N pl) m t = true) := by
      rw [← eh]
      unfold vHas
      exact propext (by rw [decide_eq_true_eq])
    have hp : (57 : Int32) + (3 : Int32) * nI m + nI t = nI (57 + 3 * m + t) := by rw [xl3, show (57 : Int32) = nI 57 by decide +kernel, pk_mul, nI_add, nI_add]
    rw [fX4_believes_8, if_neg (by rw [xl3]; exact nI_ge ht (by omega)), hb.2.2.2.1]
    simp only [ob, nI_1, e, eh2]
    rw [hb.2.1]
    simp only [ob]
    rw [hp, xaI_ok hb.2.2.2.2.1 (by omega) (by omega)]
    simp only [ob]
    rw [xaI_ok hb.2.2.2.2.1 (by omega) (by omega)]
    simp only [ob]
    rw [xsI_ok hb.2.2.2.2.2.2 (by omega) (by omega), xsI_ok hb.2.2.2.2.2.2 (by omega) (by omega), xsI_ok hb.2.2.2.2.2.2 (by omega) (by omega)]
    simp only [ob, List.set_set]
    unfold vB
    rw [mv_told N pl hm ht, mv_t N pl ht]
    cases vAny (mv N pl) m
    · rw [if_pos rfl, if_neg (by decide)]
    · rw [if_neg (by decide), if_pos rfl]
      cases vS (mv N pl) m t
      · rw [if_neg (by decide), if_neg (by decide)]
      · rw [if_pos rfl, if_pos rfl]
  unfold fX4_believes
  rw [if_pos h.1, m_senders h m]
  simp only [ob]
  have s0 := step 999 0 be (by omega)
  rw [xset_same h.2.2.2.2.2.2] at s0
  rw [show fX4_believes_8 1000 15 (nI m) (xbs (vS (mv N pl) m 0) (vS (mv N pl) m 1) (vS (mv N pl) m 2)) 0 w = fX4_believes_8 (999 + 1) 15 (nI m) (xbs (vS (mv N pl) m 0) (vS (mv N pl) m 1) (vS (mv N pl) m 2)) (nI 0) w by rw [← xl0], s0, step 998 1 _ (by omega), step 997 2 _ (by omega), fX4_believes_8, if_pos (by decide +kernel), xb3_run]
theorem m_worth (h : xIsM w N pl be) {m b : Nat} (hm : m < 3) (hb : b < 3) : fX4_worth 15 (nI m) (nI b) w = some (vWo (mv N pl) m b (be 0) (be 1) (be 2), w) := by
  have step : ∀ (g t : Nat) (y : Int32), t < 3 → fX4_worth_5 (g + 1) 15 (nI m) (nI b) y (nI t) w = fX4_worth_5 g 15 (nI m) (nI b) (y + be t * vP (mv N pl) 1 t m b) (nI (t + 1)) w := by
    intro g t y ht
    rw [fX4_worth_5, if_neg (by rw [xl3]; exact nI_ge ht (by omega)), h.2.2.2.1]
    simp only [ob]
    rw [xaI_ok h.2.2.2.2.2.2 (by omega) (by omega), h.2.1]
    simp only [ob]
    rw [xl1, m_place]
    simp only [ob]
    rw [xaI_ok h.2.2.2.2.1 (by omega) (by omega), ← xl1, nI_1, mv_P N pl (by omega) ht hm hb]
    simp only [ob]
  unfold fX4_worth vWo
  rw [if_pos h.1, show fX4_worth_5 1000 15 (nI m) (nI b) 0 0 w = fX4_worth_5 (999 + 1) 15 (nI m) (nI b) 0 (nI 0) w by rw [← xl0], step 999 0 _ (by omega), step 998 1 _ (by omega), step 997 2 _ (by omega), fX4_worth_5, if_pos (by decide +kernel), Int32.zero_add]
theorem m_bestSet (h : xIsM w N pl be) {m : Nat} (hm : m < 3) : fX4_bestSet 15 (nI m) w = some (vBest (mv N pl) m (be 0) (be 1) (be 2), w) := by
  have c0 : fX4_worth 15 (nI m) 0 w = _ := m_worth h (b := 0) hm (by omega)
  have c1 : fX4_worth 15 (nI m) 1 w = _ := m_worth h (b := 1) hm (by omega)
  have c2 : fX4_worth 15 (nI m) 2 w = _ := m_worth h (b := 2) hm (by omega)
  unfold fX4_bestSet vBest
  rw [if_pos h.1]
  generalize vWo (mv N pl) m 0 (be 0) (be 1) (be 2) = y0 at c0 ⊢
  generalize vWo (mv N pl) m 1 (be 0) (be 1) (be 2) = y1 at c1 ⊢
  generalize vWo (mv N pl) m 2 (be 0) (be 1) (be 2) = y2 at c2 ⊢
  rw [← vB3_run]
  simp [fX4_bestSet_12, c0, c1, c2]
  by_cases a1 : y1 ≤ y0 <;> by_cases a2 : y1 = y0 <;> by_cases a3 : y2 ≤ y0 <;> by_cases a4 : y2 = y0 <;> by_cases a5 : y2 ≤ y1 <;> by_cases a6 : y2 = y1 <;> simp [a1, a2, a3, a4, a5, a6] <;> (split <;> (try split) <;> simp_all)
theorem m_best (h : xIsM w N pl be) {m : Nat} (hm : m < 3) : fX4_best 15 (nI m) w = some (vBA (mv N pl) m, w.set 23 (.inl (0, 3, xb3 (vB (mv N pl) m 0) (vB (mv N pl) m 1) (vB (mv N pl) m 2)))) := by
  unfold fX4_best vBA
  rw [if_pos h.1, m_believes h hm]
  simp only [ob]
  rw [m_bestSet (h.setB _) hm]
  simp only [ob, xb3_0, xb3_1, xb3_2]
end MOD
