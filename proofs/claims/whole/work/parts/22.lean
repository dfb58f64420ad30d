/-! THE REFERENCE: sort, receives, codes -/
theorem k_bits : ∀ (H0 H1 H2 : Bool) (M0 M1 M2 : Fin 3), (((((0 : Int32) ||| (if H0 then ((1 : Int32) <<< (nI M0.val &&& 31)) else 0)) ||| (if H1 then ((1 : Int32) <<< (nI M1.val &&& 31)) else 0)) ||| (if H2 then ((1 : Int32) <<< (nI M2.val &&& 31)) else 0)) &&& 1) + (((((0 : Int32) ||| (if H0 then ((1 : Int32) <<< (nI M0.val &&& 31)) else 0)) ||| (if H1 then ((1 : Int32) <<< (nI M1.val &&& 31)) else 0)) ||| (if H2 then ((1 : Int32) <<< (nI M2.val &&& 31)) else 0)) >>> ((1 : Int32) &&& 31) &&& 1) + ((((0 : Int32) ||| (if H0 then ((1 : Int32) <<< (nI M0.val &&& 31)) else 0)) ||| (if H1 then ((1 : Int32) <<< (nI M1.val &&& 31)) else 0)) ||| (if H2 then ((1 : Int32) <<< (nI M2.val &&& 31)) else 0)) >>> ((2 : Int32) &&& 31) = vCn ((H0 && decide (M0.val = 0)) || (H1 && decide (M1.val = 0)) || (H2 && decide (M2.val = 0))) ((H0 && decide (M0.val = 1)) || (H1 && decide (M1.val = 1)) || (H2 && decide (M2.val = 1))) ((H0 && decide (M0.val = 2)) || (H1 && decide (M1.val = 2)) || (H2 && decide (M2.val = 2))) := by decide +kernel
theorem k_cnt : ∀ (H0 H1 H2 : Bool), (((0 : Int32) + (if H0 then 1 else 0)) + (if H1 then 1 else 0)) + (if H2 then 1 else 0) = vCn H0 H1 H2 := by decide +kernel
theorem vS_m {f : Nat → Int32} (hv : Vd f) {t : Nat} (ht : t < 3) {m : Nat} (hm : m < 3) : vS f m t = (vH f t && decide (vM f t = m)) := by
  have h1 := (hv.M ht).1
  have h2 := (hv.M ht).2
  unfold vS
  rw [h1]
  congr 1
  exact decide_eq_decide.mpr (nI_eq (by omega) (by omega))
section MOD3
variable {w : XW} {N pl be : Nat → Int32}
theorem m_sort (h : xIsM w N pl be) (hv : Vd (mv N pl)) : fX4_sort 15 w = some (vKi (mv N pl), w) := by
  have step : ∀ (g t : Nat) (i1 i2 : Int32), t < 3 → fX4_sort_6 (g + 1) 15 i1 i2 (nI t) w = fX4_sort_6 g 15 (i1 + (if vH (mv N pl) t then 1 else 0)) (i2 ||| (if vH (mv N pl) t then ((1 : Int32) <<< (nI (vM (mv N pl) t) &&& 31)) else 0)) (nI (t + 1)) w := by
    intro g t i1 i2 ht
    have hmm := m_msg h hv ht
    rw [fX4_sort_6, if_neg (by rw [xl3]; exact nI_ge ht (by omega)), m_isThere h ht]
    simp only [ob, nI_1]
    rw [m_isThere h ht]
    simp only [ob]
    rw [h.2.2.1]
    simp only [ob]
    rw [hmm]
    simp only [ob]
    cases vH (mv N pl) t
    · rw [if_pos (by decide +kernel), if_pos (by decide +kernel), if_neg (by decide), if_neg (by decide)]
    · rw [if_neg (by decide +kernel), if_neg (by decide +kernel), if_pos rfl, if_pos rfl]
  unfold fX4_sort vKi
  rw [if_pos h.1, show fX4_sort_6 1000 15 0 0 0 w = fX4_sort_6 (999 + 1) 15 0 0 (nI 0) w by rw [← xl0], step 999 0 _ _ (by omega), step 998 1 _ _ (by omega), step 997 2 _ _ (by omega), fX4_sort_6, if_pos (by decide +kernel)]
  have hb := k_bits (vH (mv N pl) 0) (vH (mv N pl) 1) (vH (mv N pl) 2) ⟨vM (mv N pl) 0, (hv.M (t := 0) (by omega)).2⟩ ⟨vM (mv N pl) 1, (hv.M (t := 1) (by omega)).2⟩ ⟨vM (mv N pl) 2, (hv.M (t := 2) (by omega)).2⟩
  simp only at hb
  rw [hb, k_cnt]
  unfold vAny
  rw [vS_m hv (t := 0) (by omega) (m := 0) (by omega), vS_m hv (t := 1) (by omega) (m := 0) (by omega), vS_m hv (t := 2) (by omega) (m := 0) (by omega), vS_m hv (t := 0) (by omega) (m := 1) (by omega), vS_m hv (t := 1) (by omega) (m := 1) (by omega), vS_m hv (t := 2) (by omega) (m := 1) (by omega), vS_m hv (t := 0) (by omega) (m := 2) (by omega), vS_m hv (t := 1) (by omega) (m := 2) (by omega), vS_m hv (t := 2) (by omega) (m := 2) (by omega)]
  by_cases c1 : vCn ((vH (mv N pl) 0 && decide (vM (mv N pl) 0 = 0)) || (vH (mv N pl) 1 && decide (vM (mv N pl) 1 = 0)) || (vH (mv N pl) 2 && decide (vM (mv N pl) 2 = 0))) ((vH (mv N pl) 0 && decide (vM (mv N pl) 0 = 1)) || (vH (mv N pl) 1 && decide (vM (mv N pl) 1 = 1)) || (vH (mv N pl) 2 && decide (vM (mv N pl) 2 = 1))) ((vH (mv N pl) 0 && decide (vM (mv N pl) 0 = 2)) || (vH (mv N pl) 1 && decide (vM (mv N pl) 1 = 2)) || (vH (mv N pl) 2 && decide (vM (mv N pl) 2 = 2))) = 1
  · rw [if_pos c1, if_pos c1]
  · rw [if_neg c1, if_neg c1]
    by_cases c2 : vCn ((vH (mv N pl) 0 && decide (vM (mv N pl) 0 = 0)) || (vH (mv N pl) 1 && decide (vM (mv N pl) 1 = 0)) || (vH (mv N pl) 2 && decide (vM (mv N pl) 2 = 0))) ((vH (mv N pl) 0 && decide (vM (mv N pl) 0 = 1)) || (vH (mv N pl) 1 && decide (vM (mv N pl) 1 = 1)) || (vH (mv N pl) 2 && decide (vM (mv N pl) 2 = 1))) ((vH (mv N pl) 0 && decide (vM (mv N pl) 0 = 2)) || (vH (mv N pl) 1 && decide (vM (mv N pl) 1 = 2)) || (vH (mv N pl) 2 && decide (vM (mv N pl) 2 = 2))) = vCn (vH (mv N pl) 0) (vH (mv N pl) 1) (vH (mv N pl) 2)
    · rw [if_pos c2, if_pos c2]
    · rw [if_neg c2, if_neg c2]
theorem m_receives (h : xIsM w N pl be) (hv : Vd (mv N pl)) : fX4_receives 15 w = some (vRs (mv N pl), w) := by
  have step : ∀ (g t : Nat) (i1 : Int32), t < 3 → fX4_receives_4 (g + 1) 15 i1 (nI t) w = fX4_receives_4 g 15 (i1 + vR1 (mv N pl) t) (nI (t + 1)) w := by
    intro g t i1 ht
    have hmm := m_msg h hv ht
    have hM := (hv.M ht).2
    have haa := m_ans h hv hM
    have hA := (hv.A hM).2
    rw [fX4_receives_4, if_neg (by rw [xl3]; exact nI_ge ht (by omega)), h.2.1, h.2.2.1]
    simp only [ob]
    rw [xaI_ok h.2.2.2.2.1 (by omega) (by omega), hmm]
    simp only [ob]
    rw [haa]
    simp only [ob]
    rw [show (1 : Int32) = nI 1 from xl1, m_place]
    simp only [ob]
    rw [xaI_ok h.2.2.2.2.1 (by omega) (by omega), ← mv_P N pl (s := 1) (by omega) ht hM hA, ← mv_t N pl ht]
    simp only [ob]
    rw [nI_add]
    rfl
  unfold fX4_receives vRs
  rw [if_pos h.1, show fX4_receives_4 1000 15 0 0 w = fX4_receives_4 (999 + 1) 15 0 (nI 0) w by rw [← xl0], step 999 0 _ (by omega), step 998 1 _ (by omega), step 997 2 _ (by omega), fX4_receives_4, if_pos (by decide +kernel)]
theorem m_code (h : xIsM w N pl be) (hv : Vd (mv N (mS N))) : fX4_code 15 w = some (nI (vCd (mv N (mS N))), w) := by
  have step : ∀ (g i x n : Nat), i < 6 → mv N (mS N) (66 + i) = nI n → fX4_code_4 (g + 1) 15 (nI x) (nI i) w = fX4_code_4 g 15 (nI (x * 3 + n)) (nI (i + 1)) w := by
    intro g i x n hi hn
    rw [mv_pl N (mS N) hi] at hn
    unfold mS at hn
    rw [if_pos hi] at hn
    rw [fX4_code_4, if_neg (by rw [show (6 : Int32) = nI 6 by decide +kernel]; exact nI_ge hi (by omega)), h.2.1]
    simp only [ob]
    rw [xl66, nI_add, xaI_ok h.2.2.2.2.1 (by omega) (by omega)]
    simp only [ob]
    rw [hn, xl3, pk_mul, nI_add, nI_1, Nat.mul_comm 3 x]
  unfold fX4_code vCd
  rw [if_pos h.1, show fX4_code_4 1000 15 0 0 w = fX4_code_4 (999 + 1) 15 (nI 0) (nI 0) w by rw [← xl0]]
  rw [step 999 0 0 _ (by omega) (hv.M (t := 0) (by omega)).1, step 998 1 _ _ (by omega) (hv.M (t := 1) (by omega)).1, step 997 2 _ _ (by omega) (hv.M (t := 2) (by omega)).1, step 996 3 _ _ (by omega) (hv.A (m := 0) (by omega)).1, step 995 4 _ _ (by omega) (hv.A (m := 1) (by omega)).1, step 994 5 _ _ (by omega) (hv.A (m := 2) (by omega)).1]
  rw [fX4_code_4, if_pos (by decide +kernel), Nat.zero_mul, Nat.zero_add]
def mpk (pl : Nat → Int32) (c j : Nat) : Nat → Int32 := fun k => if k < 6 then (if 6 ≤ k + j then nI (c / 3 ^ (5 - k) % 3) else pl k) else (if j = 0 then pl k else 0)
theorem k_rem {n : Nat} (h : n < 2 ^ 31) : nI n - nI n / 3 * 3 = nI (n % 3) := by
  rw [xl3, pk_div h (by omega) (by omega), pk_mul]
  have : nI n = nI (n % 3) + nI (n / 3 * 3) := by rw [nI_add]; congr 1; omega
  rw [this]
  exact Int32.add_sub_cancel _ _
theorem m_looksAt (h : xIsM w N pl be) {c : Nat} (hlt : c < 2 ^ 31) : fX4_looksAt 15 (nI c) w = some (w.set 22 (.inl (0, 6, mpc c))) := by
  have step : ∀ (g j : Nat), j < 6 → fX4_looksAt_4 (g + 1) 15 (nI (c / 3 ^ j)) (nI (5 - j)) (w.set 22 (.inl (0, 6, mpk pl c j))) = fX4_looksAt_4 g 15 (nI (c / 3 ^ (j + 1))) (nI (5 - j) + (-1)) (w.set 22 (.inl (0, 6, mpk pl c (j + 1)))) := by
    intro g j hj
    have hq : c / 3 ^ j < 2 ^ 31 := Nat.lt_of_le_of_lt (Nat.div_le_self _ _) hlt
    have h1 := h.setP (mpk pl c j)
    rw [fX4_looksAt_4, if_neg (by rw [xl0]; exact nI_nlt (by omega) (by omega)), h1.2.2.1]
    simp only [ob]
    rw [k_rem hq, xsI_ok h1.2.2.2.2.2.1 (by omega) (by omega)]
    simp only [ob]
    rw [List.set_set, xl3, pk_div hq (by omega) (by omega), Nat.div_div_eq_div_mul, ← Nat.pow_succ]
    congr 4
    rw [show xct 6 (upd (mpk pl c j) (5 - j) (nI (c / 3 ^ j % 3))) = mpk pl c (j + 1) from ?_]
    funext k
    unfold xct upd mpk
    by_cases h72 : k < 6
    · rw [if_pos h72, if_pos h72, if_pos h72]
      by_cases hk : k = 5 - j
      · rw [if_pos hk, if_pos (by omega), show 5 - k = j by omega]
      · rw [if_neg hk]
        by_cases hk2 : 6 ≤ k + j
        · rw [if_pos hk2, if_pos (by omega)]
        · rw [if_neg (by omega), if_neg (by omega)]
    · rw [if_neg h72, if_neg h72, if_neg (by omega)]
  unfold fX4_looksAt
  rw [if_pos h.1]
  have e0 : mpk pl c 0 = pl := by
    funext k
    unfold mpk
    by_cases h72 : k < 6
    · rw [if_pos h72, if_neg (by omega)]
    · rw [if_neg h72, if_pos rfl]
  have e6 : mpk pl c 6 = mpc c := by
    funext k
    unfold mpk mpc
    by_cases hk : k < 6
    · rw [if_pos hk, if_pos (by omega), if_pos hk]
    · rw [if_neg hk, if_neg (by omega), if_neg hk]
  have s0 := step 999 0 (by omega)
  rw [e0, xset_same h.2.2.2.2.2.1, Nat.pow_zero, Nat.div_one] at s0
  rw [show fX4_looksAt_4 1000 15 (nI c) 5 w = fX4_looksAt_4 (999 + 1) 15 (nI c) (nI (5 - 0)) w by rw [show (5 : Int32) = nI (5 - 0) by decide +kernel]]
  have d : ∀ j : Nat, j < 5 → nI (5 - j) + (-1) = nI (5 - (j + 1)) := by
    intro j hj
    rw [show 5 - j = (5 - (j + 1)) + 1 by omega, pk_m1]
  rw [s0, d 0 (by omega), step 998 1 (by omega), d 1 (by omega), step 997 2 (by omega), d 2 (by omega), step 996 3 (by omega), d 3 (by omega), step 995 4 (by omega), d 4 (by omega), step 994 5 (by omega), fX4_looksAt_4, if_pos (by decide +kernel), e6]
theorem vCd_mS (N : Nat → Int32) (hv : Vd (mv N (mS N))) : mpc (vCd (mv N (mS N))) = mS N := by
  have e : ∀ i, i < 6 → mv N (mS N) (66 + i) = N (66 + i) := by
    intro i hi
    rw [mv_pl N (mS N) hi]
    unfold mS
    rw [if_pos hi]
  have m0 := hv.M (t := 0) (by omega)
  have m1 := hv.M (t := 1) (by omega)
  have m2 := hv.M (t := 2) (by omega)
  have a0 := hv.A (m := 0) (by omega)
  have a1 := hv.A (m := 1) (by omega)
  have a2 := hv.A (m := 2) (by omega)
  rw [e 0 (by omega)] at m0
  rw [e 1 (by omega)] at m1
  rw [e 2 (by omega)] at m2
  rw [show 69 + 0 = 66 + 3 from rfl, e 3 (by omega)] at a0
  rw [show 69 + 1 = 66 + 4 from rfl, e 4 (by omega)] at a1
  rw [show 69 + 2 = 66 + 5 from rfl, e 5 (by omega)] at a2
  unfold vCd
  generalize vM (mv N (mS N)) 0 = x0 at m0 ⊢
  generalize vM (mv N (mS N)) 1 = x1 at m1 ⊢
  generalize vM (mv N (mS N)) 2 = x2 at m2 ⊢
  generalize vA (mv N (mS N)) 0 = x3 at a0 ⊢
  generalize vA (mv N (mS N)) 1 = x4 at a1 ⊢
  generalize vA (mv N (mS N)) 2 = x5 at a2 ⊢
  funext k
  unfold mpc mS
  by_cases hk : k < 6
  · rw [if_pos hk, if_pos hk]
    obtain ⟨m01, m02⟩ := m0
    obtain ⟨m11, m12⟩ := m1
    obtain ⟨m21, m22⟩ := m2
    obtain ⟨a01, a02⟩ := a0
    obtain ⟨a11, a12⟩ := a1
    obtain ⟨a21, a22⟩ := a2
    have : k = 0 ∨ k = 1 ∨ k = 2 ∨ k = 3 ∨ k = 4 ∨ k = 5 := by omega
    rcases this with rfl | rfl | rfl | rfl | rfl | rfl
    · rw [m01, show 3 ^ (5 - 0) = 243 from rfl]; congr 1; omega
    · rw [m11, show 3 ^ (5 - 1) = 81 from rfl]; congr 1; omega
    · rw [m21, show 3 ^ (5 - 2) = 27 from rfl]; congr 1; omega
    · rw [a01, show 3 ^ (5 - 3) = 9 from rfl]; congr 1; omega
    · rw [a11, show 3 ^ (5 - 4) = 3 from rfl]; congr 1; omega
    · rw [a21, show 3 ^ (5 - 5) = 1 from rfl]; congr 1; omega
  · rw [if_neg hk, if_neg hk]
theorem vCd_lt {f : Nat → Int32} (hv : Vd f) : vCd f < 729 := by
  have m0 := (hv.M (t := 0) (by omega)).2
  have m1 := (hv.M (t := 1) (by omega)).2
  have m2 := (hv.M (t := 2) (by omega)).2
  have a0 := (hv.A (m := 0) (by omega)).2
  have a1 := (hv.A (m := 1) (by omega)).2
  have a2 := (hv.A (m := 2) (by omega)).2
  unfold vCd
  omega
theorem m_looks (h : xIsM w N pl be) (hv : Vd (mv N (mS N))) : fX4_looks 15 w = some (w.set 22 (.inl (0, 6, mS N))) := by
  unfold fX4_looks
  rw [if_pos h.1, m_code h hv]
  simp only [ob]
  rw [m_looksAt h (by have := vCd_lt hv; omega), vCd_mS N hv]
  simp only [ob]
end MOD3
