/-! THE CLASS: a game's plan, its changes and copies -/
def Cn (n : Nat) (f : Nat → Int32) : Prop := ∀ k, n ≤ k → f k = 0
theorem xct_cn (n : Nat) (f : Nat → Int32) : Cn n (xct n f) := fun k h => by unfold xct; rw [if_neg (by omega)]
theorem Cn.ct {n : Nat} {f : Nat → Int32} (h : Cn n f) : xct n f = f := by
  funext k
  unfold xct
  by_cases hk : k < n
  · rw [if_pos hk]
  · rw [if_neg hk, h k (by omega)]
def vCd (f : Nat → Int32) : Nat := ((((vM f 0 * 3 + vM f 1) * 3 + vM f 2) * 3 + vA f 0) * 3 + vA f 1) * 3 + vA f 2
def vPc (f : Nat → Int32) (c : Nat) : Nat → Int32 := fun k => if 66 ≤ k ∧ k < 72 then nI (c / 3 ^ (71 - k) % 3) else f k
def vSeg (g : Nat → Int32) (s : Nat) : Nat → Int32 := fun k => if k < 72 then g (s + k) else 0
def vPut (f g : Nat → Int32) (s : Nat) : Nat → Int32 := fun k => if s ≤ k ∧ k < s + 72 then f (k - s) else g k
def vZ : Nat → Int32 := fun _ => 0
theorem xlm1 : (-1 : Int32) + 1 = 0 := by decide +kernel
section WR
variable {w : XW} {a ca pa : Nat} {f p : Nat → Int32}
theorem s_code (h : xIsG w a ca pa f p) (hv : Vd f) : fX0_code a w = some (nI (vCd f), w) := by
  have step : ∀ (g k x n : Nat), k < 72 → f k = nI n → fX0_code_5 (g + 1) a (nI x) (nI k) w = fX0_code_5 g a (nI (x * 3 + n)) (nI (k + 1)) w := by
    intro g k x n hk hn
    rw [fX0_code_5, if_neg (by rw [xl72]; exact nI_ge hk (by omega)), h.2.1]
    simp only [ob]
    rw [xaI_ok h.2.2.2.1 hk (by omega)]
    simp only [ob]
    rw [hn, xl3, pk_mul, nI_add, nI_1]
  unfold fX0_code vCd
  rw [if_pos h.1]
  rw [show fX0_code_5 1000 a 0 66 w = fX0_code_5 (999 + 1) a (nI 0) (nI 66) w by rw [← xl0, ← xl66]]
  rw [step 999 66 0 _ (by omega) (hv.M (t := 0) (by omega)).1, step 998 67 _ _ (by omega) (hv.M (t := 1) (by omega)).1, step 997 68 _ _ (by omega) (hv.M (t := 2) (by omega)).1, step 996 69 _ _ (by omega) (hv.A (m := 0) (by omega)).1, step 995 70 _ _ (by omega) (hv.A (m := 1) (by omega)).1, step 994 71 _ _ (by omega) (hv.A (m := 2) (by omega)).1]
  rw [fX0_code_5, if_pos (by decide +kernel), Nat.zero_mul, Nat.zero_add]
def vPk (f : Nat → Int32) (c j : Nat) : Nat → Int32 := fun k => if 72 ≤ k + j ∧ k < 72 then nI (c / 3 ^ (71 - k) % 3) else f k
theorem s_takePlan (h : xIsG w a ca pa f p) (d : a ≠ ca) (hc : Cn 72 f) {c : Nat} (hlt : c < 2 ^ 31) : fX0_takePlan a (nI c) w = some (w.set ca (.inl (0, 72, vPc f c))) := by
  have step : ∀ (g j : Nat), j < 6 → fX0_takePlan_5 (g + 1) a (nI (c / 3 ^ j)) (nI (71 - j)) (w.set ca (.inl (0, 72, vPk f c j))) = fX0_takePlan_5 g a (nI (c / 3 ^ (j + 1))) (nI (70 - j)) (w.set ca (.inl (0, 72, vPk f c (j + 1)))) := by
    intro g j hj
    have hq : c / 3 ^ j < 2 ^ 31 := Nat.lt_of_le_of_lt (Nat.div_le_self _ _) hlt
    rw [fX0_takePlan_5, if_neg (by rw [xl66]; exact nI_nlt (by omega) (by omega)), xgR_set (Ne.symm d), h.2.1]
    simp only [ob]
    rw [xl3, pk_rem hq (by omega) (by omega), xsI_ok (xset_self h.2.2.2.1) (by omega) (by omega)]
    simp only [ob]
    rw [List.set_set, pk_div hq (by omega) (by omega), Nat.div_div_eq_div_mul, ← Nat.pow_succ, show 71 - j = (70 - j) + 1 by omega, pk_m1]
    congr 4
    rw [show xct 72 (upd (vPk f c j) (70 - j + 1) (nI (c / 3 ^ j % 3))) = vPk f c (j + 1) from ?_]
    funext k
    unfold xct upd vPk
    by_cases h72 : k < 72
    · rw [if_pos h72]
      by_cases hk : k = 70 - j + 1
      · rw [if_pos hk, if_pos (by omega), show 71 - k = j by omega]
      · rw [if_neg hk]
        by_cases hk2 : 72 ≤ k + j
        · rw [if_pos ⟨hk2, h72⟩, if_pos ⟨by omega, h72⟩]
        · rw [if_neg (by omega), if_neg (by omega)]
    · rw [if_neg h72, if_neg (by omega)]
      exact (hc k (by omega)).symm
  unfold fX0_takePlan
  rw [if_pos h.1]
  have e0 : vPk f c 0 = f := by
    funext k
    unfold vPk
    rw [if_neg (by omega)]
  have e6 : vPk f c 6 = vPc f c := by
    funext k
    unfold vPk vPc
    by_cases hk : 66 ≤ k ∧ k < 72
    · rw [if_pos hk, if_pos (by omega)]
    · rw [if_neg hk, if_neg (by omega)]
  have s0 := step 999 0 (by omega)
  rw [e0, xset_same h.2.2.2.1, Nat.pow_zero, Nat.div_one] at s0
  rw [show fX0_takePlan_5 1000 a (nI c) 71 w = fX0_takePlan_5 (999 + 1) a (nI c) (nI (71 - 0)) w by rw [show (71 : Int32) = nI (71 - 0) by decide +kernel]]
  rw [s0, step 998 1 (by omega), step 997 2 (by omega), step 996 3 (by omega), step 995 4 (by omega), step 994 5 (by omega), fX0_takePlan_5, if_pos (by decide +kernel), e6]
/-- Arrays.fill over a whole row -/
theorem s_fill {w : XW} {q n : Nat} {g : Nat → Int32} (h : w[q]? = some (.inl (0, n, g))) (hn : n < 1000) (hc : Cn n g) (v : Int32) : fJ7_fill_53178 q v w = some (w.set q (.inl (0, n, xct n (fun _ => v)))) := by
  have key : ∀ (d g0 j : Nat) (g1 : Nat → Int32), j + d = n → d < g0 → Cn n g1 → fJ7_fill_53178_5 g0 q v (nI j) (nI n) (w.set q (.inl (0, n, g1))) = some (w.set q (.inl (0, n, fun k => if j ≤ k ∧ k < n then v else g1 k))) := by
    intro d
    induction d with
    | zero =>
      intro g0 j g1 hj hg hc1
      obtain ⟨g0, rfl⟩ : ∃ z, g0 = z + 1 := ⟨g0 - 1, by omega⟩
      rw [fJ7_fill_53178_5, if_pos (nI_le (by omega) (by omega))]
      congr 5
      funext k
      rw [if_neg (by omega)]
    | succ d ih =>
      intro g0 j g1 hj hg hc1
      obtain ⟨g0, rfl⟩ : ∃ z, g0 = z + 1 := ⟨g0 - 1, by omega⟩
      rw [fJ7_fill_53178_5, if_neg (nI_ge (by omega) (by omega)), xsI_ok (xset_self h) (by omega) (by omega)]
      simp only [ob, nI_1]
      rw [List.set_set, ih g0 (j + 1) _ (by omega) (by omega) (xct_cn _ _)]
      congr 5
      funext k
      unfold xct upd
      by_cases hk : k < n
      · rw [if_pos hk]
        by_cases hk2 : k = j
        · rw [if_neg (by omega), if_pos hk2, if_pos (by omega)]
        · rw [if_neg hk2]
          by_cases hk3 : j ≤ k
          · rw [if_pos (by omega), if_pos (by omega)]
          · rw [if_neg (by omega), if_neg (by omega)]
      · rw [if_neg (by omega), if_neg hk, if_neg (by omega)]
        exact (hc1 k (by omega)).symm
  unfold fJ7_fill_53178
  rw [xaL_ok h]
  simp only [ob]
  have := key n 1000 0 g (by omega) hn hc
  rw [xset_same h] at this
  rw [xl0, this]
  congr 5
  funext k
  unfold xct
  by_cases hk : k < n
  · rw [if_pos hk, if_pos (by omega)]
  · rw [if_neg hk, if_neg (by omega), hc k (by omega)]
theorem s_forget (h : xIsG w a ca pa f p) (hc : Cn 24 p) : fX0_forgetPossible a w = some (w.set pa (.inl (0, 24, vZ))) := by
  unfold fX0_forgetPossible
  rw [if_pos h.1, h.2.2.1]
  simp only [ob]
  rw [s_fill h.2.2.2.2 (by omega) hc]
  simp only [ob]
  congr 5
  funext k
  unfold xct vZ
  split <;> rfl
theorem vPo_congr {f g : Nat → Int32} (h : ∀ i, i < 54 → f (12 + i) = g (12 + i)) {m : Nat} (hm : m < 3) (T0 T1 T2 : Bool) : vPo f m T0 T1 T2 = vPo g m T0 T1 T2 := by
  have e : ∀ b, b < 3 → vWo f m b = vWo g m b := by
    intro b hb
    funext x0 x1 x2
    unfold vWo vP
    have k : ∀ t, t < 3 → f (12 + 27 * 1 + 9 * t + 3 * m + b) = g (12 + 27 * 1 + 9 * t + 3 * m + b) := by
      intro t ht
      have := h (27 * 1 + 9 * t + 3 * m + b) (by omega)
      rw [show 12 + 27 * 1 + 9 * t + 3 * m + b = 12 + (27 * 1 + 9 * t + 3 * m + b) by omega]
      exact this
    rw [k 0 (by omega), k 1 (by omega), k 2 (by omega)]
  unfold vPo vPb
  rw [e 0 (by omega), e 1 (by omega), e 2 (by omega)]
theorem Vc.to {f g p : Nat → Int32} (hc : Vc f p) (h : ∀ i, i < 54 → f (12 + i) = g (12 + i)) : Vc g p := by
  refine ⟨hc.1, fun m hm T0 T1 T2 => ?_⟩
  rw [← vPo_congr h hm]
  exact hc.2 m hm T0 T1 T2
theorem Vc.z (f : Nat → Int32) : Vc f vZ := ⟨fun _ _ => rfl, fun _ _ _ _ _ => Or.inl rfl⟩
theorem Cn.z (n : Nat) : Cn n vZ := fun _ _ => rfl
theorem s_change (h : xIsG w a ca pa f p) (d1 : a ≠ ca) (d2 : ca ≠ pa) (hcp : Cn 24 p) (hc : Vc f p) {k : Nat} (hk : k < 72) (x : Int32) : ∃ q, fX0_change a (nI k) x w = some (f k, (w.set ca (.inl (0, 72, xct 72 (upd f k x)))).set pa (.inl (0, 24, q))) ∧ Vc (xct 72 (upd f k x)) q ∧ Cn 24 q := by
  have h' := h.setC d1 d2 (xct 72 (upd f k x))
  have e0 : fX0_change a (nI k) x w = if nI k < 12 then some (f k, w.set ca (.inl (0, 72, xct 72 (upd f k x)))) else if (66 : Int32) ≤ nI k then some (f k, w.set ca (.inl (0, 72, xct 72 (upd f k x)))) else some (f k, (w.set ca (.inl (0, 72, xct 72 (upd f k x)))).set pa (.inl (0, 24, vZ))) := by
    unfold fX0_change
    rw [if_pos h.1, xl72, s_inN hk (by omega)]
    simp only [ob]
    rw [if_neg (by decide +kernel), h.2.1]
    simp only [ob]
    rw [xaI_ok h.2.2.2.1 hk (by omega)]
    simp only [ob]
    rw [xsI_ok h.2.2.2.1 hk (by omega)]
    simp only [ob]
    rw [s_forget h' hcp]
    simp only [ob]
  rw [e0]
  have keep : (∀ i, i < 54 → f (12 + i) = xct 72 (upd f k x) (12 + i)) → ∃ q, some (f k, w.set ca (.inl (0, 72, xct 72 (upd f k x)))) = some (f k, (w.set ca (.inl (0, 72, xct 72 (upd f k x)))).set pa (.inl (0, 24, q))) ∧ Vc (xct 72 (upd f k x)) q ∧ Cn 24 q := fun hh => ⟨p, by rw [xset_same h'.2.2.2.2], hc.to hh, hcp⟩
  rw [xl12, xl66]
  by_cases h1 : k < 12
  · rw [if_pos ((nI_ltI (by omega) (by omega)).mpr h1)]
    refine keep (fun i hi => ?_)
    unfold xct upd
    rw [if_pos (by omega), if_neg (by omega)]
  · rw [if_neg (fun z => h1 ((nI_ltI (by omega) (by omega)).mp z))]
    by_cases h2 : 66 ≤ k
    · rw [if_pos ((nI_leI (by omega) (by omega)).mpr h2)]
      refine keep (fun i hi => ?_)
      unfold xct upd
      rw [if_pos (by omega), if_neg (by omega)]
    · rw [if_neg (fun z => h2 ((nI_leI (by omega) (by omega)).mp z))]
      exact ⟨vZ, rfl, Vc.z _, Cn.z 24⟩
theorem n72 {s n : Nat} (h : s + 72 ≤ n) (hn : n < 2 ^ 30) : ¬ (nI n - 72 < nI s) := by
  rw [xl72, pk_sub (by omega)]
  exact nI_nlt (by omega) (by omega)
theorem c72 : (72 : Int32).toNatClampNeg = 72 := by decide +kernel
theorem c0 : (0 : Int32).toNatClampNeg = 0 := by decide +kernel
theorem xcp_ok {w : XW} {q r n0 n1 s1 s2 k : Nat} {f g : Nat → Int32} (h1 : w[q]? = some (.inl (0, n0, f))) (h2 : w[r]? = some (.inl (0, n1, g))) (b1 : s1 + k ≤ n0) (b2 : s2 + k ≤ n1) (hn0 : n0 < 2 ^ 30) (hn1 : n1 < 2 ^ 30) : xcp w q (nI s1) r (nI s2) (nI k) = some (w.set r (.inl (0, n1, xct n1 (va_cpy f g s1 s2 k)))) := by
  unfold xcp
  rw [h1, h2]
  simp only [nI_clamp (show s1 < 2 ^ 31 by omega), nI_clamp (show s2 < 2 ^ 31 by omega), nI_clamp (show k < 2 ^ 31 by omega)]
  rw [if_neg]
  intro z
  rcases z with z | z | z | z | z
  · exact nI_pos (by omega) z
  · exact nI_pos (by omega) z
  · exact nI_pos (by omega) z
  · omega
  · omega
theorem s_writeTo (h : xIsG w a ca pa f p) {q n s : Nat} {g : Nat → Int32} (hq : w[q]? = some (.inl (0, n, g))) (hs : s + 72 ≤ n) (hn : n < 2 ^ 30) (hcg : Cn n g) : fX0_writeTo a q (nI s) w = some (w.set q (.inl (0, n, vPut f g s))) := by
  unfold fX0_writeTo
  rw [if_pos h.1, if_neg (nI_pos (by omega)), xaL_ok hq]
  simp only [ob]
  rw [if_neg (n72 hs hn), h.2.1]
  simp only [ob]
  rw [xl0, xl72, xcp_ok h.2.2.2.1 hq (by omega) hs (by omega) hn]
  simp only [ob]
  congr 5
  funext k
  unfold xct va_cpy vPut
  by_cases hk : k < n
  · rw [if_pos hk]
    by_cases hk2 : s ≤ k ∧ k < s + 72
    · rw [if_pos hk2, if_pos hk2, Nat.zero_add]
    · rw [if_neg hk2, if_neg hk2]
  · rw [if_neg hk, if_neg (by omega), hcg k (by omega)]
theorem s_readFrom (h : xIsG w a ca pa f p) (d1 : a ≠ ca) (d2 : ca ≠ pa) (hcf : Cn 72 f) (hcp : Cn 24 p) {q n s : Nat} {g : Nat → Int32} (hq : w[q]? = some (.inl (0, n, g))) (hs : s + 72 ≤ n) (hn : n < 2 ^ 30) : fX0_readFrom a q (nI s) w = some ((w.set ca (.inl (0, 72, vSeg g s))).set pa (.inl (0, 24, vZ))) := by
  have e : xct 72 (va_cpy g f s 0 72) = vSeg g s := by
    funext k
    unfold xct va_cpy vSeg
    by_cases hk : k < 72
    · rw [if_pos hk, if_pos hk, if_pos (by omega), Nat.sub_zero]
    · rw [if_neg hk, if_neg hk]
  unfold fX0_readFrom
  rw [if_pos h.1, if_neg (nI_pos (by omega)), xaL_ok hq]
  simp only [ob]
  rw [if_neg (n72 hs hn), h.2.1]
  simp only [ob]
  rw [xl0, xl72, xcp_ok hq h.2.2.2.1 hs (by omega) hn (by omega)]
  simp only [ob]
  rw [e, s_forget (h.setC d1 d2 _) hcp]
  simp only [ob]
theorem s_copyFrom (h : xIsG w a ca pa f p) (d1 : a ≠ ca) (d2 : ca ≠ pa) (hcf : Cn 72 f) (hcp : Cn 24 p) {b cb : Nat} {g : Nat → Int32} (hb : xgR w b 0 0 = some cb) (hq : w[cb]? = some (.inl (0, 72, g))) (hcg : Cn 72 g) : fX0_copyFrom a b w = some ((w.set ca (.inl (0, 72, g))).set pa (.inl (0, 24, vZ))) := by
  unfold fX0_copyFrom
  rw [if_pos h.1, hb]
  simp only [ob]
  rw [xl0, s_readFrom h d1 d2 hcf hcp hq (by omega) (by omega)]
  simp only [ob]
  congr 6
  funext k
  unfold vSeg
  by_cases hk : k < 72
  · rw [if_pos hk, Nat.zero_add]
  · rw [if_neg hk, hcg k (by omega)]
theorem s_differs (h : xIsG w a ca pa f p) {b cb : Nat} {g : Nat → Int32} (hb : xgR w b 0 0 = some cb) (hq : w[cb]? = some (.inl (0, 72, g))) : ∃ r : Int32, fX0_differsOnlyInPlan a b w = some (r, w) ∧ ((r = 1 ∧ ∀ k, k < 66 → f k = g k) ∨ r = 0) := by
  have key : ∀ (d g0 j : Nat), j + d = 66 → d < g0 → (∀ k, k < j → f k = g k) → ∃ r : Int32, fX0_differsOnlyInPlan_2 g0 a b (nI j) w = some (r, w) ∧ ((r = 1 ∧ ∀ k, k < 66 → f k = g k) ∨ r = 0) := by
    intro d
    induction d with
    | zero =>
      intro g0 j hj hg hk
      obtain ⟨g0, rfl⟩ : ∃ z, g0 = z + 1 := ⟨g0 - 1, by omega⟩
      refine ⟨1, ?_, Or.inl ⟨rfl, fun k hk2 => hk k (by omega)⟩⟩
      rw [fX0_differsOnlyInPlan_2, if_pos (by rw [xl66]; exact nI_le (by omega) (by omega))]
    | succ d ih =>
      intro g0 j hj hg hk
      obtain ⟨g0, rfl⟩ : ∃ z, g0 = z + 1 := ⟨g0 - 1, by omega⟩
      rw [fX0_differsOnlyInPlan_2, if_neg (by rw [xl66]; exact nI_ge (by omega) (by omega)), h.2.1]
      simp only [ob]
      rw [xaI_ok h.2.2.2.1 (by omega) (by omega), hb]
      simp only [ob]
      rw [xaI_ok hq (by omega) (by omega), nI_1]
      simp only [ob]
      by_cases e : f j = g j
      · rw [if_pos e]
        refine ih g0 (j + 1) (by omega) (by omega) (fun k hk2 => ?_)
        by_cases hkj : k = j
        · rw [hkj]; exact e
        · exact hk k (by omega)
      · rw [if_neg e]
        exact ⟨0, rfl, Or.inr rfl⟩
  unfold fX0_differsOnlyInPlan
  rw [if_pos h.1, xl0]
  exact key 66 1000 0 (by omega) (by omega) (fun k hk => absurd hk (by omega))
end WR
