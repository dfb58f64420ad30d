/-! THE REFERENCE: plans that hold, possible actions, refined -/
section MOD2
variable {w : XW} {N pl be : Nat → Int32}
theorem m_wrong (h : xIsM w N pl be) (hv : Vd (mv N pl)) : ∃ b, fX4_wrong 15 w = some (vWr (mv N pl), w.set 23 (.inl (0, 3, b))) := by
  have step : ∀ (g m : Nat) (b0 : Nat → Int32), m < 3 → fX4_wrong_2 (g + 1) 15 (nI m) (w.set 23 (.inl (0, 3, b0))) = if vHas (vBA (mv N pl) m) (vA (mv N pl) m) then fX4_wrong_2 g 15 (nI (m + 1)) (w.set 23 (.inl (0, 3, xb3 (vB (mv N pl) m 0) (vB (mv N pl) m 1) (vB (mv N pl) m 2)))) else some (nI m, w.set 23 (.inl (0, 3, xb3 (vB (mv N pl) m 0) (vB (mv N pl) m 1) (vB (mv N pl) m 2)))) := by
    intro g m b0 hm
    have h0 := h.setB b0
    have h1 := h.setB (xb3 (vB (mv N pl) m 0) (vB (mv N pl) m 1) (vB (mv N pl) m 2))
    have hA := (hv.A hm).2
    have hb := m_best h0 hm
    have ha := m_ans h1 hv hm
    have hz := vHasZ (vIb (vWo (mv N pl) m 0 (vB (mv N pl) m 0) (vB (mv N pl) m 1) (vB (mv N pl) m 2)) (vWo (mv N pl) m 1 (vB (mv N pl) m 0) (vB (mv N pl) m 1) (vB (mv N pl) m 2)) (vWo (mv N pl) m 2 (vB (mv N pl) m 0) (vB (mv N pl) m 1) (vB (mv N pl) m 2)) 0) (vIb (vWo (mv N pl) m 0 (vB (mv N pl) m 0) (vB (mv N pl) m 1) (vB (mv N pl) m 2)) (vWo (mv N pl) m 1 (vB (mv N pl) m 0) (vB (mv N pl) m 1) (vB (mv N pl) m 2)) (vWo (mv N pl) m 2 (vB (mv N pl) m 0) (vB (mv N pl) m 1) (vB (mv N pl) m 2)) 1) (vIb (vWo (mv N pl) m 0 (vB (mv N pl) m 0) (vB (mv N pl) m 1) (vB (mv N pl) m 2)) (vWo (mv N pl) m 1 (vB (mv N pl) m 0) (vB (mv N pl) m 1) (vB (mv N pl) m 2)) (vWo (mv N pl) m 2 (vB (mv N pl) m 0) (vB (mv N pl) m 1) (vB (mv N pl) m 2)) 2) ⟨vA (mv N pl) m, hA⟩
    have hz2 : (((vBA (mv N pl) m >>> (nI (vA (mv N pl) m) &&& 31)) &&& 1) = 0) = (vHas (vBA (mv N pl) m) (vA (mv N pl) m) = false) := propext hz
    rw [List.set_set] at hb
    rw [fX4_wrong_2, if_neg (by rw [xl3]; exact nI_ge hm (by omega)), hb]
    simp only [ob]
    rw [h1.2.2.1]
    simp only [ob]
    rw [ha]
    simp only [ob, hz2, nI_1]
    cases vHas (vBA (mv N pl) m) (vA (mv N pl) m)
    · rw [if_pos rfl, if_neg (by decide)]
    · rw [if_neg (by decide), if_pos rfl]
  have s0 := step 999 0 be (by omega)
  rw [xset_same h.2.2.2.2.2.2] at s0
  unfold fX4_wrong vWr
  rw [if_pos h.1, show fX4_wrong_2 1000 15 0 w = fX4_wrong_2 (999 + 1) 15 (nI 0) w by rw [← xl0], s0]
  cases vHas (vBA (mv N pl) 0) (vA (mv N pl) 0)
  · exact ⟨_, rfl⟩
  · rw [if_pos rfl, if_pos rfl, step 998 1 _ (by omega)]
    cases vHas (vBA (mv N pl) 1) (vA (mv N pl) 1)
    · exact ⟨_, rfl⟩
    · rw [if_pos rfl, if_pos rfl, step 997 2 _ (by omega)]
      cases vHas (vBA (mv N pl) 2) (vA (mv N pl) 2)
      · exact ⟨_, rfl⟩
      · rw [if_pos rfl, if_pos rfl, fX4_wrong_2, if_pos (by decide +kernel)]
        exact ⟨_, rfl⟩
theorem m_holds (h : xIsM w N pl be) (hv : Vd (mv N pl)) : ∃ b, fX4_holds 15 w = some (if vHo (mv N pl) then 1 else 0, w.set 23 (.inl (0, 3, b))) := by
  obtain ⟨b, hb⟩ := m_wrong h hv
  unfold fX4_holds vHo
  rw [if_pos h.1, m_unhappy h hv]
  simp only [ob]
  by_cases a1 : vLo (mv N pl) = -6
  · rw [if_pos a1, hb]
    simp only [ob]
    refine ⟨b, ?_⟩
    rw [decide_eq_true a1, Bool.true_and]
    by_cases a2 : vWr (mv N pl) = -6
    · rw [if_pos a2, decide_eq_true a2, if_pos rfl]
    · rw [if_neg a2, decide_eq_false a2, if_neg (by decide)]
  · rw [if_neg a1, decide_eq_false a1, Bool.false_and, if_neg (by decide)]
    exact ⟨be, by rw [xset_same h.2.2.2.2.2.2]⟩
theorem m_isBeyond (h : xIsM w N pl be) (hv : Vd (mv N pl)) {t m : Nat} (ht : t < 3) (hm : m < 3) (b0 b1 b2 up : Bool) : fX4_isBeyond 15 (nI t) (nI m) (xbs b0 b1 b2) (if up then 1 else 0) w = some (if (!b0 || (if up then !decide (vOw (mv N pl) t ≤ vP (mv N pl) 0 t m 0) else !decide (vP (mv N pl) 0 t m 0 ≤ vOw (mv N pl) t))) && (!b1 || (if up then !decide (vOw (mv N pl) t ≤ vP (mv N pl) 0 t m 1) else !decide (vP (mv N pl) 0 t m 1 ≤ vOw (mv N pl) t))) && (!b2 || (if up then !decide (vOw (mv N pl) t ≤ vP (mv N pl) 0 t m 2) else !decide (vP (mv N pl) 0 t m 2 ≤ vOw (mv N pl) t))) then 1 else 0, w) := by
  have step : ∀ (g c : Nat) (y b : Bool), c < 3 → vHas (xbs b0 b1 b2) c = b → fX4_isBeyond_6 (g + 1) 15 (nI t) (nI m) (xbs b0 b1 b2) (if up then 1 else 0) (if y then 1 else 0) (nI c) w = fX4_isBeyond_6 g 15 (nI t) (nI m) (xbs b0 b1 b2) (if up then 1 else 0) (if y && (!b || (if up then !decide (vOw (mv N pl) t ≤ vP (mv N pl) 0 t m c) else !decide (vP (mv N pl) 0 t m c ≤ vOw (mv N pl) t))) then 1 else 0) (nI (c + 1)) w := by
    intro g c y b hc hb
    have hz2 : (((xbs b0 b1 b2 >>> (nI c &&& 31)) &&& 1) = 0) = (b = false) := by rw [← hb]; exact propext (vHasZ b0 b1 b2 ⟨c, hc⟩)
    have hpay := m_payoffOf h hv ht
    rw [fX4_isBeyond_6, if_neg (by rw [xl3]; exact nI_ge hc (by omega)), h.2.1]
    simp only [ob]
    rw [xl0, m_place]
    simp only [ob]
    rw [xaI_ok h.2.2.2.2.1 (by omega) (by omega), ← mv_P N pl (s := 0) (by omega) ht hm hc]
    simp only [ob]
    rw [hpay, ← xl0]
    simp only [ob, nI_1, hz2]
    generalize vP (mv N pl) 0 t m c = x
    generalize vOw (mv N pl) t = z
    cases up
    · rw [if_pos (by decide +kernel)]
      cases y <;> cases b <;> by_cases hx : x ≤ z <;> simp [hx]
    · rw [if_neg (by decide +kernel)]
      cases y <;> cases b <;> by_cases hx : z ≤ x <;> simp [hx]
  obtain ⟨hv0, hv1, hv2⟩ := vHas_bs b0 b1 b2
  have fin : ∀ (g : Nat) (y : Bool), fX4_isBeyond_6 (g + 1) 15 (nI t) (nI m) (xbs b0 b1 b2) (if up then 1 else 0) (if y then 1 else 0) (nI (2 + 1)) w = some (if y then 1 else 0, w) := by
    intro g y
    rw [fX4_isBeyond_6, if_pos (by decide +kernel), if_pos]
    cases y <;> decide +kernel
  unfold fX4_isBeyond
  rw [if_pos h.1]
  have e1 : fX4_isBeyond_6 1000 15 (nI t) (nI m) (xbs b0 b1 b2) (if up then 1 else 0) 1 0 w = fX4_isBeyond_6 (999 + 1) 15 (nI t) (nI m) (xbs b0 b1 b2) (if up then 1 else 0) (if true then 1 else 0) (nI 0) w := by rw [← xl0, if_pos (rfl : true = true)]
  rw [e1, step 999 0 _ b0 (by omega) hv0, step 998 1 _ b1 (by omega) hv1, step 997 2 _ b2 (by omega) hv2, fin, Bool.true_and]
theorem m_poss51 (h : xIsM w N pl be) {x0 x1 x2 : Int32} (q0 : be 0 = x0) (q1 : be 1 = x1) (q2 : be 2 = x2) (T0 T1 T2 : Bool) (i1 i3 i4 : Int32) (k : Nat → Int32 → Int32 → Int32 → Int32 → Int32 → XW → Option (Int32 × XW)) : fX4_possible_51 k 1000 15 i1 (xbs T0 T1 T2) i3 i4 1 0 w = k 15 i1 (xbs T0 T1 T2) i3 i4 (if (decide (x0 = 0) || T0) && (decide (x1 = 0) || T1) && (decide (x2 = 0) || T2) then 1 else 0) w := by
  subst q0 q1 q2
  have step : ∀ (g c : Nat) (y b : Bool), c < 3 → vHas (xbs T0 T1 T2) c = b → fX4_possible_51 k (g + 1) 15 i1 (xbs T0 T1 T2) i3 i4 (if y then 1 else 0) (nI c) w = fX4_possible_51 k g 15 i1 (xbs T0 T1 T2) i3 i4 (if y && (decide (be c = 0) || b) then 1 else 0) (nI (c + 1)) w := by
    intro g c y b hc hb
    have hz : (((xbs T0 T1 T2 >>> (nI c &&& 31)) &&& 1) = 1) = (b = true) := by
      rw [← hb]
      unfold vHas
      exact propext (by rw [decide_eq_true_eq])
    rw [fX4_possible_51, if_neg (by rw [xl3]; exact nI_ge hc (by omega)), h.2.2.2.1]
    simp only [ob]
    rw [xaI_ok h.2.2.2.2.2.2 (by omega) (by omega)]
    simp only [ob, nI_1, hz]
    cases y <;> cases b <;> by_cases hx : be c = 0 <;> simp [hx]
  obtain ⟨hv0, hv1, hv2⟩ := vHas_bs T0 T1 T2
  have e1 : fX4_possible_51 k 1000 15 i1 (xbs T0 T1 T2) i3 i4 1 0 w = fX4_possible_51 k (999 + 1) 15 i1 (xbs T0 T1 T2) i3 i4 (if true then 1 else 0) (nI 0) w := by rw [← xl0, if_pos (rfl : true = true)]
  rw [e1, step 999 0 _ T0 (by omega) hv0, step 998 1 _ T1 (by omega) hv1, step 997 2 _ T2 (by omega) hv2, fX4_possible_51, if_pos (by decide +kernel), Bool.true_and]
/-- what the first n steps of possible have found -/
def vPn (f : Nat → Int32) (m : Nat) (T0 T1 T2 : Bool) (n a : Nat) : Bool := (List.range n).any (fun k => !decide (k = 0) && (decide (k % 5 = 0) || T0) && (decide (k / 5 % 5 = 0) || T1) && (decide (k / 25 = 0) || T2) && vIb (vWo f m 0 (nI (k % 5)) (nI (k / 5 % 5)) (nI (k / 25))) (vWo f m 1 (nI (k % 5)) (nI (k / 5 % 5)) (nI (k / 25))) (vWo f m 2 (nI (k % 5)) (nI (k / 5 % 5)) (nI (k / 25))) a)
theorem vPn_succ (f : Nat → Int32) (m : Nat) (T0 T1 T2 : Bool) (n a : Nat) (hn : 0 < n) : vPn f m T0 T1 T2 (n + 1) a = (vPn f m T0 T1 T2 n a || ((decide (n % 5 = 0) || T0) && (decide (n / 5 % 5 = 0) || T1) && (decide (n / 25 = 0) || T2) && vQ f m (n % 5) (n / 5 % 5) (n / 25) a)) := by
  unfold vPn
  rw [List.range_succ, List.any_append]
  congr 1
  rw [List.any_cons, List.any_nil, Bool.or_false, decide_eq_false (by omega), Bool.not_false, Bool.true_and]
  rfl
theorem nI_z {n : Nat} (h : n < 2 ^ 31) : (nI n = 0) = (n = 0) := by
  rw [xl0]
  exact propext (nI_eq h (by omega))
theorem m_possible (h : xIsM w N pl be) {m : Nat} (hm : m < 3) (T0 T1 T2 : Bool) : ∃ b, fX4_possible 15 (nI m) (xbs T0 T1 T2) w = some (vPo (mv N pl) m T0 T1 T2, w.set 23 (.inl (0, 3, b))) := by
  have key : ∀ (d g k : Nat) (b0 : Nat → Int32), k + d = 125 → 0 < k → d < g → ∃ b, fX4_possible_5 g 15 (nI m) (xbs T0 T1 T2) (xbs (vPn (mv N pl) m T0 T1 T2 k 0) (vPn (mv N pl) m T0 T1 T2 k 1) (vPn (mv N pl) m T0 T1 T2 k 2)) (nI k) (w.set 23 (.inl (0, 3, b0))) = some (vPo (mv N pl) m T0 T1 T2, w.set 23 (.inl (0, 3, b))) := by
    intro d
    induction d with
    | zero =>
      intro g k b0 hk h0 hg
      obtain ⟨g, rfl⟩ : ∃ q, g = q + 1 := ⟨g - 1, by omega⟩
      obtain rfl : k = 125 := by omega
      rw [fX4_possible_5, if_pos (by decide +kernel)]
      exact ⟨b0, rfl⟩
    | succ d ih =>
      intro g k b0 hk h0 hg
      obtain ⟨g, rfl⟩ : ∃ q, g = q + 1 := ⟨g - 1, by omega⟩
      have hb := h.setB b0
      rw [fX4_possible_5, if_neg (by rw [show (125 : Int32) = nI 125 by decide +kernel]; exact nI_ge (by omega) (by omega)), hb.2.2.2.1]
      simp only [ob]
      rw [show (5 : Int32) = nI 5 by decide +kernel, show (25 : Int32) = nI 25 by decide +kernel, pk_rem (by omega) (by omega) (by omega), pk_div (by omega) (by omega) (by omega), pk_rem (by omega) (by omega) (by omega), pk_div (by omega) (by omega) (by omega), show (0 : Int32) = nI 0 from xl0, show (1 : Int32) = nI 1 from xl1, show (2 : Int32) = nI 2 from xl2]
      rw [xsI_ok hb.2.2.2.2.2.2 (by omega) (by omega)]
      simp only [ob, List.set_set]
      have hb1 := h.setB (xct 3 (upd b0 0 (nI (k % 5))))
      rw [hb1.2.2.2.1]
      simp only [ob]
      rw [xsI_ok hb1.2.2.2.2.2.2 (by omega) (by omega)]
      simp only [ob, List.set_set]
      have hb2 := h.setB (xct 3 (upd (xct 3 (upd b0 0 (nI (k % 5)))) 1 (nI (k / 5 % 5))))
      rw [hb2.2.2.2.1]
      simp only [ob]
      rw [xsI_ok hb2.2.2.2.2.2.2 (by omega) (by omega)]
      simp only [ob, List.set_set]
      rw [xb3_run]
      have hb3 := h.setB (xb3 (nI (k % 5)) (nI (k / 5 % 5)) (nI (k / 25)))
      have hd : ∀ q : Nat, q < 2 ^ 31 → decide (nI q = 0) = decide (q = 0) := fun q hq => decide_eq_decide.mpr (by rw [nI_z hq])
      rw [← xl0, ← xl1, m_poss51 hb3 (xb3_0 _ _ _) (xb3_1 _ _ _) (xb3_2 _ _ _), hd _ (by omega), hd _ (by omega), hd _ (by omega)]
      have hbs := m_bestSet hb3 hm
      simp only [xb3_0, xb3_1, xb3_2] at hbs
      obtain ⟨b, r⟩ := ih g (k + 1) (xb3 (nI (k % 5)) (nI (k / 5 % 5)) (nI (k / 25))) (by omega) (by omega) (by omega)
      rw [vPn_succ _ _ _ _ _ _ _ h0, vPn_succ _ _ _ _ _ _ _ h0, vPn_succ _ _ _ _ _ _ _ h0] at r
      refine ⟨b, ?_⟩
      rw [← r]
      cases hok : ((decide (k % 5 = 0) || T0) && (decide (k / 5 % 5 = 0) || T1) && (decide (k / 25 = 0) || T2))
      · rw [if_pos (by decide +kernel), nI_1]
        simp only [Bool.false_and, Bool.or_false]
        rw [show ∀ z0 z1 z2 : Bool, (xbs z0 z1 z2 ||| 0 : Int32) = xbs z0 z1 z2 by decide +kernel]
      · rw [if_neg (by decide +kernel), hbs]
        simp only [ob, Bool.true_and, nI_1]
        unfold vBest vB3 vQ
        rw [xbs_or]
  unfold fX4_possible
  rw [if_pos h.1]
  have e1 : ∀ a, vPn (mv N pl) m T0 T1 T2 1 a = false := by
    intro a
    unfold vPn
    rw [show List.range 1 = [0] from rfl, List.any_cons, List.any_nil, decide_eq_true rfl, Bool.not_true]
    simp only [Bool.false_and, Bool.or_false]
  obtain ⟨b, r⟩ := key 124 1000 1 be (by omega) (by omega) (by omega)
  rw [xset_same h.2.2.2.2.2.2, e1, e1, e1, xbs_z, ← xl1] at r
  exact ⟨b, r⟩
theorem m_never (h : xIsM w N pl be) (hv : Vd (mv N pl)) {m : Nat} (hm : m < 3) : ∃ b, fX4_never 15 (nI m) w = some (xbs (vNv (mv N pl) m 0) (vNv (mv N pl) m 1) (vNv (mv N pl) m 2), w.set 23 (.inl (0, 3, b))) := by
  have e : (xbs (vS (mv N pl) m 0) (vS (mv N pl) m 1) (vS (mv N pl) m 2) = 0) = (vAny (mv N pl) m = false) := propext (xbs_0 _ _ _)
  obtain ⟨b, hb⟩ := m_possible h hm (vH (mv N pl) 0) (vH (mv N pl) 1) (vH (mv N pl) 2)
  have h1 := h.setB b
  unfold fX4_never
  rw [if_pos h.1, m_senders h m]
  simp only [ob]
  cases hA : vAny (mv N pl) m
  · rw [if_pos (by rw [e]; exact hA), m_there h]
    simp only [ob]
    rw [hb]
    simp only [ob]
    have step : ∀ (g t : Nat) (y : Int32), t < 3 → fX4_never_25 (g + 1) 15 (nI m) (vPo (mv N pl) m (vH (mv N pl) 0) (vH (mv N pl) 1) (vH (mv N pl) 2)) y (nI t) (w.set 23 (.inl (0, 3, b))) = fX4_never_25 g 15 (nI m) (vPo (mv N pl) m (vH (mv N pl) 0) (vH (mv N pl) 1) (vH (mv N pl) 2)) (if vNv (mv N pl) m t then y ||| ((1 : Int32) <<< (nI t &&& 31)) else y ||| 0) (nI (t + 1)) (w.set 23 (.inl (0, 3, b))) := by
      intro g t y ht
      have hby := m_isBeyond h1 hv ht hm (vPb (mv N pl) m (vH (mv N pl) 0) (vH (mv N pl) 1) (vH (mv N pl) 2) 0) (vPb (mv N pl) m (vH (mv N pl) 0) (vH (mv N pl) 1) (vH (mv N pl) 2) 1) (vPb (mv N pl) m (vH (mv N pl) 0) (vH (mv N pl) 1) (vH (mv N pl) 2) 2) true
      rw [if_pos (rfl : true = true)] at hby
      rw [fX4_never_25, if_neg (by rw [xl3]; exact nI_ge ht (by omega)), m_isThere h1 ht]
      simp only [ob, nI_1]
      unfold vPo
      rw [hby]
      simp only [ob]
      unfold vNv vN1
      rw [hA]
      cases vH (mv N pl) t
      · rw [if_pos (by decide +kernel), Bool.false_and, Bool.and_false, if_neg (by decide)]
      · rw [if_neg (by decide +kernel)]
        simp only [Bool.not_false, Bool.true_and, if_true]
        cases ((!vPb (mv N pl) m (vH (mv N pl) 0) (vH (mv N pl) 1) (vH (mv N pl) 2) 0 || !decide (vOw (mv N pl) t ≤ vP (mv N pl) 0 t m 0)) && (!vPb (mv N pl) m (vH (mv N pl) 0) (vH (mv N pl) 1) (vH (mv N pl) 2) 1 || !decide (vOw (mv N pl) t ≤ vP (mv N pl) 0 t m 1)) && (!vPb (mv N pl) m (vH (mv N pl) 0) (vH (mv N pl) 1) (vH (mv N pl) 2) 2 || !decide (vOw (mv N pl) t ≤ vP (mv N pl) 0 t m 2)))
        · rw [if_pos (by decide +kernel), if_neg (by decide)]
        · rw [if_neg (by decide +kernel), if_pos rfl]
    refine ⟨b, ?_⟩
    rw [show fX4_never_25 1000 15 (nI m) (vPo (mv N pl) m (vH (mv N pl) 0) (vH (mv N pl) 1) (vH (mv N pl) 2)) 0 0 (w.set 23 (.inl (0, 3, b))) = fX4_never_25 (999 + 1) 15 (nI m) (vPo (mv N pl) m (vH (mv N pl) 0) (vH (mv N pl) 1) (vH (mv N pl) 2)) 0 (nI 0) (w.set 23 (.inl (0, 3, b))) by rw [← xl0], step 999 0 _ (by omega), step 998 1 _ (by omega), step 997 2 _ (by omega), fX4_never_25, if_pos (by decide +kernel)]
    congr 2
    cases vNv (mv N pl) m 0 <;> cases vNv (mv N pl) m 1 <;> cases vNv (mv N pl) m 2 <;> decide +kernel
  · refine ⟨be, ?_⟩
    rw [if_neg (by rw [e, hA]; decide), xset_same h.2.2.2.2.2.2]
    unfold vNv
    rw [hA]
    simp only [Bool.not_true, Bool.false_and, xbs_z]
theorem m_isBarred (h : xIsM w N pl be) (hv : Vd (mv N pl)) {m : Nat} (hm : m < 3) : ∃ b, fX4_isBarred 15 (nI m) w = some (if vBr (mv N pl) m then 1 else 0, w.set 23 (.inl (0, 3, b))) := by
  have e : (xbs (vS (mv N pl) m 0) (vS (mv N pl) m 1) (vS (mv N pl) m 2) = 0) = (vAny (mv N pl) m = false) := propext (xbs_0 _ _ _)
  obtain ⟨b1, hb1⟩ := m_never h hv hm
  have h1 := h.setB b1
  obtain ⟨b2, hb2⟩ := m_possible h1 hm (vWi (mv N pl) m 0) (vWi (mv N pl) m 1) (vWi (mv N pl) m 2)
  rw [List.set_set] at hb2
  have h2 := h.setB b2
  have hw : xbs (vH (mv N pl) 0 && !vNv (mv N pl) m 0) (vH (mv N pl) 1 && !vNv (mv N pl) m 1) (vH (mv N pl) 2 && !vNv (mv N pl) m 2) = xbs (vWi (mv N pl) m 0) (vWi (mv N pl) m 1) (vWi (mv N pl) m 2) := rfl
  unfold fX4_isBarred vBr
  rw [if_pos h.1, m_there h]
  simp only [ob]
  rw [hb1]
  simp only [ob]
  rw [m_senders h1 m]
  simp only [ob]
  rw [xbs_an, hw]
  cases hA : vAny (mv N pl) m
  · rw [if_pos (by rw [e]; exact hA)]
    by_cases hz : xbs (vWi (mv N pl) m 0) (vWi (mv N pl) m 1) (vWi (mv N pl) m 2) = 0
    · rw [if_pos hz]
      have := (xbs_0 _ _ _).mp hz
      simp only [Bool.or_eq_false_iff] at this
      refine ⟨b1, ?_⟩
      unfold vGt
      rw [this.1.1, this.1.2, this.2]
      simp
    · rw [if_neg hz, hb2]
      simp only [ob]
      have step : ∀ (g t : Nat) (y : Bool), t < 3 → fX4_isBarred_40 (g + 1) 15 (nI m) (xbs (vWi (mv N pl) m 0) (vWi (mv N pl) m 1) (vWi (mv N pl) m 2)) (vPo (mv N pl) m (vWi (mv N pl) m 0) (vWi (mv N pl) m 1) (vWi (mv N pl) m 2)) (if y then 1 else 0) (nI t) (w.set 23 (.inl (0, 3, b2))) = fX4_isBarred_40 g 15 (nI m) (xbs (vWi (mv N pl) m 0) (vWi (mv N pl) m 1) (vWi (mv N pl) m 2)) (vPo (mv N pl) m (vWi (mv N pl) m 0) (vWi (mv N pl) m 1) (vWi (mv N pl) m 2)) (if y || vGt (mv N pl) m t then 1 else 0) (nI (t + 1)) (w.set 23 (.inl (0, 3, b2))) := by
        intro g t y ht
        have hb : vHas (xbs (vWi (mv N pl) m 0) (vWi (mv N pl) m 1) (vWi (mv N pl) m 2)) t = vWi (mv N pl) m t := by rw [vHas_t ht]; rcases lt3 ht with rfl | rfl | rfl <;> rfl
        have hz : (((xbs (vWi (mv N pl) m 0) (vWi (mv N pl) m 1) (vWi (mv N pl) m 2) >>> (nI t &&& 31)) &&& 1) = 1) = (vWi (mv N pl) m t = true) := by
          rw [← hb]
          unfold vHas
          exact propext (by rw [decide_eq_true_eq])
        have hby := m_isBeyond h2 hv ht hm (vPb (mv N pl) m (vWi (mv N pl) m 0) (vWi (mv N pl) m 1) (vWi (mv N pl) m 2) 0) (vPb (mv N pl) m (vWi (mv N pl) m 0) (vWi (mv N pl) m 1) (vWi (mv N pl) m 2) 1) (vPb (mv N pl) m (vWi (mv N pl) m 0) (vWi (mv N pl) m 1) (vWi (mv N pl) m 2) 2) false
        rw [if_neg (show ¬ (false = true) by decide)] at hby
        rw [fX4_isBarred_40, if_neg (by rw [xl3]; exact nI_ge ht (by omega))]
        simp only [nI_1, hz]
        unfold vPo
        rw [hby]
        simp only [ob]
        unfold vGt vG1
        cases y
        · rw [if_neg (show ¬ (false = true) by decide), if_pos (rfl : (0 : Int32) = 0), Bool.false_or]
          cases vWi (mv N pl) m t
          · rw [if_neg (by decide)]; rfl
          · rw [if_pos rfl, Bool.true_and]
            simp only [Bool.false_eq_true, if_false]
            cases ((!vPb (mv N pl) m (vWi (mv N pl) m 0) (vWi (mv N pl) m 1) (vWi (mv N pl) m 2) 0 || !decide (vP (mv N pl) 0 t m 0 ≤ vOw (mv N pl) t)) && (!vPb (mv N pl) m (vWi (mv N pl) m 0) (vWi (mv N pl) m 1) (vWi (mv N pl) m 2) 1 || !decide (vP (mv N pl) 0 t m 1 ≤ vOw (mv N pl) t)) && (!vPb (mv N pl) m (vWi (mv N pl) m 0) (vWi (mv N pl) m 1) (vWi (mv N pl) m 2) 2 || !decide (vP (mv N pl) 0 t m 2 ≤ vOw (mv N pl) t)))
            · rw [if_pos (by decide +kernel), if_neg (by decide)]
            · rw [if_neg (by decide +kernel), if_pos rfl]
        · rw [if_neg (by decide +kernel), Bool.true_or, if_pos rfl]
      have fin : ∀ (g : Nat) (y : Bool), fX4_isBarred_40 (g + 1) 15 (nI m) (xbs (vWi (mv N pl) m 0) (vWi (mv N pl) m 1) (vWi (mv N pl) m 2)) (vPo (mv N pl) m (vWi (mv N pl) m 0) (vWi (mv N pl) m 1) (vWi (mv N pl) m 2)) (if y then 1 else 0) (nI (2 + 1)) (w.set 23 (.inl (0, 3, b2))) = some (if y then 1 else 0, w.set 23 (.inl (0, 3, b2))) := by
        intro g y
        rw [fX4_isBarred_40, if_pos (by decide +kernel), if_pos]
        cases y <;> decide +kernel
      have e1 : fX4_isBarred_40 1000 15 (nI m) (xbs (vWi (mv N pl) m 0) (vWi (mv N pl) m 1) (vWi (mv N pl) m 2)) (vPo (mv N pl) m (vWi (mv N pl) m 0) (vWi (mv N pl) m 1) (vWi (mv N pl) m 2)) 0 0 (w.set 23 (.inl (0, 3, b2))) = fX4_isBarred_40 (999 + 1) 15 (nI m) (xbs (vWi (mv N pl) m 0) (vWi (mv N pl) m 1) (vWi (mv N pl) m 2)) (vPo (mv N pl) m (vWi (mv N pl) m 0) (vWi (mv N pl) m 1) (vWi (mv N pl) m 2)) (if false then 1 else 0) (nI 0) (w.set 23 (.inl (0, 3, b2))) := by rw [← xl0, if_neg (show ¬ (false = true) by decide)]
      rw [e1, step 999 0 _ (by omega), step 998 1 _ (by omega), step 997 2 _ (by omega), fin, Bool.false_or]
      exact ⟨b2, rfl⟩
  · rw [if_neg (by rw [e, hA]; decide)]
    exact ⟨b1, rfl⟩
theorem m_isRefined (h : xIsM w N pl be) (hv : Vd (mv N pl)) : ∃ b, fX4_isRefined 15 w = some (if vHo (mv N pl) && vRe (mv N pl) then 1 else 0, w.set 23 (.inl (0, 3, b))) := by
  obtain ⟨b0, e0⟩ := m_holds h hv
  obtain ⟨b1, e1⟩ := m_isBarred (h.setB b0) hv (m := 0) (by omega)
  obtain ⟨b2, e2⟩ := m_isBarred (h.setB b1) hv (m := 1) (by omega)
  obtain ⟨b3, e3⟩ := m_isBarred (h.setB b2) hv (m := 2) (by omega)
  rw [List.set_set, ← xl0] at e1
  rw [List.set_set, ← xl1] at e2
  rw [List.set_set, ← xl2] at e3
  unfold fX4_isRefined vRe
  rw [if_pos h.1, e0]
  simp only [ob]
  cases vHo (mv N pl)
  · rw [if_pos (by decide +kernel)]; exact ⟨b0, rfl⟩
  · rw [if_neg (by decide +kernel), e1]
    simp only [ob]
    cases vBr (mv N pl) 0
    · rw [if_pos (by decide +kernel), e2]
      simp only [ob]
      cases vBr (mv N pl) 1
      · rw [if_pos (by decide +kernel), e3]
        simp only [ob]
        cases vBr (mv N pl) 2
        · rw [if_pos (by decide +kernel)]; exact ⟨b3, rfl⟩
        · rw [if_neg (by decide +kernel)]; exact ⟨b3, rfl⟩
      · rw [if_neg (by decide +kernel)]; exact ⟨b2, rfl⟩
    · rw [if_neg (by decide +kernel)]; exact ⟨b1, rfl⟩
end MOD2
