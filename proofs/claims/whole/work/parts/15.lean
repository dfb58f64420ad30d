/-! THE CLASS: never, refined -/
theorem bnt {b : Bool} (h : (!b) = true) : b = false := by cases b <;> simp_all
theorem bnf {b : Bool} (h : (!b) = false) : b = true := by cases b <;> simp_all
section NEV
variable {w : XW} {a ca pa : Nat} {f p : Nat → Int32}
def vMx (y : Int32) (b : Bool) (x : Int32) : Int32 := if b then (if y < x then x else y) else y
def vMn (y : Int32) (b : Bool) (x : Int32) : Int32 := if b then (if x < y then x else y) else y
/-- payoffs are within their bounds -/
def VP (f : Nat → Int32) : Prop := ∀ i, i < 54 → (-9 : Int32) ≤ f (12 + i) ∧ f (12 + i) ≤ 9
theorem s_most (h : xIsG w a ca pa f p) {t m : Nat} (ht : t < 3) (hm : m < 3) (b0 b1 b2 : Bool) : fX0_mostByAny a (nI t) (nI m) (xbs b0 b1 b2) w = some (vMx (vMx (vMx (-9) b0 (vP f 0 t m 0)) b1 (vP f 0 t m 1)) b2 (vP f 0 t m 2), w) := by
  obtain ⟨hv0, hv1, hv2⟩ := vHas_bs b0 b1 b2
  have step : ∀ (g c : Nat) (y : Int32) (b : Bool), c < 3 → vHas (xbs b0 b1 b2) c = b → fX0_mostByAny_7 (g + 1) a (nI t) (nI m) (xbs b0 b1 b2) y (nI c) w = fX0_mostByAny_7 g a (nI t) (nI m) (xbs b0 b1 b2) (vMx y b (vP f 0 t m c)) (nI (c + 1)) w := by
    intro g c y b hc hb
    rw [fX0_mostByAny_7, if_neg (by rw [xl3]; exact nI_ge hc (by omega)), s_has, hb]
    simp only [ob, nI_1]
    cases b
    · rw [if_pos (by decide +kernel)]; rfl
    · rw [if_neg (by decide +kernel), xl0, s_payPlace]
      simp only [ob]
      rw [s_cell h (by omega)]
      simp only [ob]
      rfl
  unfold fX0_mostByAny
  rw [if_pos h.1]
  show fX0_mostByAny_7 (999 + 1) a (nI t) (nI m) (xbs b0 b1 b2) (-9) (nI 0) w = _
  rw [step 999 0 _ b0 (by omega) hv0, step 998 1 _ b1 (by omega) hv1, step 997 2 _ b2 (by omega) hv2, fX0_mostByAny_7, if_pos (by decide +kernel)]
theorem s_least (h : xIsG w a ca pa f p) {t m : Nat} (ht : t < 3) (hm : m < 3) (b0 b1 b2 : Bool) : fX0_leastByAny a (nI t) (nI m) (xbs b0 b1 b2) w = some (vMn (vMn (vMn 9 b0 (vP f 0 t m 0)) b1 (vP f 0 t m 1)) b2 (vP f 0 t m 2), w) := by
  obtain ⟨hv0, hv1, hv2⟩ := vHas_bs b0 b1 b2
  have step : ∀ (g c : Nat) (y : Int32) (b : Bool), c < 3 → vHas (xbs b0 b1 b2) c = b → fX0_leastByAny_7 (g + 1) a (nI t) (nI m) (xbs b0 b1 b2) y (nI c) w = fX0_leastByAny_7 g a (nI t) (nI m) (xbs b0 b1 b2) (vMn y b (vP f 0 t m c)) (nI (c + 1)) w := by
    intro g c y b hc hb
    rw [fX0_leastByAny_7, if_neg (by rw [xl3]; exact nI_ge hc (by omega)), s_has, hb]
    simp only [ob, nI_1]
    cases b
    · rw [if_pos (by decide +kernel)]; rfl
    · rw [if_neg (by decide +kernel), xl0, s_payPlace]
      simp only [ob]
      rw [s_cell h (by omega)]
      simp only [ob]
      rfl
  unfold fX0_leastByAny
  rw [if_pos h.1]
  show fX0_leastByAny_7 (999 + 1) a (nI t) (nI m) (xbs b0 b1 b2) 9 (nI 0) w = _
  rw [step 999 0 _ b0 (by omega) hv0, step 998 1 _ b1 (by omega) hv1, step 997 2 _ b2 (by omega) hv2, fX0_leastByAny_7, if_pos (by decide +kernel)]
theorem vMx_le {b0 b1 b2 : Bool} {y x0 x1 x2 : Int32} (hb : (b0 || b1 || b2) = true) (h0 : (-9 : Int32) ≤ x0) (h1 : (-9 : Int32) ≤ x1) (h2 : (-9 : Int32) ≤ x2) : decide (y ≤ vMx (vMx (vMx (-9) b0 x0) b1 x1) b2 x2) = !((!b0 || !decide (y ≤ x0)) && (!b1 || !decide (y ≤ x1)) && (!b2 || !decide (y ≤ x2))) := by
  have e : ∀ u v : Bool, (u = true ↔ v = true) → u = v := by decide
  have e9 : (-9 : Int32).toInt = -9 := by decide +kernel
  rw [Int32.le_iff_toInt_le, e9] at h0 h1 h2
  apply e
  have ty : ∀ c : Prop, ∀ _ : Decidable c, ∀ u v : Int32, (if c then u else v).toInt = if c then u.toInt else v.toInt := fun c _ u v => by split <;> rfl
  cases b0 <;> cases b1 <;> cases b2 <;> first
    | exact absurd hb (by decide)
    | (simp only [vMx, Bool.not_true, Bool.not_false, Bool.false_or, Bool.true_or, Bool.true_and, Bool.and_true, if_true, if_false, Bool.false_eq_true, Bool.not_and, Bool.not_not, Bool.or_eq_true, decide_eq_true_eq, Int32.le_iff_toInt_le, Int32.lt_iff_toInt_lt, ty, e9]; repeat' split) <;> omega
theorem vMn_le {b0 b1 b2 : Bool} {y x0 x1 x2 : Int32} (hb : (b0 || b1 || b2) = true) (h0 : x0 ≤ (9 : Int32)) (h1 : x1 ≤ (9 : Int32)) (h2 : x2 ≤ (9 : Int32)) : decide (vMn (vMn (vMn 9 b0 x0) b1 x1) b2 x2 ≤ y) = !((!b0 || !decide (x0 ≤ y)) && (!b1 || !decide (x1 ≤ y)) && (!b2 || !decide (x2 ≤ y))) := by
  have e : ∀ u v : Bool, (u = true ↔ v = true) → u = v := by decide
  have e9 : (9 : Int32).toInt = 9 := by decide +kernel
  rw [Int32.le_iff_toInt_le, e9] at h0 h1 h2
  apply e
  have ty : ∀ c : Prop, ∀ _ : Decidable c, ∀ u v : Int32, (if c then u else v).toInt = if c then u.toInt else v.toInt := fun c _ u v => by split <;> rfl
  cases b0 <;> cases b1 <;> cases b2 <;> first
    | exact absurd hb (by decide)
    | (simp only [vMn, Bool.not_true, Bool.not_false, Bool.false_or, Bool.true_or, Bool.true_and, Bool.and_true, if_true, if_false, Bool.false_eq_true, Bool.not_and, Bool.not_not, Bool.or_eq_true, decide_eq_true_eq, Int32.le_iff_toInt_le, Int32.lt_iff_toInt_lt, ty, e9]; repeat' split) <;> omega
theorem VP.at {f : Nat → Int32} (h : VP f) {s t m b : Nat} (hs : s < 2) (ht : t < 3) (hm : m < 3) (hb : b < 3) : (-9 : Int32) ≤ vP f s t m b ∧ vP f s t m b ≤ 9 := by
  have := h (27 * s + 9 * t + 3 * m + b) (by omega)
  unfold vP
  rw [show 12 + 27 * s + 9 * t + 3 * m + b = 12 + (27 * s + 9 * t + 3 * m + b) by omega]
  exact this
theorem or3 {f : Nat → Int32} {t : Nat} (ht : t < 3) (T : Nat → Bool) (h : T t = true) : (T 0 || T 1 || T 2) = true := by
  rcases lt3 ht with rfl | rfl | rfl <;> simp [h]
theorem s_never (h : xIsG w a ca pa f p) (d1 : a ≠ pa) (d2 : ca ≠ pa) (hv : Vd f) (hP : VP f) (hc : Vc f p) {m : Nat} (hm : m < 3) : ∃ q, fX0_neverSenders a (nI m) w = some (xbs (vNv f m 0) (vNv f m 1) (vNv f m 2), w.set pa (.inl (0, 24, q))) ∧ Vc f q := by
  have e : (xbs (vS f m 0) (vS f m 1) (vS f m 2) = 0) = (vAny f m = false) := propext (xbs_0 _ _ _)
  obtain ⟨q, hq, hcq⟩ := s_possible h hc hm (vH f 0) (vH f 1) (vH f 2)
  have h' := h.setP d1 d2 q
  cases hA : vAny f m
  · refine ⟨q, ?_, hcq⟩
    unfold fX0_neverSenders
    rw [if_pos h.1, s_sendersOf h m]
    simp only [ob]
    rw [if_pos (by rw [e]; exact hA), s_typesThere h]
    simp only [ob]
    rw [hq]
    simp only [ob]
    have step : ∀ (g t : Nat) (y : Int32), t < 3 → fX0_neverSenders_28 (g + 1) a (nI m) (xbs (vH f 0) (vH f 1) (vH f 2)) (vPo f m (vH f 0) (vH f 1) (vH f 2)) y (nI t) (w.set pa (.inl (0, 24, q))) = fX0_neverSenders_28 g a (nI m) (xbs (vH f 0) (vH f 1) (vH f 2)) (vPo f m (vH f 0) (vH f 1) (vH f 2)) (if vNv f m t then y ||| ((1 : Int32) <<< (nI t &&& 31)) else y) (nI (t + 1)) (w.set pa (.inl (0, 24, q))) := by
      intro g t y ht
      have hb : vHas (xbs (vH f 0) (vH f 1) (vH f 2)) t = vH f t := by rw [vHas_t ht]; rcases lt3 ht with rfl | rfl | rfl <;> rfl
      rw [fX0_neverSenders_28, if_neg (by rw [xl3]; exact nI_ge ht (by omega)), s_has, hb]
      simp only [ob, nI_1]
      unfold vNv
      rw [hA]
      cases hH : vH f t
      · rw [if_pos (by decide +kernel)]; rfl
      · rw [if_neg (by decide +kernel), s_ownPayoff h' hv ht]
        simp only [ob]
        unfold vPo
        rw [s_most h' ht hm]
        simp only [ob]
        have hne := vPb_ne (f := f) (m := m) (or3 (f := f) ht (fun t => vH f t) hH)
        have hle := vMx_le (y := vOw f t) hne (hP.at (s := 0) (b := 0) (by omega) ht hm (by omega)).1 (hP.at (s := 0) (b := 1) (by omega) ht hm (by omega)).1 (hP.at (s := 0) (b := 2) (by omega) ht hm (by omega)).1
        unfold vN1
        by_cases hz : vOw f t ≤ vMx (vMx (vMx (-9) (vPb f m (vH f 0) (vH f 1) (vH f 2) 0) (vP f 0 t m 0)) (vPb f m (vH f 0) (vH f 1) (vH f 2) 1) (vP f 0 t m 1)) (vPb f m (vH f 0) (vH f 1) (vH f 2) 2) (vP f 0 t m 2)
        · rw [decide_eq_true hz] at hle
          rw [if_pos hz, bnt hle.symm]
          rfl
        · rw [decide_eq_false hz] at hle
          rw [if_neg hz, bnf hle.symm]
          rfl
    show fX0_neverSenders_28 (999 + 1) a (nI m) _ _ 0 (nI 0) _ = _
    rw [step 999 0 _ (by omega), step 998 1 _ (by omega), step 997 2 _ (by omega), fX0_neverSenders_28, if_pos (by decide +kernel)]
    congr 2
    cases vNv f m 0 <;> cases vNv f m 1 <;> cases vNv f m 2 <;> decide +kernel
  · refine ⟨p, ?_, hc⟩
    unfold fX0_neverSenders
    rw [if_pos h.1, s_sendersOf h m]
    simp only [ob]
    rw [if_neg (by rw [e, hA]; decide), xset_same h.2.2.2.2]
    unfold vNv
    rw [hA]
    congr 2
theorem s_untempted (h : xIsG w a ca pa f p) (d1 : a ≠ pa) (d2 : ca ≠ pa) (hv : Vd f) (hP : VP f) (hc : Vc f p) : ∃ q, fX0_isUntempted a w = some (if vRe f then 1 else 0, w.set pa (.inl (0, 24, q))) ∧ Vc f q := by
  have e : ∀ m, (xbs (vS f m 0) (vS f m 1) (vS f m 2) = 0) = (vAny f m = false) := fun m => propext (xbs_0 _ _ _)
  -- one message
  have step : ∀ (g m : Nat) (p0 : Nat → Int32), m < 3 → Vc f p0 → ∃ q, Vc f q ∧ fX0_isUntempted_2 (g + 1) a (nI m) (w.set pa (.inl (0, 24, p0))) = if vBr f m then some (0, w.set pa (.inl (0, 24, q))) else fX0_isUntempted_2 g a (nI (m + 1)) (w.set pa (.inl (0, 24, q))) := by
    intro g m p0 hm hc0
    have h0 := h.setP d1 d2 p0
    rw [fX0_isUntempted_2, if_neg (by rw [xl3]; exact nI_ge hm (by omega)), s_sendersOf h0 m]
    simp only [ob]
    cases hA : vAny f m
    · obtain ⟨q1, hq1, hc1⟩ := s_never h0 d1 d2 hv hP hc0 hm
      rw [List.set_set] at hq1
      have h1 := h.setP d1 d2 q1
      obtain ⟨q2, hq2, hc2⟩ := s_possible h1 hc1 hm (vWi f m 0) (vWi f m 1) (vWi f m 2)
      rw [List.set_set] at hq2
      have h2 := h.setP d1 d2 q2
      refine ⟨q2, hc2, ?_⟩
      rw [if_pos (by rw [e]; exact hA), s_typesThere h0]
      simp only [ob]
      rw [hq1]
      simp only [ob]
      rw [xbs_an, show (xbs (vH f 0 && !vNv f m 0) (vH f 1 && !vNv f m 1) (vH f 2 && !vNv f m 2)) = xbs (vWi f m 0) (vWi f m 1) (vWi f m 2) from rfl, hq2]
      simp only [ob]
      have st : ∀ (k81 : Nat → Int32 → XW → Option (Int32 × XW)) (k73 : XW → Option (Int32 × XW)) (g t : Nat), t < 3 → fX0_isUntempted_41 k81 k73 (g + 1) a (nI m) (xbs (vWi f m 0) (vWi f m 1) (vWi f m 2)) (vPo f m (vWi f m 0) (vWi f m 1) (vWi f m 2)) (nI t) (w.set pa (.inl (0, 24, q2))) = if vGt f m t then k73 (w.set pa (.inl (0, 24, q2))) else fX0_isUntempted_41 k81 k73 g a (nI m) (xbs (vWi f m 0) (vWi f m 1) (vWi f m 2)) (vPo f m (vWi f m 0) (vWi f m 1) (vWi f m 2)) (nI (t + 1)) (w.set pa (.inl (0, 24, q2))) := by
        intro k81 k73 g t ht
        have hb : vHas (xbs (vWi f m 0) (vWi f m 1) (vWi f m 2)) t = vWi f m t := by rw [vHas_t ht]; rcases lt3 ht with rfl | rfl | rfl <;> rfl
        rw [fX0_isUntempted_41, if_neg (by rw [xl3]; exact nI_ge ht (by omega)), s_has, hb]
        simp only [ob, nI_1]
        unfold vGt
        cases hH : vWi f m t
        · rw [if_pos (by decide +kernel)]; rfl
        · rw [if_neg (by decide +kernel), s_ownPayoff h2 hv ht]
          simp only [ob]
          unfold vPo
          rw [s_least h2 ht hm]
          simp only [ob]
          have hne := vPb_ne (f := f) (m := m) (or3 (f := f) ht (fun t => vWi f m t) hH)
          have hle := vMn_le (y := vOw f t) hne (hP.at (s := 0) (b := 0) (by omega) ht hm (by omega)).2 (hP.at (s := 0) (b := 1) (by omega) ht hm (by omega)).2 (hP.at (s := 0) (b := 2) (by omega) ht hm (by omega)).2
          unfold vG1
          by_cases hz : vMn (vMn (vMn 9 (vPb f m (vWi f m 0) (vWi f m 1) (vWi f m 2) 0) (vP f 0 t m 0)) (vPb f m (vWi f m 0) (vWi f m 1) (vWi f m 2) 1) (vP f 0 t m 1)) (vPb f m (vWi f m 0) (vWi f m 1) (vWi f m 2) 2) (vP f 0 t m 2) ≤ vOw f t
          · rw [decide_eq_true hz] at hle
            rw [if_pos hz, bnt hle.symm]
            rfl
          · rw [decide_eq_false hz] at hle
            rw [if_neg hz, bnf hle.symm]
            rfl
      have fin : ∀ (k81 : Nat → Int32 → XW → Option (Int32 × XW)) (k73 : XW → Option (Int32 × XW)) (g : Nat), fX0_isUntempted_41 k81 k73 (g + 1) a (nI m) (xbs (vWi f m 0) (vWi f m 1) (vWi f m 2)) (vPo f m (vWi f m 0) (vWi f m 1) (vWi f m 2)) (nI (2 + 1)) (w.set pa (.inl (0, 24, q2))) = k81 a (nI m) (w.set pa (.inl (0, 24, q2))) := by
        intro k81 k73 g
        rw [fX0_isUntempted_41, if_pos (by decide +kernel)]
      rw [show (1000 : Nat) = 999 + 1 from rfl, xl0, st _ _ 999 0 (by omega), show (999 : Nat) = 998 + 1 from rfl, st _ _ 998 1 (by omega), show (998 : Nat) = 997 + 1 from rfl, st _ _ 997 2 (by omega), show (997 : Nat) = 996 + 1 from rfl, fin]
      simp only [nI_1]
      unfold vBr
      rw [hA]
      cases vGt f m 0
      · cases vGt f m 1
        · cases vGt f m 2
          · rfl
          · rfl
        · rfl
      · rfl
    · refine ⟨p0, hc0, ?_⟩
      rw [if_neg (by rw [e, hA]; decide), nI_1]
      unfold vBr
      rw [hA]
      rfl
  unfold fX0_isUntempted
  rw [if_pos h.1]
  obtain ⟨q0, c0, e0⟩ := step 999 0 p (by omega) hc
  rw [xset_same h.2.2.2.2] at e0
  obtain ⟨q1, c1, e1⟩ := step 998 1 q0 (by omega) c0
  obtain ⟨q2, c2, e2⟩ := step 997 2 q1 (by omega) c1
  rw [show fX0_isUntempted_2 1000 a 0 w = fX0_isUntempted_2 (999 + 1) a (nI 0) w by rw [← xl0], e0]
  unfold vRe
  cases vBr f 0
  · rw [if_neg (by decide), e1]
    cases vBr f 1
    · rw [if_neg (by decide), e2]
      cases vBr f 2
      · rw [if_neg (by decide), fX0_isUntempted_2, if_pos (by decide +kernel)]
        exact ⟨q2, rfl, c2⟩
      · exact ⟨q2, rfl, c2⟩
    · exact ⟨q1, rfl, c1⟩
  · exact ⟨q0, rfl, c0⟩
end NEV
