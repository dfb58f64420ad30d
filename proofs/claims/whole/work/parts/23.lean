/-! THE REFERENCE: all plans -/
def mW (w : XW) (pl be : Nat → Int32) : XW := (w.set 22 (.inl (0, 6, pl))).set 23 (.inl (0, 3, be))
theorem mW_P (w : XW) (pl be q : Nat → Int32) : (mW w pl be).set 22 (.inl (0, 6, q)) = mW w q be := by
  unfold mW
  rw [List.set_comm _ _ (by decide : (23 : Nat) ≠ 22), List.set_set]
theorem mW_B (w : XW) (pl be q : Nat → Int32) : (mW w pl be).set 23 (.inl (0, 3, q)) = mW w pl q := by
  unfold mW
  rw [List.set_set]
theorem mW_same {w : XW} {N pl be : Nat → Int32} (h : xIsM w N pl be) : mW w pl be = w := by
  unfold mW
  rw [xset_same h.2.2.2.2.2.1, xset_same h.2.2.2.2.2.2]
theorem mW_is {w : XW} {N pl be : Nat → Int32} (h : xIsM w N pl be) (q r : Nat → Int32) : xIsM (mW w q r) N q r := (h.setP q).setB r
def vNn (f : Nat → Int32) (k i : Nat) : Nat := if k = 0 then (vUp f i).length else ((vUp f i).filter (vGd f k)).length
theorem vNn_all (f : Nat → Int32) (k : Nat) : vNn f k 729 = vNm f k := rfl
theorem vNn_succ (f : Nat → Int32) (k i : Nat) : vNn f k (i + 1) = vNn f k i + (if vHo (vPc f i) && (decide (k = 0) || vGd f k i) then 1 else 0) := by
  unfold vNn
  rw [vUp_succ]
  by_cases hk : k = 0
  · rw [if_pos hk, if_pos hk, decide_eq_true hk, Bool.true_or, Bool.and_true, List.length_append]
    cases vHo (vPc f i)
    · rw [if_neg (by decide), if_neg (by decide), List.length_nil]
    · rw [if_pos rfl, if_pos rfl, List.length_singleton]
  · rw [if_neg hk, if_neg hk, decide_eq_false hk, Bool.false_or, List.filter_append, List.length_append]
    cases vHo (vPc f i)
    · rw [if_neg (by decide), Bool.false_and, if_neg (by decide), List.filter_nil, List.length_nil]
    · rw [if_pos rfl, Bool.true_and]
      cases hg : vGd f k i
      · rw [if_neg (by decide), List.filter_cons, if_neg (by rw [hg]; decide), List.filter_nil, List.length_nil]
      · rw [if_pos rfl, List.filter_cons, if_pos hg, List.filter_nil, List.length_singleton]
theorem vNn_le (f : Nat → Int32) (k : Nat) : ∀ i, vNn f k i ≤ i
  | 0 => by unfold vNn vUp; simp
  | i + 1 => by
    have := vNn_le f k i
    rw [vNn_succ]
    split <;> omega
theorem k_sub {k : Nat} (h : 2 ≤ k) : nI k - nI 2 = nI (k - 2) := by
  have : nI k = nI (k - 2) + nI 2 := by rw [nI_add]; congr 1; omega
  rw [this]
  exact Int32.add_sub_cancel _ _
/-- the plan at a place of a list: its code, or -1 -/
def vAt (l : List Nat) (x : Int32) : Int32 := if x < 0 then -1 else match l[x.toNatClampNeg]? with | some c => nI c | none => -1
theorem k_of {x : Int32} (h : ¬ x < 0) : x = nI x.toNatClampNeg := by
  rw [Int32.lt_iff_toInt_lt, show (0 : Int32).toInt = 0 by decide +kernel] at h
  apply Int32.toInt_inj.mp
  have h1 := x.toInt_lt
  have h2 : x.toNatClampNeg = x.toInt.toNat := rfl
  rw [nI_toInt (by omega), h2]
  omega
theorem vAt_hi {l : List Nat} {x : Int32} (hx : ∀ n, n < l.length → x ≠ nI n) : vAt l x = -1 := by
  unfold vAt
  by_cases h0 : x < 0
  · rw [if_pos h0]
  · rw [if_neg h0]
    have : ¬ x.toNatClampNeg < l.length := fun z => hx _ z (k_of h0)
    rw [List.getElem?_eq_none (by omega)]
theorem vAt_at {l l2 : List Nat} {n c : Nat} (h : n = l.length) (hn : n < 2 ^ 31) : vAt ((l ++ [c]) ++ l2) (nI n) = nI c := by
  unfold vAt
  rw [if_neg (by rw [xl0]; exact nI_nlt (by omega) (by omega)), nI_clamp (by omega), List.append_assoc, List.getElem?_append_right (by omega), h, Nat.sub_self]
  rfl
section MOD4
variable {w : XW} {N pl be : Nat → Int32}
theorem m_counts4 (h : xIsM w N pl be) {k : Nat} (hk : k < 5) : ∀ (d g i : Nat) (q r : Nat → Int32), i + d = 729 → d < g → ∃ q1 r1, fX4_counts_4 g 15 (nI k) (nI (vNn (mv N pl) k i)) (nI i) (mW w q r) = some (nI (vNm (mv N pl) k), mW w q1 r1) := by
  intro d
  induction d with
  | zero =>
    intro g i q r hi hg
    obtain ⟨g, rfl⟩ : ∃ x, g = x + 1 := ⟨g - 1, by omega⟩
    obtain rfl : i = 729 := by omega
    rw [fX4_counts_4, if_pos (by decide +kernel), vNn_all]
    exact ⟨q, r, rfl⟩
  | succ d ih =>
    intro g i q r hi hg
    obtain ⟨g, rfl⟩ : ∃ x, g = x + 1 := ⟨g - 1, by omega⟩
    have h1 := mW_is h (mpc i) r
    have hv : Vd (mv N (mpc i)) := by rw [mv_pc N pl]; exact vPc_vd _ _
    obtain ⟨r2, e2⟩ := m_holds h1 hv
    rw [mW_B] at e2
    have h2 := mW_is h (mpc i) r2
    rw [fX4_counts_4, if_neg (by rw [show (729 : Int32) = nI 729 by decide +kernel]; exact nI_ge (by omega) (by omega)), m_looksAt (mW_is h q r) (by omega), mW_P]
    simp only [ob]
    rw [e2]
    simp only [ob]
    have hle := vNn_le (mv N pl) k i
    have key : ∀ (r3 : Nat → Int32) (b : Bool), (vHo (vPc (mv N pl) i) && (decide (k = 0) || vGd (mv N pl) k i)) = b → ∃ q1 r1, fX4_counts_4 g 15 (nI k) (nI (vNn (mv N pl) k i) + (if b then 1 else 0)) (nI i + 1) (mW w (mpc i) r3) = some (nI (vNm (mv N pl) k), mW w q1 r1) := by
      intro r3 b hb
      obtain ⟨q1, r1, e⟩ := ih g (i + 1) (mpc i) r3 (by omega) (by omega)
      rw [vNn_succ, hb] at e
      refine ⟨q1, r1, ?_⟩
      rw [← e, nI_1]
      congr 2
      cases b
      · rw [if_neg (by decide), if_neg (by decide), xl0, nI_add]
      · rw [if_pos rfl, if_pos rfl, xl1, nI_add]
    rw [mv_pc N pl]
    cases hh : vHo (vPc (mv N pl) i)
    · rw [if_pos (by decide +kernel)]
      exact key r2 false (by rw [hh, Bool.false_and])
    · rw [if_neg (by decide +kernel)]
      by_cases k0 : k = 0
      · subst k0
        rw [if_pos (by rw [← xl0])]
        exact key r2 true (by rw [hh]; rfl)
      · rw [if_neg (by rw [nI_z (by omega)]; exact k0)]
        by_cases k1 : k = 1
        · subst k1
          rw [if_pos (by rw [← xl1])]
          obtain ⟨r3, e3⟩ := m_isRefined h2 hv
          rw [mW_B, mv_pc N pl, hh, Bool.true_and] at e3
          rw [e3]
          simp only [ob]
          cases hr : vRe (vPc (mv N pl) i)
          · rw [if_pos (by decide +kernel)]
            exact key r3 false (by rw [hh, Bool.true_and, decide_eq_false k0, Bool.false_or]; unfold vGd; rw [if_pos rfl]; exact hr)
          · rw [if_neg (by decide +kernel)]
            exact key r3 true (by rw [hh, Bool.true_and, decide_eq_false k0, Bool.false_or]; unfold vGd; rw [if_pos rfl]; exact hr)
        · rw [if_neg (by rw [xl1]; exact fun z => k1 ((nI_eq (by omega) (by omega)).mp z)), m_sort h2 hv, mv_pc N pl]
          simp only [ob]
          rw [xl2, k_sub (by omega)]
          by_cases hs : vKi (vPc (mv N pl) i) = nI (k - 2)
          · rw [if_pos hs]
            exact key r2 true (by rw [hh, Bool.true_and, decide_eq_false k0, Bool.false_or]; unfold vGd; rw [if_neg k1]; exact decide_eq_true hs)
          · rw [if_neg hs]
            exact key r2 false (by rw [hh, Bool.true_and, decide_eq_false k0, Bool.false_or]; unfold vGd; rw [if_neg k1]; exact decide_eq_false hs)
theorem m_counts (h : xIsM w N pl be) {k : Nat} (hk : k < 5) : ∃ q r, fX4_counts 15 (nI k) w = some (nI (vNm (mv N pl) k), mW w q r) := by
  obtain ⟨q, r, e⟩ := m_counts4 h hk 729 1000 0 pl be (by omega) (by omega)
  rw [mW_same h, Nat.le_zero.mp (vNn_le (mv N pl) k 0), ← xl0] at e
  unfold fX4_counts
  rw [if_pos h.1]
  exact ⟨q, r, e⟩
theorem vUp_pre (f : Nat → Int32) (i d : Nat) : ∃ l, vUp f (i + d) = vUp f i ++ l := by
  induction d with
  | zero => exact ⟨[], by rw [Nat.add_zero, List.append_nil]⟩
  | succ d ih =>
    obtain ⟨l, e⟩ := ih
    rw [← Nat.add_assoc, vUp_succ, e]
    exact ⟨l ++ _, by rw [List.append_assoc]⟩
theorem vUp_lt {f : Nat → Int32} {i c : Nat} (h : c ∈ vUp f i) : c < i := List.mem_range.mp (List.mem_filter.mp h).1
theorem m_codeAt4 (h : xIsM w N pl be) (x : Int32) (l : List Nat) (hl : vUp (mv N pl) 729 = l) : ∀ (d g i n : Nat) (q r : Nat → Int32), i + d = 729 → d < g → (vUp (mv N pl) i).length = n → (∀ j, j < n → x ≠ nI j) → ∃ q1 r1, fX4_codeAt_4 g 15 x (nI n) (nI i) (mW w q r) = some (vAt l x, mW w q1 r1) := by
  intro d
  induction d with
  | zero =>
    intro g i n q r hi hg hn hx
    obtain ⟨g, rfl⟩ : ∃ x, g = x + 1 := ⟨g - 1, by omega⟩
    obtain rfl : i = 729 := by omega
    rw [fX4_codeAt_4, if_pos (by decide +kernel)]
    rw [hl] at hn
    subst hn
    rw [vAt_hi hx]
    exact ⟨q, r, rfl⟩
  | succ d ih =>
    intro g i n q r hi hg hn hx
    obtain ⟨g, rfl⟩ : ∃ x, g = x + 1 := ⟨g - 1, by omega⟩
    have h1 := mW_is h (mpc i) r
    have hv : Vd (mv N (mpc i)) := by rw [mv_pc N pl]; exact vPc_vd _ _
    obtain ⟨r2, e2⟩ := m_holds h1 hv
    rw [mW_B, mv_pc N pl] at e2
    rw [fX4_codeAt_4, if_neg (by rw [show (729 : Int32) = nI 729 by decide +kernel]; exact nI_ge (by omega) (by omega)), m_looksAt (mW_is h q r) (by omega), mW_P]
    simp only [ob]
    rw [e2]
    simp only [ob]
    have hs := vUp_succ (mv N pl) i
    have hlen := vUp_len (mv N pl) i
    cases hh : vHo (vPc (mv N pl) i)
    · rw [if_pos (by decide +kernel), nI_1]
      rw [hh, if_neg (by decide), List.append_nil] at hs
      exact ih g (i + 1) n (mpc i) r2 (by omega) (by omega) (by rw [hs]; exact hn) hx
    · rw [if_neg (by decide +kernel), nI_1, nI_1]
      rw [hh, if_pos rfl] at hs
      by_cases hq : nI n = x
      · rw [if_pos hq]
        subst hq
        obtain ⟨l2, e3⟩ := vUp_pre (mv N pl) (i + 1) d
        rw [show i + 1 + d = 729 by omega, hl, hs] at e3
        rw [e3, vAt_at hn.symm (by omega)]
        exact ⟨mpc i, r2, rfl⟩
      · rw [if_neg hq]
        refine ih g (i + 1) (n + 1) (mpc i) r2 (by omega) (by omega) (by rw [hs, List.length_append, List.length_singleton, hn]) ?_
        intro j hj z
        by_cases hn2 : j < n
        · exact hx j hn2 z
        · exact hq (by rw [z, show j = n by omega])
theorem m_codeAt (h : xIsM w N pl be) (x : Int32) : ∃ q r, fX4_codeAt 15 x w = some (vAt (vUp (mv N pl) 729) x, mW w q r) := by
  obtain ⟨l, hl⟩ : ∃ l, vUp (mv N pl) 729 = l := ⟨_, rfl⟩
  obtain ⟨q, r, e⟩ := m_codeAt4 h x l hl 729 1000 0 0 pl be (by omega) (by omega) (Nat.le_zero.mp (vUp_len (mv N pl) 0)) (by intro n hn; omega)
  rw [mW_same h, ← xl0] at e
  unfold fX4_codeAt
  rw [if_pos h.1, hl]
  exact ⟨q, r, e⟩
/-- the two numbers the search for the best plan carries -/
def vB2 (acc : Option (Nat × Int32)) (i2 i3 : Int32) : Prop := (acc = none ∧ i2 = -6) ∨ ∃ b y, acc = some (b, y) ∧ b < 729 ∧ i2 = nI b ∧ i3 = y
def vBq (f : Nat → Int32) (x : Int32) : Int32 := match vBst f with | none => -6 | some (b, y) => if x = 0 then nI b else y + 1000
theorem m_best20 (h : xIsM w N pl be) (x : Int32) : ∀ (d g i : Nat) (q r : Nat → Int32) (i2 i3 : Int32), i + d = 729 → d < g → vB2 ((vUp (mv N pl) i).foldl (vBs1 (mv N pl)) none) i2 i3 → ∃ q1 r1, fX4_bestPlan_20 g 15 x i2 i3 (nI i) (mW w q r) = some (vBq (mv N pl) x, mW w q1 r1) := by
  intro d
  induction d with
  | zero =>
    intro g i q r i2 i3 hi hg hx
    obtain ⟨g, rfl⟩ : ∃ x, g = x + 1 := ⟨g - 1, by omega⟩
    obtain rfl : i = 729 := by omega
    rw [fX4_bestPlan_20, if_pos (by decide +kernel)]
    refine ⟨q, r, ?_⟩
    unfold vBq vBst
    rw [show vLs (mv N pl) = vUp (mv N pl) 729 from rfl]
    rcases hx with ⟨e, e2⟩ | ⟨b, y, e, hb, e2, e3⟩
    · rw [e, e2]
      by_cases hx : x = 0
      · rw [if_pos hx]
      · rw [if_neg hx, if_pos rfl]
    · rw [e, e2, e3]
      by_cases hx : x = 0
      · rw [if_pos hx]
        show _ = some (if x = 0 then nI b else y + 1000, _)
        rw [if_pos hx]
      · rw [if_neg hx, if_neg (nI_m6 (by omega))]
        show _ = some (if x = 0 then nI b else y + 1000, _)
        rw [if_neg hx]
  | succ d ih =>
    intro g i q r i2 i3 hi hg hx
    obtain ⟨g, rfl⟩ : ∃ x, g = x + 1 := ⟨g - 1, by omega⟩
    have h1 := mW_is h (mpc i) r
    have hv : Vd (mv N (mpc i)) := by rw [mv_pc N pl]; exact vPc_vd _ _
    obtain ⟨r2, e2⟩ := m_holds h1 hv
    rw [mW_B, mv_pc N pl] at e2
    have hr := m_receives (mW_is h (mpc i) r2) hv
    rw [mv_pc N pl] at hr
    rw [fX4_bestPlan_20, if_neg (by rw [show (729 : Int32) = nI 729 by decide +kernel]; exact nI_ge (by omega) (by omega)), m_looksAt (mW_is h q r) (by omega), mW_P]
    simp only [ob]
    rw [e2]
    simp only [ob]
    rw [nI_1, hr]
    simp only [ob]
    rw [hr]
    simp only [ob]
    have hs := vUp_succ (mv N pl) i
    cases hh : vHo (vPc (mv N pl) i)
    · rw [if_pos (by decide +kernel)]
      rw [hh, if_neg (by decide), List.append_nil] at hs
      exact ih g (i + 1) (mpc i) r2 i2 i3 (by omega) (by omega) (by rw [hs]; exact hx)
    · rw [if_neg (by decide +kernel)]
      rw [hh, if_pos rfl] at hs
      have step : (vUp (mv N pl) (i + 1)).foldl (vBs1 (mv N pl)) none = vBs1 (mv N pl) ((vUp (mv N pl) i).foldl (vBs1 (mv N pl)) none) i := by
        rw [hs, List.foldl_append, List.foldl_cons, List.foldl_nil]
      rcases hx with ⟨e, e2⟩ | ⟨b, y, e, hb, e2, e3⟩
      · rw [if_pos e2]
        refine ih g (i + 1) (mpc i) r2 _ _ (by omega) (by omega) ?_
        rw [step, e]
        exact Or.inr ⟨i, _, rfl, by omega, rfl, rfl⟩
      · rw [if_neg (by rw [e2]; exact nI_m6 (by omega))]
        by_cases hle : vRs (vPc (mv N pl) i) ≤ i3
        · rw [if_pos hle]
          refine ih g (i + 1) (mpc i) r2 _ _ (by omega) (by omega) ?_
          rw [step, e]
          refine Or.inr ⟨b, y, ?_, hb, e2, e3⟩
          show (if vRs (vPc (mv N pl) i) ≤ y then some (b, y) else some (i, vRs (vPc (mv N pl) i))) = _
          rw [if_pos (e3 ▸ hle)]
        · rw [if_neg hle]
          refine ih g (i + 1) (mpc i) r2 _ _ (by omega) (by omega) ?_
          rw [step, e]
          refine Or.inr ⟨i, _, ?_, by omega, rfl, rfl⟩
          show (if vRs (vPc (mv N pl) i) ≤ y then some (b, y) else some (i, vRs (vPc (mv N pl) i))) = _
          rw [if_neg (e3 ▸ hle)]
theorem m_in (x a b : Int32) (w : XW) : fX4_in x a b w = some (if a ≤ x ∧ x ≤ b then 1 else 0, w) := by
  unfold fX4_in
  by_cases h1 : x < a
  · rw [if_pos h1, if_neg (by intro z; exact absurd h1 (Int32.not_lt.mpr z.1))]
  · rw [if_neg h1]
    by_cases h2 : b < x
    · rw [if_pos h2, if_neg (by intro z; exact absurd h2 (Int32.not_lt.mpr z.2))]
    · rw [if_neg h2, if_pos ⟨Int32.not_lt.mp h1, Int32.not_lt.mp h2⟩]
theorem m_bestPlan (h : xIsM w N pl be) (x : Int32) : ∃ q r, fX4_bestPlan 15 x w = some (if 0 ≤ x ∧ x ≤ 1 then vBq (mv N pl) x else -2, mW w q r) := by
  unfold fX4_bestPlan
  rw [if_pos h.1, m_in]
  simp only [ob]
  by_cases hx : 0 ≤ x ∧ x ≤ 1
  · rw [if_pos hx, if_neg (by decide +kernel), if_pos hx]
    have hu : vUp (mv N pl) 0 = [] := List.length_eq_zero_iff.mp (Nat.le_zero.mp (vUp_len (mv N pl) 0))
    obtain ⟨q, r, e⟩ := m_best20 h x 729 1000 0 pl be (-6) 0 (by omega) (by omega) (Or.inl ⟨by rw [hu]; rfl, rfl⟩)
    rw [mW_same h, ← xl0] at e
    exact ⟨q, r, e⟩
  · rw [if_neg hx, if_pos (by decide +kernel), if_neg hx]
    exact ⟨pl, be, by rw [mW_same h]⟩
end MOD4
