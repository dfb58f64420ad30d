/-! THE CLASS: possible actions (with what is kept of them), types that would never send, plans that are refined -/
theorem xset_get {w : XW} {k j : Nat} (e : XE) (h : k ≠ j) : (w.set k e)[j]? = w[j]? := List.getElem?_set_ne h
theorem xset_self {w : XW} {k : Nat} {e e0 : XE} (h : w[k]? = some e0) : (w.set k e)[k]? = some e := by
  have hl : k < w.length := (List.getElem?_eq_some_iff.mp h).1
  rw [List.getElem?_set, if_pos rfl, if_pos hl]
theorem xset_same {w : XW} {k : Nat} {e : XE} (h : w[k]? = some e) : w.set k e = w := by
  apply List.ext_getElem?
  intro i
  by_cases hk : k = i
  · subst hk; rw [xset_self h, h]
  · rw [xset_get e hk]
theorem xis_set {w : XW} {k a c : Nat} {e : XE} (h : k ≠ a) : xis (w.set k e) a c = xis w a c := by unfold xis; rw [xset_get e h]
theorem xgR_set {w : XW} {k a c j : Nat} {e : XE} (h : k ≠ a) : xgR (w.set k e) a c j = xgR w a c j := by unfold xgR; rw [xset_get e h]
theorem xgI_set {w : XW} {k a c j : Nat} {e : XE} (h : k ≠ a) : xgI (w.set k e) a c j = xgI w a c j := by unfold xgI; rw [xset_get e h]
theorem xIsG.setP {w : XW} {a ca pa : Nat} {f p : Nat → Int32} (h : xIsG w a ca pa f p) (h1 : a ≠ pa) (h2 : ca ≠ pa) (q : Nat → Int32) : xIsG (w.set pa (.inl (0, 24, q))) a ca pa f q := by
  obtain ⟨e1, e2, e3, e4, e5⟩ := h
  exact ⟨by rw [xis_set (Ne.symm h1)]; exact e1, by rw [xgR_set (Ne.symm h1)]; exact e2, by rw [xgR_set (Ne.symm h1)]; exact e3, by rw [xset_get _ (Ne.symm h2)]; exact e4, xset_self e5⟩
theorem xIsG.setC {w : XW} {a ca pa : Nat} {f p : Nat → Int32} (h : xIsG w a ca pa f p) (h1 : a ≠ ca) (h2 : ca ≠ pa) (q : Nat → Int32) : xIsG (w.set ca (.inl (0, 72, q))) a ca pa q p := by
  obtain ⟨e1, e2, e3, e4, e5⟩ := h
  exact ⟨by rw [xis_set (Ne.symm h1)]; exact e1, by rw [xgR_set (Ne.symm h1)]; exact e2, by rw [xgR_set (Ne.symm h1)]; exact e3, xset_self e4, by rw [xset_get _ h2]; exact e5⟩
def xbn (b0 b1 b2 : Bool) : Nat := (if b0 then 1 else 0) + (if b1 then 2 else 0) + (if b2 then 4 else 0)
theorem xbs_n : ∀ b0 b1 b2 : Bool, xbs b0 b1 b2 = nI (xbn b0 b1 b2) ∧ xbn b0 b1 b2 < 8 := by decide +kernel
theorem xbs_or : ∀ a0 a1 a2 b0 b1 b2 : Bool, xbs a0 a1 a2 ||| xbs b0 b1 b2 = xbs (a0 || b0) (a1 || b1) (a2 || b2) := by decide +kernel
theorem xbs_an : ∀ a0 a1 a2 b0 b1 b2 : Bool, xbs a0 a1 a2 &&& (xbs b0 b1 b2 ^^^ (-1)) = xbs (a0 && !b0) (a1 && !b1) (a2 && !b2) := by decide +kernel
theorem xbs_o1 : ∀ b0 b1 b2 : Bool, (xbs b0 b1 b2 ||| ((1 : Int32) <<< (nI 0 &&& 31)) = xbs true b1 b2) ∧ (xbs b0 b1 b2 ||| ((1 : Int32) <<< (nI 1 &&& 31)) = xbs b0 true b2) ∧ (xbs b0 b1 b2 ||| ((1 : Int32) <<< (nI 2 &&& 31)) = xbs b0 b1 true) := by decide +kernel
theorem xbs_z : xbs false false false = 0 := by decide +kernel
theorem vHas_t {b0 b1 b2 : Bool} {t : Nat} (ht : t < 3) : vHas (xbs b0 b1 b2) t = if t = 0 then b0 else if t = 1 then b1 else b2 := by
  have := vHas_bs b0 b1 b2
  rcases lt3 ht with rfl | rfl | rfl
  · exact this.1
  · exact this.2.1
  · exact this.2.2
/-- is an action best by some weights of the loops -/
def vQ (f : Nat → Int32) (m x0 x1 x2 a : Nat) : Bool := vIb (vWo f m 0 (nI x0) (nI x1) (nI x2)) (vWo f m 1 (nI x0) (nI x1) (nI x2)) (vWo f m 2 (nI x0) (nI x1) (nI x2)) a
def vQ3 (f : Nat → Int32) (m x0 x1 n2 c a : Nat) : Bool := (List.range (n2 + 1 - c)).any (fun j => !decide (x0 + x1 + (c + j) = 0) && vQ f m x0 x1 (c + j) a)
theorem any_succ (n : Nat) (P : Nat → Bool) : (List.range (n + 1)).any P = (P 0 || (List.range n).any (fun j => P (j + 1))) := by
  rw [List.range_succ_eq_map, List.any_cons, List.any_map]
  rfl
theorem vQ3_step (f : Nat → Int32) (m x0 x1 n2 c a : Nat) (h : c ≤ n2) : vQ3 f m x0 x1 n2 c a = ((!decide (x0 + x1 + c = 0) && vQ f m x0 x1 c a) || vQ3 f m x0 x1 n2 (c + 1) a) := by
  unfold vQ3
  rw [show n2 + 1 - c = (n2 + 1 - (c + 1)) + 1 by omega, any_succ]
  congr 1
  congr 1
  funext j
  rw [show c + (j + 1) = c + 1 + j by omega]
def vQ2 (f : Nat → Int32) (m x0 n1 n2 c a : Nat) : Bool := (List.range (n1 + 1 - c)).any (fun j => vQ3 f m x0 (c + j) n2 0 a)
theorem vQ2_step (f : Nat → Int32) (m x0 n1 n2 c a : Nat) (h : c ≤ n1) : vQ2 f m x0 n1 n2 c a = (vQ3 f m x0 c n2 0 a || vQ2 f m x0 n1 n2 (c + 1) a) := by
  unfold vQ2
  rw [show n1 + 1 - c = (n1 + 1 - (c + 1)) + 1 by omega, any_succ]
  congr 1
  congr 1
  funext j
  rw [show c + (j + 1) = c + 1 + j by omega]
def vQ1 (f : Nat → Int32) (m n0 n1 n2 c a : Nat) : Bool := (List.range (n0 + 1 - c)).any (fun j => vQ2 f m (c + j) n1 n2 0 a)
theorem vQ1_step (f : Nat → Int32) (m n0 n1 n2 c a : Nat) (h : c ≤ n0) : vQ1 f m n0 n1 n2 c a = (vQ2 f m c n1 n2 0 a || vQ1 f m n0 n1 n2 (c + 1) a) := by
  unfold vQ1
  rw [show n0 + 1 - c = (n0 + 1 - (c + 1)) + 1 by omega, any_succ]
  congr 1
  congr 1
  funext j
  rw [show c + (j + 1) = c + 1 + j by omega]
theorem vQ1_eq (f : Nat → Int32) (m : Nat) (T0 T1 T2 : Bool) (a : Nat) : vQ1 f m (if T0 then 4 else 0) (if T1 then 4 else 0) (if T2 then 4 else 0) 0 a = vPb f m T0 T1 T2 a := by
  have e : ∀ x y : Bool, (x = true ↔ y = true) → x = y := by decide
  apply e
  unfold vQ1 vQ2 vQ3 vPb vQ
  simp only [List.any_eq_true, List.mem_range, Nat.zero_add, Nat.sub_zero, Bool.and_eq_true, Bool.or_eq_true, Bool.not_eq_true', decide_eq_false_iff_not, decide_eq_true_eq]
  constructor
  · rintro ⟨x0, h0, x1, h1, x2, h2, hs, hb⟩
    have g0 : x0 ≤ 4 ∧ (x0 = 0 ∨ T0 = true) := by cases T0 <;> simp at h0 ⊢ <;> omega
    have g1 : x1 ≤ 4 ∧ (x1 = 0 ∨ T1 = true) := by cases T1 <;> simp at h1 ⊢ <;> omega
    have g2 : x2 ≤ 4 ∧ (x2 = 0 ∨ T2 = true) := by cases T2 <;> simp at h2 ⊢ <;> omega
    have d0 : (x0 + 5 * x1 + 25 * x2) % 5 = x0 := by omega
    have d1 : (x0 + 5 * x1 + 25 * x2) / 5 % 5 = x1 := by omega
    have d2 : (x0 + 5 * x1 + 25 * x2) / 25 = x2 := by omega
    refine ⟨x0 + 5 * x1 + 25 * x2, by omega, ⟨⟨⟨by omega, ?_⟩, ?_⟩, ?_⟩, ?_⟩
    · rw [d0]; exact g0.2
    · rw [d1]; exact g1.2
    · rw [d2]; exact g2.2
    · rw [d0, d1, d2]; exact hb
  · rintro ⟨k, hk, ⟨⟨⟨h0, g0⟩, g1⟩, g2⟩, hb⟩
    have hdd : k / 25 = k / 5 / 5 := by rw [Nat.div_div_eq_div_mul]
    refine ⟨k % 5, ?_, k / 5 % 5, ?_, k / 25, ?_, by omega, hb⟩
    · cases T0 <;> simp at g0 ⊢ <;> omega
    · cases T1 <;> simp at g1 ⊢ <;> omega
    · cases T2 <;> simp at g2 ⊢ <;> omega
theorem vIb_any (x0 x1 x2 : Int32) : (vIb x0 x1 x2 0 || vIb x0 x1 x2 1 || vIb x0 x1 x2 2) = true := by
  simp only [vIb, Int32.le_iff_toInt_le]
  by_cases a1 : x1.toInt ≤ x0.toInt <;> by_cases a2 : x2.toInt ≤ x0.toInt <;> by_cases a3 : x2.toInt ≤ x1.toInt <;> by_cases a4 : x0.toInt ≤ x1.toInt <;> by_cases a5 : x0.toInt ≤ x2.toInt <;> by_cases a6 : x1.toInt ≤ x2.toInt <;> first
    | (exfalso; omega)
    | simp [a1, a2, a3, a4, a5, a6]
theorem vPb_of {f : Nat → Int32} {m : Nat} {T0 T1 T2 : Bool} {a k : Nat} (hk : k < 125) (h0 : ¬ k = 0) (g0 : k % 5 = 0 ∨ T0 = true) (g1 : k / 5 % 5 = 0 ∨ T1 = true) (g2 : k / 25 = 0 ∨ T2 = true) (hb : vQ f m (k % 5) (k / 5 % 5) (k / 25) a = true) : vPb f m T0 T1 T2 a = true := by
  unfold vPb
  rw [List.any_eq_true]
  refine ⟨k, List.mem_range.mpr hk, ?_⟩
  unfold vQ at hb
  simp only [Bool.and_eq_true, Bool.or_eq_true, Bool.not_eq_true', decide_eq_false_iff_not, decide_eq_true_eq]
  exact ⟨⟨⟨⟨h0, g0⟩, g1⟩, g2⟩, hb⟩
theorem vPb_ne {f : Nat → Int32} {m : Nat} {T0 T1 T2 : Bool} (h : (T0 || T1 || T2) = true) : (vPb f m T0 T1 T2 0 || vPb f m T0 T1 T2 1 || vPb f m T0 T1 T2 2) = true := by
  have key : ∀ k, k < 125 → ¬ k = 0 → (k % 5 = 0 ∨ T0 = true) → (k / 5 % 5 = 0 ∨ T1 = true) → (k / 25 = 0 ∨ T2 = true) → (vPb f m T0 T1 T2 0 || vPb f m T0 T1 T2 1 || vPb f m T0 T1 T2 2) = true := by
    intro k hk h0 g0 g1 g2
    have ha := vIb_any (vWo f m 0 (nI (k % 5)) (nI (k / 5 % 5)) (nI (k / 25))) (vWo f m 1 (nI (k % 5)) (nI (k / 5 % 5)) (nI (k / 25))) (vWo f m 2 (nI (k % 5)) (nI (k / 5 % 5)) (nI (k / 25)))
    simp only [Bool.or_eq_true] at ha ⊢
    rcases ha with (ha | ha) | ha
    · exact Or.inl (Or.inl (vPb_of hk h0 g0 g1 g2 ha))
    · exact Or.inl (Or.inr (vPb_of hk h0 g0 g1 g2 ha))
    · exact Or.inr (vPb_of hk h0 g0 g1 g2 ha)
  cases T0
  · cases T1
    · cases T2
      · cases h
      · exact key 25 (by omega) (by omega) (Or.inl (by omega)) (Or.inl (by omega)) (Or.inr rfl)
    · exact key 5 (by omega) (by omega) (Or.inl (by omega)) (Or.inr rfl) (Or.inl (by omega))
  · exact key 1 (by omega) (by omega) (Or.inr rfl) (Or.inl (by omega)) (Or.inl (by omega))
/-- no actions, no types -/
theorem vPb_f {f : Nat → Int32} {m a : Nat} : vPb f m false false false a = false := by
  rw [← vQ1_eq]
  unfold vQ1 vQ2 vQ3
  simp
/-! the three loops -/
section POSS
variable {w : XW} {a ca pa : Nat} {f p : Nat → Int32}
theorem s_poss3 (h : xIsG w a ca pa f p) {m : Nat} (hm : m < 3) {i3 i4 i5 : Int32} {n2 x0 x1 : Nat} (hn2 : n2 ≤ 4) (hx0 : x0 ≤ 4) (hx1 : x1 ≤ 4) (k : Nat → Int32 → Int32 → Int32 → Int32 → Int32 → Int32 → Int32 → Int32 → XW → Option (Int32 × XW)) :
    ∀ (d g c : Nat) (s0 s1 s2 : Bool), c + d = n2 + 1 → d < g → fX0_possibleActions_108 k g a (nI m) i3 i4 i5 (nI n2) (xbs s0 s1 s2) (nI x0) (nI x1) (nI c) w = k a (nI m) i3 i4 i5 (nI n2) (xbs (s0 || vQ3 f m x0 x1 n2 c 0) (s1 || vQ3 f m x0 x1 n2 c 1) (s2 || vQ3 f m x0 x1 n2 c 2)) (nI x0) (nI x1) w := by
  intro d
  induction d with
  | zero =>
    intro g c s0 s1 s2 hc hg
    obtain ⟨g, rfl⟩ : ∃ q, g = q + 1 := ⟨g - 1, by omega⟩
    rw [fX0_possibleActions_108, if_pos ((nI_ltI (by omega) (by omega)).mpr (by omega))]
    have e : ∀ b, vQ3 f m x0 x1 n2 c b = false := by
      intro b
      unfold vQ3
      rw [show n2 + 1 - c = 0 by omega]
      rfl
    rw [e, e, e, Bool.or_false, Bool.or_false, Bool.or_false]
  | succ d ih =>
    intro g c s0 s1 s2 hc hg
    obtain ⟨g, rfl⟩ : ∃ q, g = q + 1 := ⟨g - 1, by omega⟩
    rw [fX0_possibleActions_108, if_neg (fun z => by have := (nI_ltI (by omega) (by omega)).mp z; omega)]
    rw [vQ3_step f m x0 x1 n2 c 0 (by omega), vQ3_step f m x0 x1 n2 c 1 (by omega), vQ3_step f m x0 x1 n2 c 2 (by omega)]
    simp only [nI_add]
    rw [xl0]
    by_cases hz : x0 + x1 + c = 0
    · rw [if_pos ((nI_leI (by omega) (by omega)).mpr (by omega)), nI_1, ih g (c + 1) s0 s1 s2 (by omega) (by omega)]
      simp [hz]
    · rw [if_neg (fun z => by have := (nI_leI (by omega) (by omega)).mp z; omega), s_bestBy h hm]
      simp only [ob]
      unfold vBest vB3
      rw [xbs_or, nI_1, ih g (c + 1) _ _ _ (by omega) (by omega)]
      rw [decide_eq_false hz]
      unfold vQ
      simp only [Bool.not_false, Bool.true_and, Bool.or_assoc]
theorem s_poss2 (h : xIsG w a ca pa f p) {m : Nat} (hm : m < 3) {i3 i4 : Int32} {n1 n2 x0 : Nat} (hn1 : n1 ≤ 4) (hn2 : n2 ≤ 4) (hx0 : x0 ≤ 4) (k : Nat → Int32 → Int32 → Int32 → Int32 → Int32 → Int32 → Int32 → XW → Option (Int32 × XW)) :
    ∀ (d g c : Nat) (s0 s1 s2 : Bool), c + d = n1 + 1 → d < g → fX0_possibleActions_98 k g a (nI m) i3 i4 (nI n1) (nI n2) (xbs s0 s1 s2) (nI x0) (nI c) w = k a (nI m) i3 i4 (nI n1) (nI n2) (xbs (s0 || vQ2 f m x0 n1 n2 c 0) (s1 || vQ2 f m x0 n1 n2 c 1) (s2 || vQ2 f m x0 n1 n2 c 2)) (nI x0) w := by
  intro d
  induction d with
  | zero =>
    intro g c s0 s1 s2 hc hg
    obtain ⟨g, rfl⟩ : ∃ q, g = q + 1 := ⟨g - 1, by omega⟩
    rw [fX0_possibleActions_98, if_pos ((nI_ltI (by omega) (by omega)).mpr (by omega))]
    have e : ∀ b, vQ2 f m x0 n1 n2 c b = false := by
      intro b
      unfold vQ2
      rw [show n1 + 1 - c = 0 by omega]
      rfl
    rw [e, e, e, Bool.or_false, Bool.or_false, Bool.or_false]
  | succ d ih =>
    intro g c s0 s1 s2 hc hg
    obtain ⟨g, rfl⟩ : ∃ q, g = q + 1 := ⟨g - 1, by omega⟩
    rw [fX0_possibleActions_98, if_neg (fun z => by have := (nI_ltI (by omega) (by omega)).mp z; omega)]
    rw [vQ2_step f m x0 n1 n2 c 0 (by omega), vQ2_step f m x0 n1 n2 c 1 (by omega), vQ2_step f m x0 n1 n2 c 2 (by omega)]
    rw [xl0, s_poss3 h hm hn2 hx0 (by omega) _ (n2 + 1) 1000 0 s0 s1 s2 (by omega) (by omega)]
    simp only [nI_1]
    rw [ih g (c + 1) _ _ _ (by omega) (by omega)]
    simp [Bool.or_assoc]
theorem s_poss1 (h : xIsG w a ca pa f p) {m : Nat} (hm : m < 3) {q : Nat} (hq : q < 24) {n0 n1 n2 : Nat} (hn0 : n0 ≤ 4) (hn1 : n1 ≤ 4) (hn2 : n2 ≤ 4) :
    ∀ (d g c : Nat) (s0 s1 s2 : Bool), c + d = n0 + 1 → d < g → fX0_possibleActions_88 g a (nI m) (nI q) (nI n0) (nI n1) (nI n2) (xbs s0 s1 s2) (nI c) w = some (xbs (s0 || vQ1 f m n0 n1 n2 c 0) (s1 || vQ1 f m n0 n1 n2 c 1) (s2 || vQ1 f m n0 n1 n2 c 2), w.set pa (.inl (0, 24, xct 24 (upd p q (xbs (s0 || vQ1 f m n0 n1 n2 c 0) (s1 || vQ1 f m n0 n1 n2 c 1) (s2 || vQ1 f m n0 n1 n2 c 2)))))) := by
  intro d
  induction d with
  | zero =>
    intro g c s0 s1 s2 hc hg
    obtain ⟨g, rfl⟩ : ∃ q, g = q + 1 := ⟨g - 1, by omega⟩
    rw [fX0_possibleActions_88, if_pos ((nI_ltI (by omega) (by omega)).mpr (by omega)), h.2.2.1]
    have e : ∀ b, vQ1 f m n0 n1 n2 c b = false := by
      intro b
      unfold vQ1
      rw [show n0 + 1 - c = 0 by omega]
      rfl
    rw [e, e, e, Bool.or_false, Bool.or_false, Bool.or_false]
    simp only [ob]
    rw [xsI_ok h.2.2.2.2 hq (by omega)]
    simp only [ob]
  | succ d ih =>
    intro g c s0 s1 s2 hc hg
    obtain ⟨g, rfl⟩ : ∃ q, g = q + 1 := ⟨g - 1, by omega⟩
    rw [fX0_possibleActions_88, if_neg (fun z => by have := (nI_ltI (by omega) (by omega)).mp z; omega)]
    rw [vQ1_step f m n0 n1 n2 c 0 (by omega), vQ1_step f m n0 n1 n2 c 1 (by omega), vQ1_step f m n0 n1 n2 c 2 (by omega)]
    rw [xl0, s_poss2 h hm hn1 hn2 (by omega) _ (n1 + 1) 1000 0 s0 s1 s2 (by omega) (by omega)]
    simp only [nI_1]
    rw [ih g (c + 1) _ _ _ (by omega) (by omega)]
    simp [Bool.or_assoc]
/-- what is kept of the possible actions is right -/
def Vc (f p : Nat → Int32) : Prop := (∀ k, 24 ≤ k → p k = 0) ∧ ∀ m, m < 3 → ∀ T0 T1 T2 : Bool, p (8 * m + xbn T0 T1 T2) = 0 ∨ p (8 * m + xbn T0 T1 T2) = vPo f m T0 T1 T2
theorem xbn_inj : ∀ a0 a1 a2 b0 b1 b2 : Bool, xbn a0 a1 a2 = xbn b0 b1 b2 → a0 = b0 ∧ a1 = b1 ∧ a2 = b2 := by decide +kernel
theorem Vc.upd {f p : Nat → Int32} (hc : Vc f p) {m : Nat} (hm : m < 3) (T0 T1 T2 : Bool) : Vc f (xct 24 (upd p (8 * m + xbn T0 T1 T2) (vPo f m T0 T1 T2))) := by
  refine ⟨fun k hk => by unfold xct; rw [if_neg (by omega)], ?_⟩
  intro m1 hm1 U0 U1 U2
  have b1 := (xbs_n T0 T1 T2).2
  have b2 := (xbs_n U0 U1 U2).2
  unfold xct
  rw [if_pos (by omega)]
  by_cases e : 8 * m1 + xbn U0 U1 U2 = 8 * m + xbn T0 T1 T2
  · have e1 : m1 = m := by omega
    have e2 : xbn U0 U1 U2 = xbn T0 T1 T2 := by omega
    obtain ⟨rfl, rfl, rfl⟩ := xbn_inj _ _ _ _ _ _ e2
    subst e1
    exact Or.inr (by unfold Jvm.Pilot.@@N@@.upd; rw [if_pos rfl])
  · unfold Jvm.Pilot.@@N@@.upd
    rw [if_neg e]
    exact hc.2 m1 hm1 U0 U1 U2
theorem xif {α : Type} (b : Bool) (F : Int32 → α) : (if (if b = true then (1 : Int32) else 0) = 0 then F 0 else F 4) = F (if b then 4 else 0) := by
  cases b
  · rw [if_neg (show ¬ (false = true) by decide), if_pos rfl, if_neg (show ¬ (false = true) by decide)]
  · rw [if_pos rfl, if_neg (by decide +kernel), if_pos rfl]
theorem s_possible (h : xIsG w a ca pa f p) (hc : Vc f p) {m : Nat} (hm : m < 3) (T0 T1 T2 : Bool) : ∃ q, fX0_possibleActions a (nI m) (xbs T0 T1 T2) w = some (vPo f m T0 T1 T2, w.set pa (.inl (0, 24, q))) ∧ Vc f q := by
  obtain ⟨en, hn⟩ := xbs_n T0 T1 T2
  have hpl : nI m * 8 + xbs T0 T1 T2 = nI (8 * m + xbn T0 T1 T2) := by
    rw [en, show (8 : Int32) = nI 8 by decide +kernel, pk_mul, nI_add, Nat.mul_comm]
  have h80 : ∀ T : Bool, ∀ n0 n1, n0 ≤ 4 → n1 ≤ 4 → fX0_possibleActions_80 a (nI m) (nI (8 * m + xbn T0 T1 T2)) (nI n0) (nI n1) (if T then 4 else 0) w = some (xbs (vQ1 f m n0 n1 (if T then 4 else 0) 0 0) (vQ1 f m n0 n1 (if T then 4 else 0) 0 1) (vQ1 f m n0 n1 (if T then 4 else 0) 0 2), w.set pa (.inl (0, 24, xct 24 (upd p (8 * m + xbn T0 T1 T2) (xbs (vQ1 f m n0 n1 (if T then 4 else 0) 0 0) (vQ1 f m n0 n1 (if T then 4 else 0) 0 1) (vQ1 f m n0 n1 (if T then 4 else 0) 0 2)))))) := by
    intro T n0 n1 h0 h1
    unfold fX0_possibleActions_80
    have e : (if T then (4 : Int32) else 0) = nI (if T then 4 else 0) := by cases T <;> decide +kernel
    rw [e, show (fX0_possibleActions_88 1000 a (nI m) (nI (8 * m + xbn T0 T1 T2)) (nI n0) (nI n1) (nI (if T then 4 else 0)) 0 0 w) = fX0_possibleActions_88 1000 a (nI m) (nI (8 * m + xbn T0 T1 T2)) (nI n0) (nI n1) (nI (if T then 4 else 0)) (xbs false false false) (nI 0) w by rw [xbs_z, ← xl0]]
    rw [s_poss1 h hm (by omega) h0 h1 (by cases T <;> simp) (n0 + 1) 1000 0 false false false (by omega) (by omega)]
    simp only [Bool.false_or]
  have hmain : fX0_possibleActions a (nI m) (xbs T0 T1 T2) w = if p (8 * m + xbn T0 T1 T2) = 0 then some (vPo f m T0 T1 T2, w.set pa (.inl (0, 24, xct 24 (upd p (8 * m + xbn T0 T1 T2) (vPo f m T0 T1 T2))))) else some (p (8 * m + xbn T0 T1 T2), w) := by
    unfold fX0_possibleActions
    rw [if_pos h.1, h.2.2.1]
    simp only [ob]
    rw [xaL_ok h.2.2.2.2]
    simp only [ob]
    rw [hpl, s_inN (by omega) (by omega)]
    simp only [ob]
    rw [if_neg (by decide +kernel), h.2.2.1]
    simp only [ob]
    rw [xaI_ok h.2.2.2.2 (by omega) (by omega)]
    simp only [ob]
    obtain ⟨hv0, hv1, hv2⟩ := vHas_bs T0 T1 T2
    by_cases hp : p (8 * m + xbn T0 T1 T2) = 0
    · rw [if_pos hp, if_pos hp, show (fX3_has (xbs T0 T1 T2) 0 w) = fX3_has (xbs T0 T1 T2) (nI 0) w by rw [← xl0], s_has, hv0]
      simp only [ob]
      have h65 : ∀ (U0 U1 : Bool), fX0_possibleActions_65 a (nI m) (xbs T0 T1 T2) (nI (8 * m + xbn T0 T1 T2)) (nI (if U0 then 4 else 0)) (if U1 then 4 else 0) w = some (xbs (vQ1 f m (if U0 then 4 else 0) (if U1 then 4 else 0) (if T2 then 4 else 0) 0 0) (vQ1 f m (if U0 then 4 else 0) (if U1 then 4 else 0) (if T2 then 4 else 0) 0 1) (vQ1 f m (if U0 then 4 else 0) (if U1 then 4 else 0) (if T2 then 4 else 0) 0 2), w.set pa (.inl (0, 24, xct 24 (upd p (8 * m + xbn T0 T1 T2) (xbs (vQ1 f m (if U0 then 4 else 0) (if U1 then 4 else 0) (if T2 then 4 else 0) 0 0) (vQ1 f m (if U0 then 4 else 0) (if U1 then 4 else 0) (if T2 then 4 else 0) 0 1) (vQ1 f m (if U0 then 4 else 0) (if U1 then 4 else 0) (if T2 then 4 else 0) 0 2)))))) := by
        intro U0 U1
        unfold fX0_possibleActions_65
        have e : (if U1 then (4 : Int32) else 0) = nI (if U1 then 4 else 0) := by cases U1 <;> decide +kernel
        rw [xl2, s_has, hv2, e]
        simp only [ob]
        rw [xif T2 (fun x => fX0_possibleActions_80 a (nI m) (nI (8 * m + xbn T0 T1 T2)) (nI (if U0 then 4 else 0)) (nI (if U1 then 4 else 0)) x w)]
        exact h80 T2 (if U0 then 4 else 0) (if U1 then 4 else 0) (by cases U0 <;> simp) (by cases U1 <;> simp)
      have h50 : ∀ (U0 : Bool), fX0_possibleActions_50 a (nI m) (xbs T0 T1 T2) (nI (8 * m + xbn T0 T1 T2)) (if U0 then 4 else 0) w = some (xbs (vQ1 f m (if U0 then 4 else 0) (if T1 then 4 else 0) (if T2 then 4 else 0) 0 0) (vQ1 f m (if U0 then 4 else 0) (if T1 then 4 else 0) (if T2 then 4 else 0) 0 1) (vQ1 f m (if U0 then 4 else 0) (if T1 then 4 else 0) (if T2 then 4 else 0) 0 2), w.set pa (.inl (0, 24, xct 24 (upd p (8 * m + xbn T0 T1 T2) (xbs (vQ1 f m (if U0 then 4 else 0) (if T1 then 4 else 0) (if T2 then 4 else 0) 0 0) (vQ1 f m (if U0 then 4 else 0) (if T1 then 4 else 0) (if T2 then 4 else 0) 0 1) (vQ1 f m (if U0 then 4 else 0) (if T1 then 4 else 0) (if T2 then 4 else 0) 0 2)))))) := by
        intro U0
        unfold fX0_possibleActions_50
        have e : (if U0 then (4 : Int32) else 0) = nI (if U0 then 4 else 0) := by cases U0 <;> decide +kernel
        rw [xl1, s_has, hv1, e]
        simp only [ob]
        rw [xif T1 (fun x => fX0_possibleActions_65 a (nI m) (xbs T0 T1 T2) (nI (8 * m + xbn T0 T1 T2)) (nI (if U0 then 4 else 0)) x w)]
        exact h65 U0 T1
      have h9 := h50 T0
      simp only [vQ1_eq] at h9
      rw [xif T0 (fun x => fX0_possibleActions_50 a (nI m) (xbs T0 T1 T2) (nI (8 * m + xbn T0 T1 T2)) x w)]
      exact h9
    · rw [if_neg hp, if_neg hp]
  rw [hmain]
  rcases hc.2 m hm T0 T1 T2 with hp | hp
  · rw [if_pos hp]
    exact ⟨_, rfl, hc.upd hm T0 T1 T2⟩
  · by_cases hz : p (8 * m + xbn T0 T1 T2) = 0
    · rw [if_pos hz]
      exact ⟨_, rfl, hc.upd hm T0 T1 T2⟩
    · rw [if_neg hz, hp]
      exact ⟨p, by rw [xset_same h.2.2.2.2], hc⟩
end POSS
