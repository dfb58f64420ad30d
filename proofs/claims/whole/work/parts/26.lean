/-! BOTH SIDES: one cell changed; what a weight may be -/
def chg (f : Nat → Int32) (k : Nat) (x : Int32) : Nat → Int32 := xct 72 (upd f k x)
theorem k_in3 (x : Int32) : (if x < 0 then (0 : Int32) else if 3 ≤ x then 0 else 1) = if 0 ≤ x ∧ x ≤ 2 then 1 else 0 := by
  simp only [Int32.lt_iff_toInt_lt, Int32.le_iff_toInt_le, show (0 : Int32).toInt = 0 by decide +kernel, show (3 : Int32).toInt = 3 by decide +kernel, show (2 : Int32).toInt = 2 by decide +kernel]
  split
  · rw [if_neg (by omega)]
  · split
    · rw [if_neg (by omega)]
    · rw [if_pos (by omega)]
theorem k3 (x : Int32) : (∃ t : Nat, t < 3 ∧ x = nI t ∧ (0 ≤ x ∧ x ≤ 2)) ∨ ¬ (0 ≤ x ∧ x ≤ 2) := by
  by_cases h : 0 ≤ x ∧ x ≤ 2
  · have h2 := h
    rw [Int32.le_iff_toInt_le, Int32.le_iff_toInt_le, show (0 : Int32).toInt = 0 by decide +kernel, show (2 : Int32).toInt = 2 by decide +kernel] at h2
    exact Or.inl ⟨x.toNatClampNeg, by show x.toInt.toNat < 3; omega, k_of (by rw [Int32.not_lt]; exact h.1), h⟩
  · exact Or.inr h
theorem k9 (x : Int32) : (∃ t : Nat, t ≤ 9 ∧ x = nI t ∧ (0 ≤ x ∧ x ≤ 9)) ∨ ¬ (0 ≤ x ∧ x ≤ 9) := by
  by_cases h : 0 ≤ x ∧ x ≤ 9
  · have h2 := h
    rw [Int32.le_iff_toInt_le, Int32.le_iff_toInt_le, show (0 : Int32).toInt = 0 by decide +kernel, show (9 : Int32).toInt = 9 by decide +kernel] at h2
    exact Or.inl ⟨x.toNatClampNeg, by show x.toInt.toNat ≤ 9; omega, k_of (by rw [Int32.not_lt]; exact h.1), h⟩
  · exact Or.inr h
theorem c_in3 (x : Int32) (w : XW) : fX3_isWithin x 3 w = some (if 0 ≤ x ∧ x ≤ 2 then 1 else 0, w) := by rw [s_in, k_in3]
theorem k_nar : ∀ b : Bool, vp_nar .boolean (if b then (1 : Int32) else 0) = if b then 1 else 0 := by decide +kernel
theorem m_one (x : Int32) (w : XW) : fX4_isOne x w = some (if 0 ≤ x ∧ x ≤ 2 then 1 else 0, w) := by
  unfold fX4_isOne
  rw [m_in]
  simp only [ob]
  rw [if_pos]
  by_cases h : 0 ≤ x ∧ x ≤ 2
  · rw [if_pos h]; decide +kernel
  · rw [if_neg h]; decide +kernel
/-- may a group's cell take a weight: 0, -1, -2, -5 -/
def eW (f : Nat → Int32) (g : Nat) (t v : Int32) : Int32 := if 0 ≤ t ∧ t ≤ 2 then (if 0 ≤ v ∧ v ≤ 9 then (if f (3 * g) + f (3 * g + 1) + f (3 * g + 2) - f (3 * g + t.toNatClampNeg) + v = 0 then -5 else 0) else -2) else -1
def eB (f : Nat → Int32) (m t v : Int32) : Int32 := if 0 ≤ m ∧ m ≤ 2 then eW f (1 + m.toNatClampNeg) t v else -1
section STD
variable {w : XW} {f : Nat → Int32} {n : Nat} {H : Nat → Nat → Int32} {hb : Nat → Bool} {Sl : Nat → Nat → Int32} {pd at' od : Int32}
theorem c_chg (h : JC w f n H hb Sl) {k : Nat} (hk : k < 72) (x : Int32) : ∃ w1, fX0_change 1 (nI k) x w = some (f k, w1) ∧ JC w1 (chg f k x) n H hb Sl ∧ xFr fC w w1 := by
  obtain ⟨hn, h0, ⟨p, g1, g2, g3⟩, hI, hH, hS⟩ := h
  obtain ⟨q, r1, r2, r3⟩ := s_change g1 (by decide) (by decide) g3 g2 hk x
  have t : ∀ (e1 e2 : XE) (k : Nat), k ≠ 2 → k ≠ 3 → ((w.set 2 e1).set 3 e2)[k]? = w[k]? := fun e1 e2 k h1 h2 => by rw [xset_get _ (Ne.symm h2), xset_get _ (Ne.symm h1)]
  refine ⟨_, r1, ⟨hn, ?_, ⟨q, (g1.setC (by decide) (by decide) _).setP (by decide) (by decide) q, r2, r3⟩, hI.fr (fun k h1 h2 => t _ _ k (by omega) (by omega)), hH.fr (t _ _ 12 (by decide) (by decide)), hS.fr (t _ _ 13 (by decide) (by decide)) (t _ _ 14 (by decide) (by decide))⟩, (xFr.st _ (by decide)).tr (xFr.st _ (by decide))⟩
  unfold CO at h0 ⊢
  rw [t _ _ 0 (by decide) (by decide)]
  exact h0
theorem m_chg (h : JM w f n H hb Sl pd at' od) {k : Nat} (hk : k < 72) (x : Int32) : ∃ w1, fX4_changes 15 (nI (mj k)) x w = some (f k, w1) ∧ JM w1 (chg f k x) n H hb Sl pd at' od ∧ xFr fM w w1 := by
  obtain ⟨hn, h0, ⟨N, pl, be, c1, c2, c3, c4⟩, hH, hS⟩ := h
  have h0' := h0
  unfold MO at h0'
  have hf : f k = N (mj k) := by rw [← c4, MV_at, if_pos hk]
  unfold fX4_changes
  rw [if_pos (xis_ok h0'), xgR_ok (x := 16) h0' rfl]
  simp only [ob]
  rw [xaI_ok c1 (mj_lt hk) (by omega)]
  simp only [ob]
  rw [xsI_ok c1 (mj_lt hk) (by omega)]
  simp only [ob]
  have t : ∀ (e : XE) (k : Nat), k ≠ 16 → (w.set 16 e)[k]? = w[k]? := fun e k h1 => by rw [xset_get _ (Ne.symm h1)]
  refine ⟨_, by rw [hf], ⟨hn, ?_, ⟨_, pl, be, xset_self c1, by rw [t _ 22 (by decide)]; exact c2, by rw [t _ 23 (by decide)]; exact c3, ?_⟩, hH.fr (t _ 17 (by decide)), hS.fr (t _ 18 (by decide)) (t _ 19 (by decide))⟩, xFr.st _ (by decide)⟩
  · unfold MO
    rw [t _ 15 (by decide)]
    exact h0
  · rw [MV_upd N hk, c4]
    rfl
theorem c_weightError (h : JC w f n H hb Sl) (t v : Int32) : fX3_weightError 0 t v w = some (eW f 0 t v, w) := by
  obtain ⟨hn, h0, ⟨p, g1, g2, g3⟩, hI, hH, hS⟩ := h
  unfold CO at h0
  unfold fX3_weightError eW
  rw [if_pos (xis_ok h0), c_in3]
  simp only [ob]
  rcases k3 t with ⟨i, hi, rfl, ht⟩ | ht
  · rw [if_pos ht, if_pos ht, if_neg (by decide +kernel)]
    rcases k9 v with ⟨j, hj, rfl, hv⟩ | hv
    · rw [if_pos hv, if_neg (by rw [Int32.not_lt]; exact hv.1), if_pos hv.2, xgR_ok (x := 1) h0 rfl]
      simp only [ob]
      rw [s_weightSum g1]
      simp only [ob]
      unfold fX0_weightPlace
      rw [xgR_ok (x := 1) h0 rfl]
      simp only [ob]
      rw [s_cell g1 (by omega)]
      simp only [ob]
      rw [nI_clamp (by omega), Int32.zero_add, Nat.mul_zero, Nat.zero_add, Nat.zero_add, Nat.zero_add]
      by_cases e : f 0 + f 1 + f 2 - f i + nI j = 0
      · rw [if_pos e, if_pos e]
      · rw [if_neg e, if_neg e]
    · rw [if_neg hv]
      by_cases h1 : v < 0
      · rw [if_pos h1]
      · rw [if_neg h1, if_neg (fun z => hv ⟨Int32.not_lt.mp h1, z⟩)]
  · rw [if_neg ht, if_neg ht, if_pos (by decide +kernel)]
theorem c_beliefError (h : JC w f n H hb Sl) (m t v : Int32) : fX3_beliefError 0 m t v w = some (eB f m t v, w) := by
  obtain ⟨hn, h0, ⟨p, g1, g2, g3⟩, hI, hH, hS⟩ := h
  unfold CO at h0
  unfold fX3_beliefError eB eW
  rw [if_pos (xis_ok h0), c_in3]
  simp only [ob]
  rcases k3 m with ⟨b, hb, rfl, hm⟩ | hm
  · rw [if_pos hm, if_pos hm, if_neg (by decide +kernel), c_in3]
    simp only [ob]
    rcases k3 t with ⟨i, hi, rfl, ht⟩ | ht
    · rw [if_pos ht, if_pos ht, if_neg (by decide +kernel)]
      rcases k9 v with ⟨j, hj, rfl, hv⟩ | hv
      · rw [if_pos hv, if_neg (by rw [Int32.not_lt]; exact hv.1), if_pos hv.2, xgR_ok (x := 1) h0 rfl]
        simp only [ob]
        rw [s_toldSum g1 hb]
        simp only [ob]
        rw [xgR_ok (x := 1) h0 rfl]
        simp only [ob]
        rw [s_toldPlace]
        simp only [ob]
        rw [s_cell g1 (by omega)]
        simp only [ob]
        rw [nI_clamp (by omega), nI_clamp (by omega), Int32.zero_add, show 3 * (1 + b) = 3 + 3 * b by omega]
        by_cases e : f (3 + 3 * b) + f (3 + 3 * b + 1) + f (3 + 3 * b + 2) - f (3 + 3 * b + i) + nI j = 0
        · rw [if_pos e, if_pos e]
        · rw [if_neg e, if_neg e]
      · rw [if_neg hv]
        by_cases h1 : v < 0
        · rw [if_pos h1]
        · rw [if_neg h1, if_neg (fun z => hv ⟨Int32.not_lt.mp h1, z⟩)]
    · rw [if_neg ht, if_neg ht, if_pos (by decide +kernel)]
  · rw [if_neg hm, if_neg hm, if_pos (by decide +kernel)]
theorem mj_g {g j : Nat} (hg : g < 4) (hj : j < 3) : mj (3 * g + j) = mj (3 * g) + j := by
  unfold mj mi
  split <;> split <;> (try split) <;> (try split) <;> (try split) <;> (try split) <;> omega
theorem m_mayWeigh (h : JM w f n H hb Sl pd at' od) {g : Nat} (hg : g < 4) (t v : Int32) : fX4_mayWeigh 15 (nI (mj (3 * g))) t v w = some (eW f g t v, w) := by
  obtain ⟨hn, h0, ⟨N, pl, be, c1, c2, c3, c4⟩, hH, hS⟩ := h
  unfold MO at h0
  have hf : ∀ j, j < 3 → N (mj (3 * g) + j) = f (3 * g + j) := fun j hj => by rw [← c4, MV_at, if_pos (by omega), mj_g hg hj]
  have hlt : ∀ j, j < 3 → mj (3 * g) + j < 72 := fun j hj => by rw [← mj_g hg hj]; exact mj_lt (by omega)
  have hr : ∀ j, j < 3 → xaI w 16 (nI (mj (3 * g)) + nI j) = some (f (3 * g + j)) := fun j hj => by
    rw [nI_add, xaI_ok c1 (hlt j hj) (by omega), hf j hj]
  have hr0 : xaI w 16 (nI (mj (3 * g))) = some (f (3 * g)) := by
    have := hr 0 (by omega)
    rw [nI_add] at this
    exact this
  unfold fX4_mayWeigh eW
  rw [if_pos (xis_ok h0), m_one]
  simp only [ob]
  rcases k3 t with ⟨i, hi, rfl, ht⟩ | ht
  · rw [if_pos ht, if_pos ht, if_neg (by decide +kernel), m_in]
    simp only [ob]
    rcases k9 v with ⟨j, hj, rfl, hv⟩ | hv
    · rw [if_pos hv, if_pos hv, if_neg (by decide +kernel), xgR_ok (x := 16) h0 rfl]
      simp only [ob]
      rw [hr0, xl1, xl2, hr 1 (by omega), hr 2 (by omega), hr i hi]
      simp only [ob]
      rw [nI_clamp (by omega)]
      by_cases e : f (3 * g) + f (3 * g + 1) + f (3 * g + 2) - f (3 * g + i) + nI j = 0
      · rw [if_pos e, if_pos e]
      · rw [if_neg e, if_neg e]
    · rw [if_neg hv, if_neg hv, if_pos (by decide +kernel)]
  · rw [if_neg ht, if_neg ht, if_pos (by decide +kernel)]
theorem m_mayBelieve (h : JM w f n H hb Sl pd at' od) (m t v : Int32) : fX4_mayBelieve 15 m t v w = some (eB f m t v, w) := by
  have h0 := h.2.1
  unfold MO at h0
  unfold fX4_mayBelieve eB
  rw [if_pos (xis_ok h0), m_one]
  simp only [ob]
  rcases k3 m with ⟨b, hb, rfl, hm⟩ | hm
  · rw [if_pos hm, if_pos hm, if_neg (by decide +kernel), show (57 : Int32) = nI 57 by decide +kernel, xl3, pk_mul, nI_add, show 57 + 3 * b = mj (3 * (1 + b)) by unfold mj mi; rw [if_pos (by omega), if_neg (by omega), if_pos (by omega)]; omega, m_mayWeigh h (by omega)]
    simp only [ob]
    rw [nI_clamp (by omega)]
  · rw [if_neg hm, if_neg hm, if_pos (by decide +kernel)]
end STD
theorem eW_0 {f : Nat → Int32} {g : Nat} {t v : Int32} (h : eW f g t v = 0) : ∃ i j, i < 3 ∧ j ≤ 9 ∧ t = nI i ∧ v = nI j ∧ ¬ (f (3 * g) + f (3 * g + 1) + f (3 * g + 2) - f (3 * g + i) + v = 0) := by
  unfold eW at h
  rcases k3 t with ⟨i, hi, rfl, ht⟩ | ht
  · rw [if_pos ht] at h
    rcases k9 v with ⟨j, hj, rfl, hv⟩ | hv
    · rw [if_pos hv, nI_clamp (by omega)] at h
      refine ⟨i, j, hi, hj, rfl, rfl, fun z => ?_⟩
      rw [if_pos z] at h
      exact absurd h (by decide +kernel)
    · rw [if_neg hv] at h
      exact absurd h (by decide +kernel)
  · rw [if_neg ht] at h
    exact absurd h (by decide +kernel)
theorem chg_at {f : Nat → Int32} {k j : Nat} {x : Int32} (hj : j < 72) : chg f k x j = if j = k then x else f j := by
  unfold chg xct upd
  rw [if_pos hj]
/-- a weight that may be put keeps the state good -/
theorem Gd_w {f : Nat → Int32} (h : Gd f) {g i : Nat} (hg : g < 4) (hi : i < 3) {v : Int32} {j : Nat} (hj : j ≤ 9) (hv : v = nI j) (hz : ¬ (f (3 * g) + f (3 * g + 1) + f (3 * g + 2) - f (3 * g + i) + v = 0)) : Gd (chg f (3 * g + i) v) := by
  obtain ⟨a, b, c, d, e⟩ := h
  refine ⟨xct_cn _ _, ?_, ?_, ?_, ?_⟩
  · intro q hq
    rw [chg_at (by omega), if_neg (by omega)]
    exact b q hq
  · intro q hq
    rw [chg_at (by omega), if_neg (by omega)]
    exact c q hq
  · intro q hq
    rw [chg_at (by omega)]
    by_cases h1 : q = 3 * g + i
    · rw [if_pos h1]; exact ⟨j, hj, hv⟩
    · rw [if_neg h1]; exact d q hq
  · intro q hq
    rw [chg_at (by omega), chg_at (by omega), chg_at (by omega)]
    by_cases h1 : q = g
    · subst h1
      intro z
      apply hz
      rcases lt3 hi with rfl | rfl | rfl
      · rw [if_pos (by omega), if_neg (by omega), if_neg (by omega)] at z
        obtain ⟨z1, z2, z3⟩ := z
        rw [Nat.add_zero, z1, z2, z3]
        generalize f (3 * q) = y
        rw [Int32.add_zero, Int32.add_zero, Int32.add_zero, Int32.sub_self]
      · rw [if_neg (by omega), if_pos (by omega), if_neg (by omega)] at z
        obtain ⟨z1, z2, z3⟩ := z
        rw [z1, z2, z3]
        generalize f (3 * q + 1) = y
        rw [Int32.zero_add, Int32.add_zero, Int32.add_zero, Int32.sub_self]
      · rw [if_neg (by omega), if_neg (by omega), if_pos (by omega)] at z
        obtain ⟨z1, z2, z3⟩ := z
        rw [z1, z2, z3]
        generalize f (3 * q + 2) = y
        rw [Int32.zero_add, Int32.zero_add, Int32.add_zero, Int32.sub_self]
    · rw [if_neg (by omega), if_neg (by omega), if_neg (by omega)]
      exact e q hq
theorem Gd_p {f : Nat → Int32} (h : Gd f) {k : Nat} (hk : k < 54) {v : Int32} (hv : (-9 : Int32) ≤ v ∧ v ≤ 9) : Gd (chg f (12 + k) v) := by
  obtain ⟨a, b, c, d, e⟩ := h
  refine ⟨xct_cn _ _, ?_, ?_, ?_, ?_⟩
  · intro q hq
    rw [chg_at (by omega), if_neg (by omega)]
    exact b q hq
  · intro q hq
    rw [chg_at (by omega)]
    by_cases h1 : 12 + q = 12 + k
    · rw [if_pos h1]; exact hv
    · rw [if_neg h1]; exact c q hq
  · intro q hq
    rw [chg_at (by omega), if_neg (by omega)]
    exact d q hq
  · intro q hq
    rw [chg_at (by omega), chg_at (by omega), chg_at (by omega), if_neg (by omega), if_neg (by omega), if_neg (by omega)]
    exact e q hq
theorem Gd_l {f : Nat → Int32} (h : Gd f) {k : Nat} (hk : k < 6) {j : Nat} (hj : j < 3) : Gd (chg f (66 + k) (nI j)) := by
  obtain ⟨a, b, c, d, e⟩ := h
  refine ⟨xct_cn _ _, ?_, ?_, ?_, ?_⟩
  · intro q hq
    rw [chg_at (by omega)]
    by_cases h1 : 66 + q = 66 + k
    · rw [if_pos h1]; exact ⟨j, hj, rfl⟩
    · rw [if_neg h1]; exact b q hq
  · intro q hq
    rw [chg_at (by omega), if_neg (by omega)]
    exact c q hq
  · intro q hq
    rw [chg_at (by omega), if_neg (by omega)]
    exact d q hq
  · intro q hq
    rw [chg_at (by omega), chg_at (by omega), chg_at (by omega), if_neg (by omega), if_neg (by omega), if_neg (by omega)]
    exact e q hq
