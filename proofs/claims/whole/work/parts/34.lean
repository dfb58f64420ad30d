/-! BOTH SIDES TOGETHER: beliefs and means, as fractions -/
def gB (v s : Int32) : Int32 := nI (Nat.gcd v.toInt.natAbs s.toNatClampNeg)
theorem k_abs {v : Int32} (h : v.toInt.natAbs < 2 ^ 30) : (if 0 ≤ v then v else -v) = nI v.toInt.natAbs := by
  apply Int32.toInt_inj.mp
  rw [nI_toInt (by omega)]
  by_cases h0 : 0 ≤ v
  · rw [if_pos h0]
    rw [Int32.le_iff_toInt_le, show (0 : Int32).toInt = 0 by decide +kernel] at h0
    omega
  · rw [if_neg h0, Int32.toInt_neg, Int.bmod_eq_of_le (by omega) (by omega)]
    rw [Int32.le_iff_toInt_le, show (0 : Int32).toInt = 0 by decide +kernel] at h0
    omega
theorem c_sh11 (i0 : Int32) (w : XW) : ∀ (b a i5 g : Nat), a < 2 ^ 31 → b + i5 < 100 → b < g → 0 < Nat.gcd a b → fX3_shortened_11 g i0 (nI a) (nI b) (nI i5) w = some (i0 / nI (Nat.gcd a b), w) := by
  intro b
  induction b using Nat.strongRecOn with
  | _ b ih =>
    intro a i5 g ha h1 h2 h3
    obtain ⟨g, rfl⟩ : ∃ x, g = x + 1 := ⟨g - 1, by omega⟩
    rw [fX3_shortened_11, if_neg (by rw [show (100 : Int32) = nI 100 by decide +kernel]; exact nI_ge (by omega) (by omega))]
    by_cases hb : b = 0
    · subst hb
      rw [Nat.gcd_zero_right] at h3 ⊢
      rw [if_pos (by rw [← xl0]), if_neg (by rw [nI_z ha]; omega), if_neg (by rw [nI_z ha]; omega)]
    · rw [if_neg (by rw [nI_z (by omega)]; exact hb), if_neg (by rw [nI_z (by omega)]; exact hb), pk_rem ha (by omega) (by omega), nI_1]
      have hlt := Nat.mod_lt a (Nat.pos_of_ne_zero hb)
      have e : Nat.gcd b (a % b) = Nat.gcd a b := by rw [Nat.gcd_comm a b, Nat.gcd_rec b a, Nat.gcd_comm]
      rw [ih (a % b) hlt b (i5 + 1) g (by omega) (by omega) (by omega) (by rw [e]; exact h3), e]
theorem m_co13 (w : XW) : ∀ (a b g : Nat), a < 2 ^ 31 → b < 2 ^ 31 → a < g → fX4_common_13 g (nI a) (nI b) w = some (nI (Nat.gcd a b), w) := by
  intro a
  induction a using Nat.strongRecOn with
  | _ a ih =>
    intro b g ha hb hg
    obtain ⟨g, rfl⟩ : ∃ x, g = x + 1 := ⟨g - 1, by omega⟩
    rw [fX4_common_13]
    by_cases h0 : a = 0
    · subst h0
      rw [if_pos (by rw [← xl0]; decide +kernel), Nat.gcd_zero_left]
    · rw [if_neg (by rw [xl0]; exact nI_ge (by omega) (by omega)), if_neg (by rw [nI_z ha]; exact h0), pk_rem hb (by omega) (by omega)]
      have hlt := Nat.mod_lt b (Nat.pos_of_ne_zero h0)
      rw [ih (b % a) hlt a g (by omega) (by omega) (by omega), ← Nat.gcd_rec a b]
theorem c_short {v s : Int32} {b : Nat} (hv : v.toInt.natAbs < 900) (hs : s = nI b) (hb0 : 0 < b) (hb : b < 99) (i0 : Int32) (w : XW) : fX3_shortened i0 v s w = some (i0 / gB v s, w) := by
  have hg : 0 < Nat.gcd v.toInt.natAbs b := Nat.gcd_pos_of_pos_right _ hb0
  unfold fX3_shortened gB
  rw [Int32.zero_sub, k_abs (by omega), hs, nI_clamp (by omega), show fX3_shortened_11 1000 i0 (nI v.toInt.natAbs) (nI b) 0 w = fX3_shortened_11 1000 i0 (nI v.toInt.natAbs) (nI b) (nI 0) w by rw [← xl0], c_sh11 i0 w b _ 0 1000 (by omega) (by omega) (by omega) hg]
theorem m_common {v s : Int32} {b : Nat} (hv : v.toInt.natAbs < 900) (hs : s = nI b) (hb0 : 0 < b) (hb : b < 99) (w : XW) : fX4_common v s w = some (gB v s, w) ∧ ¬ gB v s = 0 := by
  have hg : 0 < Nat.gcd v.toInt.natAbs b := Nat.gcd_pos_of_pos_right _ hb0
  have hle : Nat.gcd v.toInt.natAbs b ≤ b := Nat.gcd_le_right _ hb0
  have e : fX4_common v s w = fX4_common_13 1000 (nI v.toInt.natAbs) s w := by
    unfold fX4_common fX4_common_10
    rw [← k_abs (by omega)]
    by_cases h0 : 0 ≤ v
    · rw [if_pos h0, if_pos h0]
    · rw [if_neg h0, if_neg h0]
  constructor
  · rw [e, hs, m_co13 w _ b 1000 (by omega) (by omega) (by omega)]
    unfold gB
    rw [nI_clamp (by omega)]
  · unfold gB
    rw [hs, nI_clamp (by omega), nI_z (by omega)]
    omega
theorem k_mulR {b p : Int32} {n : Nat} (hb : b = nI n) (hn : n ≤ 9) (hp : (-9 : Int32) ≤ p ∧ p ≤ 9) : -81 ≤ (b * p).toInt ∧ (b * p).toInt ≤ 81 := by
  rw [Int32.le_iff_toInt_le, Int32.le_iff_toInt_le, show (-9 : Int32).toInt = -9 by decide +kernel, show (9 : Int32).toInt = 9 by decide +kernel] at hp
  rw [hb, Int32.toInt_mul, nI_toInt (by omega)]
  generalize p.toInt = q at hp
  have hq : -81 ≤ (n : Int) * q ∧ (n : Int) * q ≤ 81 := by
    have : n = 0 ∨ n = 1 ∨ n = 2 ∨ n = 3 ∨ n = 4 ∨ n = 5 ∨ n = 6 ∨ n = 7 ∨ n = 8 ∨ n = 9 := by omega
    rcases this with rfl | rfl | rfl | rfl | rfl | rfl | rfl | rfl | rfl | rfl <;> omega
  rw [Int.bmod_eq_of_le (by omega) (by omega)]
  exact hq
theorem k_addR {x y : Int32} (hx : -200 ≤ x.toInt ∧ x.toInt ≤ 200) (hy : -200 ≤ y.toInt ∧ y.toInt ≤ 200) : (x + y).toInt = x.toInt + y.toInt := by
  rw [Int32.toInt_add, Int.bmod_eq_of_le (by omega) (by omega)]
theorem vB_n {f : Nat → Int32} (h : Gd f) {m : Nat} (hm : m < 3) : ∃ n0 n1 n2, vB f m 0 = nI n0 ∧ vB f m 1 = nI n1 ∧ vB f m 2 = nI n2 ∧ n0 ≤ 9 ∧ n1 ≤ 9 ∧ n2 ≤ 9 ∧ 0 < n0 + n1 + n2 := by
  obtain ⟨a0, p0, e0⟩ := h.2.2.2.1 0 (by omega)
  obtain ⟨a1, p1, e1⟩ := h.2.2.2.1 1 (by omega)
  obtain ⟨a2, p2, e2⟩ := h.2.2.2.1 2 (by omega)
  obtain ⟨b0, q0, d0⟩ := h.2.2.2.1 (3 + 3 * m + 0) (by omega)
  obtain ⟨b1, q1, d1⟩ := h.2.2.2.1 (3 + 3 * m + 1) (by omega)
  obtain ⟨b2, q2, d2⟩ := h.2.2.2.1 (3 + 3 * m + 2) (by omega)
  have hz := h.2.2.2.2 (1 + m) (by omega)
  rw [show 3 * (1 + m) = 3 + 3 * m + 0 by omega, d0, show 3 + 3 * m + 0 + 1 = 3 + 3 * m + 1 by omega, d1, show 3 + 3 * m + 0 + 2 = 3 + 3 * m + 2 by omega, d2, nI_z (by omega), nI_z (by omega), nI_z (by omega)] at hz
  unfold vB
  cases hA : vAny f m
  · rw [if_neg Bool.false_ne_true, if_neg Bool.false_ne_true, if_neg Bool.false_ne_true]
    exact ⟨b0, b1, b2, d0, d1, d2, q0, q1, q2, by omega⟩
  · rw [if_pos rfl, if_pos rfl, if_pos rfl]
    have hpos : ∀ t a, f t = nI a → a ≤ 9 → vS f m t = true → 0 < a := by
      intro t a e ha hs
      unfold vS vH at hs
      rw [Bool.and_eq_true] at hs
      have h1 := hs.1
      rw [e, Bool.not_eq_true', decide_eq_false_iff_not] at h1
      by_cases z : a = 0
      · subst z
        exact absurd (by decide +kernel) h1
      · omega
    have hsel : ∀ t a, f t = nI a → a ≤ 9 → ∃ n, (if vS f m t = true then f t else 0) = nI n ∧ n ≤ 9 ∧ (vS f m t = true → 0 < n) := by
      intro t a e ha
      cases hs : vS f m t
      · exact ⟨0, by rw [if_neg Bool.false_ne_true, xl0], by omega, fun z => absurd z (by decide)⟩
      · exact ⟨a, by rw [if_pos rfl, e], ha, fun _ => hpos t a e ha hs⟩
    obtain ⟨n0, x0, y0, z0⟩ := hsel 0 a0 e0 p0
    obtain ⟨n1, x1, y1, z1⟩ := hsel 1 a1 e1 p1
    obtain ⟨n2, x2, y2, z2⟩ := hsel 2 a2 e2 p2
    refine ⟨n0, n1, n2, x0, x1, x2, y0, y1, y2, ?_⟩
    unfold vAny at hA
    rw [Bool.or_eq_true, Bool.or_eq_true] at hA
    rcases hA with (h1 | h1) | h1
    · have := z0 h1; omega
    · have := z1 h1; omega
    · have := z2 h1; omega
def vSm (f : Nat → Int32) (m : Nat) : Int32 := vB f m 0 + vB f m 1 + vB f m 2
def vMe (f : Nat → Int32) (m a : Nat) : Int32 := vWo f m a (vB f m 0) (vB f m 1) (vB f m 2)
theorem vSm_n {f : Nat → Int32} (h : Gd f) {m : Nat} (hm : m < 3) : ∃ b, vSm f m = nI b ∧ 0 < b ∧ b < 99 := by
  obtain ⟨n0, n1, n2, e0, e1, e2, h0, h1, h2, hp⟩ := vB_n h hm
  exact ⟨n0 + n1 + n2, by unfold vSm; rw [e0, e1, e2, nI_add, nI_add], hp, by omega⟩
theorem vB_abs {f : Nat → Int32} (h : Gd f) {m t : Nat} (hm : m < 3) (ht : t < 3) : (vB f m t).toInt.natAbs < 900 := by
  obtain ⟨n0, n1, n2, e0, e1, e2, h0, h1, h2, hp⟩ := vB_n h hm
  rcases lt3 ht with rfl | rfl | rfl
  · rw [e0, nI_toInt (by omega)]; omega
  · rw [e1, nI_toInt (by omega)]; omega
  · rw [e2, nI_toInt (by omega)]; omega
theorem vMe_abs {f : Nat → Int32} (h : Gd f) {m a : Nat} (hm : m < 3) (ha : a < 3) : (vMe f m a).toInt.natAbs < 900 := by
  obtain ⟨n0, n1, n2, e0, e1, e2, h0, h1, h2, hp⟩ := vB_n h hm
  have r0 := k_mulR e0 h0 (h.2.2.1.at (s := 1) (t := 0) (m := m) (b := a) (by omega) (by omega) hm ha)
  have r1 := k_mulR e1 h1 (h.2.2.1.at (s := 1) (t := 1) (m := m) (b := a) (by omega) (by omega) hm ha)
  have r2 := k_mulR e2 h2 (h.2.2.1.at (s := 1) (t := 2) (m := m) (b := a) (by omega) (by omega) hm ha)
  have s1 := k_addR (x := vB f m 0 * vP f 1 0 m a) (y := vB f m 1 * vP f 1 1 m a) (by omega) (by omega)
  have s2 := k_addR (x := vB f m 0 * vP f 1 0 m a + vB f m 1 * vP f 1 1 m a) (y := vB f m 2 * vP f 1 2 m a) (by omega) (by omega)
  unfold vMe vWo
  omega
/-- a value over the belief's sum, in lowest terms -/
def aFr (v s : Int32) (k plus : Int32) : Int32 := if k = 0 then v / gB v s + plus else if k = 1 then s / gB v s else -2
section STO
variable {w : XW} {f : Nat → Int32} {n : Nat} {H : Nat → Nat → Int32} {hb : Nat → Bool} {Sl : Nat → Nat → Int32} {pd at' od : Int32}
theorem c_belief (hC : JC w f n H hb Sl) (hg : Gd f) (m t k : Int32) : fX3_belief 0 m t k w = some (if 0 ≤ m ∧ m ≤ 2 then (if 0 ≤ t ∧ t ≤ 2 then aFr (vB f m.toNatClampNeg t.toNatClampNeg) (vSm f m.toNatClampNeg) k 0 else -1) else -1, w) := by
  obtain ⟨p, g1, g2, g3⟩ := hC.2.2.1
  unfold fX3_belief aFr
  rw [if_pos hC.o.1, c_in3]
  simp only [ob]
  rcases k3 m with ⟨i, hi, rfl, hm⟩ | hm
  · rw [if_pos hm, if_pos hm, if_neg (by decide +kernel), c_in3]
    simp only [ob]
    rcases k3 t with ⟨j, hj, rfl, ht⟩ | ht
    · obtain ⟨b, hb1, hb2, hb3⟩ := vSm_n hg hi
      rw [if_pos ht, if_pos ht, if_neg (by decide +kernel), hC.o.2.1, nI_clamp (by omega), nI_clamp (by omega)]
      simp only [ob]
      rw [s_beliefWeight g1 hi hj]
      simp only [ob]
      rw [hC.o.2.1]
      simp only [ob]
      rw [s_beliefSum g1 hi, Int32.zero_add, show vB f i 0 + vB f i 1 + vB f i 2 = vSm f i from rfl]
      simp only [ob]
      rw [c_short (vB_abs hg hi hj) hb1 hb2 hb3, c_short (vB_abs hg hi hj) hb1 hb2 hb3]
      simp only [ob]
      by_cases k0 : k = 0
      · rw [if_pos k0, if_pos k0, Int32.add_zero]
      rw [if_neg k0, if_neg k0]
      by_cases k1 : k = 1
      · rw [if_pos k1, if_pos k1]
      rw [if_neg k1, if_neg k1]
    · rw [if_neg ht, if_neg ht, if_pos (by decide +kernel)]
  · rw [if_neg hm, if_neg hm, if_pos (by decide +kernel)]
theorem c_mean (hC : JC w f n H hb Sl) (hg : Gd f) (m t k : Int32) : fX3_mean 0 m t k w = some (if 0 ≤ m ∧ m ≤ 2 then (if 0 ≤ t ∧ t ≤ 2 then aFr (vMe f m.toNatClampNeg t.toNatClampNeg) (vSm f m.toNatClampNeg) k 1000 else -1) else -1, w) := by
  obtain ⟨p, g1, g2, g3⟩ := hC.2.2.1
  unfold fX3_mean aFr
  rw [if_pos hC.o.1, c_in3]
  simp only [ob]
  rcases k3 m with ⟨i, hi, rfl, hm⟩ | hm
  · rw [if_pos hm, if_pos hm, if_neg (by decide +kernel), c_in3]
    simp only [ob]
    rcases k3 t with ⟨j, hj, rfl, ht⟩ | ht
    · obtain ⟨b, hb1, hb2, hb3⟩ := vSm_n hg hi
      rw [if_pos ht, if_pos ht, if_neg (by decide +kernel), hC.o.2.1, nI_clamp (by omega), nI_clamp (by omega)]
      simp only [ob]
      rw [s_worthOf g1 hi hj, show vWo f i j (vB f i 0) (vB f i 1) (vB f i 2) = vMe f i j from rfl]
      simp only [ob]
      rw [hC.o.2.1]
      simp only [ob]
      rw [s_beliefSum g1 hi, Int32.zero_add, show vB f i 0 + vB f i 1 + vB f i 2 = vSm f i from rfl]
      simp only [ob]
      rw [c_short (vMe_abs hg hi hj) hb1 hb2 hb3, c_short (vMe_abs hg hi hj) hb1 hb2 hb3]
      simp only [ob]
      by_cases k0 : k = 0
      · rw [if_pos k0, if_pos k0]
      rw [if_neg k0, if_neg k0]
      by_cases k1 : k = 1
      · rw [if_pos k1, if_pos k1]
      rw [if_neg k1, if_neg k1]
    · rw [if_neg ht, if_neg ht, if_pos (by decide +kernel)]
  · rw [if_neg hm, if_neg hm, if_pos (by decide +kernel)]
theorem m_sumB {N pl : Nat → Int32} {m : Nat} (h : xIsM w N pl (xb3 (vB f m 0) (vB f m 1) (vB f m 2))) : fX4_sum 15 w = some (vSm f m, w) := by
  unfold fX4_sum
  rw [if_pos h.1, h.2.2.2.1]
  simp only [ob]
  rw [xl0, xl1, xl2, xaI_ok h.2.2.2.2.2.2 (by omega) (by omega), xaI_ok h.2.2.2.2.2.2 (by omega) (by omega), xaI_ok h.2.2.2.2.2.2 (by omega) (by omega)]
  simp only [ob]
  rfl
theorem m_belief (hM : JM w f n H hb Sl pd at' od) (hg : Gd f) (m t k : Int32) : ∃ q r, fX4_belief 15 m t k w = some (if 0 ≤ m ∧ m ≤ 2 then (if 0 ≤ t ∧ t ≤ 2 then aFr (vB f m.toNatClampNeg t.toNatClampNeg) (vSm f m.toNatClampNeg) k 0 else -1) else -1, mW w q r) := by
  obtain ⟨N, be, l1, l2, l3, l4⟩ := m_lk hM hg
  obtain ⟨N0, pl0, be0, hi0, -⟩ := hM.is
  unfold fX4_belief
  rw [if_pos hM.o.1, m_one]
  simp only [ob]
  rcases k3 m with ⟨i, hi, rfl, hm⟩ | hm
  · rw [if_pos hm, if_pos hm, if_neg (by decide +kernel), m_one]
    simp only [ob]
    rcases k3 t with ⟨j, hj, rfl, ht⟩ | ht
    · obtain ⟨b, hb1, hb2, hb3⟩ := vSm_n hg hi
      rw [if_pos ht, if_pos ht, if_neg (by decide +kernel), nI_clamp (by omega), nI_clamp (by omega), m_in]
      simp only [ob]
      rcases k01 k with ⟨c, hc, rfl, hk⟩ | hk
      · have hbl := m_believes l2 hi
        have l5 := l2.setB (xb3 (vB (mv N (mS N)) i 0) (vB (mv N (mS N)) i 1) (vB (mv N (mS N)) i 2))
        rw [l3, mW_B] at hbl
        rw [l3, mW_B] at l5
        obtain ⟨c1, c2⟩ := m_common (vB_abs hg hi hj) hb1 hb2 hb3 (mW w (mS N) (xb3 (vB f i 0) (vB f i 1) (vB f i 2)))
        have hx : xb3 (vB f i 0) (vB f i 1) (vB f i 2) j = vB f i j := by
          rcases lt3 hj with rfl | rfl | rfl
          · exact xb3_0 _ _ _
          · exact xb3_1 _ _ _
          · exact xb3_2 _ _ _
        rw [if_pos hk, if_neg (by decide +kernel), l1]
        simp only [ob]
        rw [hbl]
        simp only [ob]
        rw [l5.2.2.2.1]
        simp only [ob]
        rw [xaI_ok l5.2.2.2.2.2.2 hj (by omega), hx]
        simp only [ob]
        rw [m_sumB l5]
        simp only [ob]
        rw [c1]
        simp only [ob]
        rw [l5.2.2.2.1]
        simp only [ob]
        rw [xaI_ok l5.2.2.2.2.2.2 hj (by omega), hx, m_sumB l5]
        simp only [ob]
        rw [if_neg c2, if_neg c2]
        refine ⟨mS N, xb3 (vB f i 0) (vB f i 1) (vB f i 2), ?_⟩
        unfold aFr
        have : c = 0 ∨ c = 1 := by omega
        rcases this with rfl | rfl
        · rw [if_pos (show nI 0 = 0 by decide +kernel), if_pos (show nI 0 = 0 by decide +kernel), Int32.add_zero]
        · rw [if_neg (show ¬ nI 1 = 0 by decide +kernel), if_neg (show ¬ nI 1 = 0 by decide +kernel), if_pos (show nI 1 = 1 by decide +kernel)]
      · refine ⟨pl0, be0, ?_⟩
        unfold aFr
        rw [if_neg hk, if_pos (by decide +kernel), mW_same hi0, if_neg (k_ne hk (by decide +kernel)), if_neg (k_ne hk (by decide +kernel))]
    · refine ⟨pl0, be0, ?_⟩
      rw [if_neg ht, if_neg ht, if_pos (by decide +kernel), mW_same hi0]
  · refine ⟨pl0, be0, ?_⟩
    rw [if_neg hm, if_neg hm, if_pos (by decide +kernel), mW_same hi0]
theorem m_mean (hM : JM w f n H hb Sl pd at' od) (hg : Gd f) (m t k : Int32) : ∃ q r, fX4_mean 15 m t k w = some (if 0 ≤ m ∧ m ≤ 2 then (if 0 ≤ t ∧ t ≤ 2 then aFr (vMe f m.toNatClampNeg t.toNatClampNeg) (vSm f m.toNatClampNeg) k 1000 else -1) else -1, mW w q r) := by
  obtain ⟨N, be, l1, l2, l3, l4⟩ := m_lk hM hg
  obtain ⟨N0, pl0, be0, hi0, -⟩ := hM.is
  unfold fX4_mean
  rw [if_pos hM.o.1, m_one]
  simp only [ob]
  rcases k3 m with ⟨i, hi, rfl, hm⟩ | hm
  · rw [if_pos hm, if_pos hm, if_neg (by decide +kernel), m_one]
    simp only [ob]
    rcases k3 t with ⟨j, hj, rfl, ht⟩ | ht
    · obtain ⟨b, hb1, hb2, hb3⟩ := vSm_n hg hi
      rw [if_pos ht, if_pos ht, if_neg (by decide +kernel), nI_clamp (by omega), nI_clamp (by omega), m_in]
      simp only [ob]
      rcases k01 k with ⟨c, hc, rfl, hk⟩ | hk
      · have hbl := m_believes l2 hi
        have l5 := l2.setB (xb3 (vB (mv N (mS N)) i 0) (vB (mv N (mS N)) i 1) (vB (mv N (mS N)) i 2))
        rw [l3, mW_B] at hbl
        rw [l3, mW_B] at l5
        obtain ⟨c1, c2⟩ := m_common (vMe_abs hg hi hj) hb1 hb2 hb3 (mW w (mS N) (xb3 (vB f i 0) (vB f i 1) (vB f i 2)))
        have hw := m_worth l5 hi hj
        rw [xb3_0, xb3_1, xb3_2, l3, show vWo f i j (vB f i 0) (vB f i 1) (vB f i 2) = vMe f i j from rfl] at hw
        rw [if_pos hk, if_neg (by decide +kernel), l1]
        simp only [ob]
        rw [hbl]
        simp only [ob]
        rw [hw]
        simp only [ob]
        rw [m_sumB l5]
        simp only [ob]
        rw [c1]
        simp only [ob]
        rw [m_sumB l5]
        simp only [ob]
        rw [if_neg c2, if_neg c2]
        refine ⟨mS N, xb3 (vB f i 0) (vB f i 1) (vB f i 2), ?_⟩
        unfold aFr
        have : c = 0 ∨ c = 1 := by omega
        rcases this with rfl | rfl
        · rw [if_pos (show nI 0 = 0 by decide +kernel), if_pos (show nI 0 = 0 by decide +kernel)]
        · rw [if_neg (show ¬ nI 1 = 0 by decide +kernel), if_neg (show ¬ nI 1 = 0 by decide +kernel), if_pos (show nI 1 = 1 by decide +kernel)]
      · refine ⟨pl0, be0, ?_⟩
        unfold aFr
        rw [if_neg hk, if_pos (by decide +kernel), mW_same hi0, if_neg (k_ne hk (by decide +kernel)), if_neg (k_ne hk (by decide +kernel))]
    · refine ⟨pl0, be0, ?_⟩
      rw [if_neg ht, if_neg ht, if_pos (by decide +kernel), mW_same hi0]
  · refine ⟨pl0, be0, ?_⟩
    rw [if_neg hm, if_neg hm, if_pos (by decide +kernel), mW_same hi0]
end STO
theorem j_belief (m t k : Int32) : JSt (fX3_belief 0 m t k) (fX4_belief 15 m t k) :=
  JSo (fun f => if 0 ≤ m ∧ m ≤ 2 then (if 0 ≤ t ∧ t ≤ 2 then aFr (vB f m.toNatClampNeg t.toNatClampNeg) (vSm f m.toNatClampNeg) k 0 else -1) else -1) (fun w f n H hb Sl hC hg => ⟨w, c_belief hC hg m t k, hC, xFr.rf⟩) (fun w f n H hb Sl pd at' od hM hg => m_belief hM hg m t k)
theorem j_mean (m t k : Int32) : JSt (fX3_mean 0 m t k) (fX4_mean 15 m t k) :=
  JSo (fun f => if 0 ≤ m ∧ m ≤ 2 then (if 0 ≤ t ∧ t ≤ 2 then aFr (vMe f m.toNatClampNeg t.toNatClampNeg) (vSm f m.toNatClampNeg) k 1000 else -1) else -1) (fun w f n H hb Sl hC hg => ⟨w, c_mean hC hg m t k, hC, xFr.rf⟩) (fun w f n H hb Sl pd at' od hM hg => m_mean hM hg m t k)
