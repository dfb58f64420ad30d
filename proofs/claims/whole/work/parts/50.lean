/-! BOTH SIDES TOGETHER: the text carried out -/
def rn (s : Nat → Nat) : Nat → Nat → (Nat → Int32) → Nat × (Nat → Int32)
  | 0, k, f => (k, f)
  | d + 1, k, f => match aO s (st s k) f with
    | none => (k, f)
    | some f1 => rn s d (k + 1) f1
theorem st_up (s : Nat → Nat) (j : Nat) : ∀ k, st s j + k ≤ st s (j + k)
  | 0 => Nat.le_refl _
  | k + 1 => by
    have := st_up s j k
    have e : st s (j + (k + 1)) = st s (j + k) + 1 + (shp (sK s (st s (j + k)))).length + 1 := rfl
    omega
theorem fP_all {s : Nat → Nat} {L : Nat} (hs : TS s L) : ∀ (d j : Nat), L + 1 ≤ st s j + d → fP s d (st s j) = none → ∀ k, j ≤ k → st s k ≤ L → fO s (st s k) = none := by
  intro d
  induction d with
  | zero =>
    intro j h1 _ k h3 h4
    have := st_up s j (k - j)
    rw [show j + (k - j) = k by omega] at this
    omega
  | succ d ih =>
    intro j h1 h2 k h3 h4
    unfold fP at h2
    cases hf : fO s (st s j) with
    | some p => rw [hf] at h2; cases h2
    | none =>
      rw [hf] at h2
      obtain ⟨o1, o2, o3, o4⟩ := fO_none hs hf
      by_cases e : k = j
      · rw [e]; exact hf
      · have h5 : st s (j + 1) = eO s (st s j) + 1 := rfl
        have h6 := st_up s (j + 1) (k - (j + 1))
        rw [show j + 1 + (k - (j + 1)) = k by omega] at h6
        have h2' : (if s (eO s (st s j)) = 0 then none else if s (eO s (st s j)) = 59 then fP s d (eO s (st s j) + 1) else some (eO s (st s j))) = none := h2
        by_cases h0 : s (eO s (st s j)) = 0
        · have : L ≤ eO s (st s j) := by
            by_cases z : eO s (st s j) < L
            · have := (hs.2.1 _ z).1; omega
            · omega
          omega
        · rw [if_neg h0] at h2'
          by_cases h59 : s (eO s (st s j)) = 59
          · rw [if_pos h59] at h2'
            exact ih (j + 1) (by omega) h2' k (by omega) h4
          · rw [if_neg h59] at h2'
            cases h2'
theorem fO_lt {s : Nat → Nat} {i p : Nat} (hf : fO s i = some p) : p < i + 8 := by
  unfold fO at hf
  by_cases h5 : sK s i = 5
  · rw [if_pos h5] at hf; cases hf; omega
  · rw [if_neg h5] at hf
    have hm : ∀ (l : List Nat) (j : Nat), mis s i l j = some p → p < i + 1 + j + l.length := by
      intro l
      induction l with
      | nil => intro j h; cases h
      | cons q l ih2 =>
        intro j h
        unfold mis at h
        cases hq : fitB (s (i + 1 + j)) q
        · rw [hq, if_neg Bool.false_ne_true] at h
          cases h
          rw [List.length_cons]
          omega
        · rw [hq, if_pos rfl] at h
          have := ih2 (j + 1) h
          rw [List.length_cons]
          omega
    have := hm _ 0 hf
    have t2 := t_le ⟨sK s i, sK_lt s i⟩
    simp only at t2
    omega
theorem fP_lt {s : Nat → Nat} {L : Nat} (hs : TS s L) : ∀ (d i p : Nat), i ≤ L → fP s d i = some p → p < L + 8 := by
  intro d
  induction d with
  | zero => intro i p _ h; cases h
  | succ d ih =>
    intro i p hi h
    unfold fP at h
    cases hf : fO s i with
    | some q =>
      rw [hf] at h
      have := fO_lt hf
      cases h
      omega
    | none =>
      rw [hf] at h
      obtain ⟨o1, o2, o3, o4⟩ := fO_none hs hf
      have h2' : (if s (eO s i) = 0 then none else if s (eO s i) = 59 then fP s d (eO s i + 1) else some (eO s i)) = some p := h
      by_cases h0 : s (eO s i) = 0
      · rw [if_pos h0] at h2'; cases h2'
      · rw [if_neg h0] at h2'
        by_cases h59 : s (eO s i) = 59
        · rw [if_pos h59] at h2'
          have : eO s i < L := by
            by_cases z : eO s i < L
            · exact z
            · exact absurd (hs.2.2 _ (by omega)) h0
          exact ih _ _ (by omega) h2'
        · rw [if_neg h59] at h2'
          cases h2'
          omega
section TXK
variable {s : Nat → Nat} {L : Nat} {n : Nat} {H : Nat → Nat → Int32} {hb : Nat → Bool} {Sl : Nat → Nat → Int32} {pd at' : Int32}
theorem rn_Gd (hs : TS s L) {m : Nat} (hm : ∀ k, k < m → fO s (st s k) = none) : ∀ (d k : Nat) (f : Nat → Int32), k + d = m → Gd f → Gd (rn s d k f).2 := by
  intro d
  induction d with
  | zero => intro k f _ h; exact h
  | succ d ih =>
    intro k f hk h
    unfold rn
    cases e : aO s (st s k) f with
    | none => exact h
    | some f1 => exact ih (k + 1) f1 (by omega) (aO_Gd hs (hm k (by omega)) h e)
theorem TC.fr {w w1 : XW} (h : TC w s L) (h1 : w1[10]? = w[10]?) (h2 : w1[11]? = w[11]?) : TC w1 s L := by
  obtain ⟨sg, ⟨a, b⟩, c⟩ := h
  exact ⟨sg, ⟨by rw [h1]; exact a, by rw [h2]; exact b⟩, c⟩
theorem JC.clr {w : XW} {f : Nat → Int32} (h : JC w f n H hb Sl) (e : XE) : JC (w.set 10 e) f n H hb Sl := h.fr (fun k _ h1 _ => by rw [xset_get _ (Ne.symm h1)])
theorem c_loop (hs : TS s L) {m : Nat} (hm : ∀ k, k < m → fO s (st s k) = none ∧ st s k < L) (hm16 : m ≤ 16) (hL : L < st s m) : ∀ (d g k : Nat) (w : XW) (f : Nat → Int32), k + d = m → d < g → JC w f n H hb Sl → TC w s L → ∃ w1, fX3_carryOut_23 g 0 (nI k) (nI (st s k)) w = some (nI (rn s d k f).1, w1) ∧ JC w1 (rn s d k f).2 n H hb Sl ∧ w1[10]? = some (.inr (1, [.ref 11, .int 0])) ∧ xFr (10 :: fC) w w1 := by
  have hL80 := hs.1
  have n80 : (80 : Int32) = nI 80 := by decide +kernel
  intro d
  induction d with
  | zero =>
    intro g k w f hk hg hC hT
    obtain ⟨g, rfl⟩ : ∃ x, g = x + 1 := ⟨g - 1, by omega⟩
    obtain ⟨sg, ⟨a, b⟩, c⟩ := hT
    obtain rfl : k = m := by omega
    have hst : st s k ≤ 200 := by
      cases k with
      | zero => exact Nat.zero_le _
      | succ k =>
        obtain ⟨h1, h2⟩ := hm k (by omega)
        obtain ⟨o1, o2, o3, o4⟩ := fO_none hs h1
        have : st s (k + 1) = eO s (st s k) + 1 := rfl
        omega
    rw [fX3_carryOut_23, n80, if_neg (nI_ge (by omega) (by omega)), hC.o.2.2.2.1]
    simp only [ob]
    rw [c_len a]
    simp only [ob]
    rw [if_pos ((nI_leI (by omega) (by omega)).mpr (by omega)), hC.o.2.2.2.1]
    simp only [ob]
    rw [c_clear a]
    simp only [ob]
    exact ⟨_, rfl, hC.clr _, xset_self a, xFr.st _ (by decide)⟩
  | succ d ih =>
    intro g k w f hk hg hC hT
    obtain ⟨g, rfl⟩ : ∃ x, g = x + 1 := ⟨g - 1, by omega⟩
    obtain ⟨sg, ⟨a, b⟩, c⟩ := id hT
    obtain ⟨h1, h2⟩ := hm k (by omega)
    obtain ⟨w1, q1, q2, q3⟩ := c_done hC hs hT (a := st s k) (by omega) h1
    rw [fX3_carryOut_23, n80, if_neg (nI_ge (by omega) (by omega)), hC.o.2.2.2.1]
    simp only [ob]
    rw [c_len a]
    simp only [ob]
    rw [if_neg (nI_ge (by omega) (by omega)), q1]
    simp only [ob]
    have t10 : w1[10]? = w[10]? := q3.2 10 (by decide)
    have hT1 : TC w1 s L := hT.fr t10 (q3.2 11 (by decide))
    unfold rn
    cases e : aO s (st s k) f with
    | none =>
      rw [e] at q2
      rw [if_pos (show bO none = 0 from rfl), q2.o.2.2.2.1]
      simp only [ob]
      rw [c_clear (t10.trans a)]
      simp only [ob]
      exact ⟨_, rfl, JC.clr q2 _, xset_self (t10.trans a), (q3.wk (by decide)).tr (xFr.st _ (by decide))⟩
    | some f1 =>
      rw [e] at q2
      obtain ⟨w2, r1, r2, r3, r4⟩ := ih g (k + 1) w1 f1 (by omega) (by omega) q2 hT1
      rw [if_neg (show ¬ bO (some f1) = 0 from (by decide +kernel : ¬ (1 : Int32) = 0)), q2.o.2.2.2.1]
      simp only [ob]
      rw [c_end hs hT1 (by omega)]
      simp only [ob]
      rw [nI_1, nI_1]
      exact ⟨w2, r1, r2, r3, (q3.wk (by decide)).tr r4⟩
theorem m_loop (hs : TS s L) {m : Nat} {ors : Nat → Int32} (hm : ∀ k, k < m → fO s (st s k) = none ∧ Od s (st s k) k ors) (hm16 : m ≤ 16) : ∀ (d g k : Nat) (w : XW) (f : Nat → Int32), k + d = m → d < g → JM w f n H hb Sl pd at' (nI m) → w[21]? = some (.inl (0, 85, ors)) → ∃ w1, fX4_carryOut_21 g 15 (nI k) w = some (nI (rn s d k f).1, w1) ∧ JM w1 (rn s d k f).2 n H hb Sl pd at' (nI m) ∧ xFr fM w w1 := by
  intro d
  induction d with
  | zero =>
    intro g k w f hk hg hM h21
    obtain ⟨g, rfl⟩ : ∃ x, g = x + 1 := ⟨g - 1, by omega⟩
    have h0' := hM.2.1
    unfold MO at h0'
    have o9 : xgI w 15 4 9 = some (nI m) := xgI_ok h0' rfl
    rw [fX4_carryOut_21, o9]
    simp only [ob]
    rw [if_pos ((nI_leI (by omega) (by omega)).mpr (by omega))]
    exact ⟨w, rfl, hM, xFr.rf⟩
  | succ d ih =>
    intro g k w f hk hg hM h21
    obtain ⟨g, rfl⟩ : ∃ x, g = x + 1 := ⟨g - 1, by omega⟩
    have h0' := hM.2.1
    unfold MO at h0'
    have o9 : xgI w 15 4 9 = some (nI m) := xgI_ok h0' rfl
    obtain ⟨h1, h2⟩ := hm k (by omega)
    obtain ⟨w1, q1, q2, q3⟩ := m_does hM h21 hs (by omega) h1 h2
    rw [fX4_carryOut_21, o9]
    simp only [ob]
    rw [if_neg (nI_ge (by omega) (by omega)), q1]
    simp only [ob]
    unfold rn
    cases e : aO s (st s k) f with
    | none =>
      rw [e] at q2
      rw [if_pos (show bO none = 0 from rfl)]
      exact ⟨w1, rfl, q2, q3⟩
    | some f1 =>
      rw [e] at q2
      obtain ⟨w2, r1, r2, r3⟩ := ih g (k + 1) w1 f1 (by omega) (by omega) q2 (by rw [q3.2 21 (by decide)]; exact h21)
      rw [if_neg (show ¬ bO (some f1) = 0 from (by decide +kernel : ¬ (1 : Int32) = 0)), nI_1, r1]
      exact ⟨w2, rfl, r2, q3.tr r3⟩
end TXK
