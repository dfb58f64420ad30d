/-! THE REFERENCE: the state, and what records it -/
def MO (w : XW) (n : Nat) (pd at' od : Int32) : Prop := w[15]? = some (.inr (4, [.ref 16, .ref 17, .int (nI n), .ref 18, .ref 19, .ref 20, .int pd, .int at', .ref 21, .int od, .ref 22, .ref 23]))
def MG (w : XW) (f : Nat → Int32) : Prop := ∃ N pl be, w[16]? = some (.inl (0, 72, N)) ∧ w[22]? = some (.inl (0, 6, pl)) ∧ w[23]? = some (.inl (0, 3, be)) ∧ MV N = f
def MH (w : XW) (n : Nat) (H : Nat → Nat → Int32) : Prop := ∃ P, w[17]? = some (.inl (0, 432, P)) ∧ ∀ i, i < n → MV (vSeg P (72 * i)) = H i
def MS (w : XW) (hb : Nat → Bool) (Sl : Nat → Nat → Int32) : Prop := ∃ S sv, w[18]? = some (.inl (0, 144, S)) ∧ w[19]? = some (.inl (1, 2, sv)) ∧ ∀ i, i < 2 → sv i = (if hb i then 1 else 0) ∧ (hb i = true → MV (vSeg S (72 * i)) = Sl i)
def JM (w : XW) (f : Nat → Int32) (n : Nat) (H : Nat → Nat → Int32) (hb : Nat → Bool) (Sl : Nat → Nat → Int32) (pd at' od : Int32) : Prop := n ≤ 6 ∧ MO w n pd at' od ∧ MG w f ∧ MH w n H ∧ MS w hb Sl
def fM : List Nat := [15, 16, 17, 18, 19, 22, 23]
theorem MG.fr {w w1 : XW} {f : Nat → Int32} (h : MG w f) (h1 : w1[16]? = w[16]?) (h2 : w1[22]? = w[22]?) (h3 : w1[23]? = w[23]?) : MG w1 f := by
  obtain ⟨N, pl, be, a, b, c, d⟩ := h
  exact ⟨N, pl, be, by rw [h1]; exact a, by rw [h2]; exact b, by rw [h3]; exact c, d⟩
theorem MH.fr {w w1 : XW} {n : Nat} {H : Nat → Nat → Int32} (h : MH w n H) (h1 : w1[17]? = w[17]?) : MH w1 n H := by
  obtain ⟨P, a, b⟩ := h
  exact ⟨P, by rw [h1]; exact a, b⟩
theorem MS.fr {w w1 : XW} {hb : Nat → Bool} {Sl : Nat → Nat → Int32} (h : MS w hb Sl) (h1 : w1[18]? = w[18]?) (h2 : w1[19]? = w[19]?) : MS w1 hb Sl := by
  obtain ⟨S, sv, a, b, c⟩ := h
  exact ⟨S, sv, by rw [h1]; exact a, by rw [h2]; exact b, c⟩
theorem JM.fr {w w1 : XW} {f : Nat → Int32} {n : Nat} {H : Nat → Nat → Int32} {hb : Nat → Bool} {Sl : Nat → Nat → Int32} {pd at' od : Int32} (h : JM w f n H hb Sl pd at' od) (hk : ∀ k, 15 ≤ k → w1[k]? = w[k]?) : JM w1 f n H hb Sl pd at' od := by
  obtain ⟨a, b, c, d, e⟩ := h
  refine ⟨a, ?_, c.fr (hk 16 (by omega)) (hk 22 (by omega)) (hk 23 (by omega)), d.fr (hk 17 (by omega)), e.fr (hk 18 (by omega)) (hk 19 (by omega))⟩
  unfold MO at b ⊢
  rw [hk 15 (by omega)]
  exact b
theorem JM.is {w : XW} {f : Nat → Int32} {n : Nat} {H : Nat → Nat → Int32} {hb : Nat → Bool} {Sl : Nat → Nat → Int32} {pd at' od : Int32} (h : JM w f n H hb Sl pd at' od) : ∃ N pl be, xIsM w N pl be ∧ MV N = f := by
  obtain ⟨a, b, ⟨N, pl, be, c1, c2, c3, c4⟩, d, e⟩ := h
  exact ⟨N, pl, be, ⟨xis_ok b, xgR_ok b rfl, xgR_ok b rfl, xgR_ok b rfl, c1, c2, c3⟩, c4⟩
/-- plan and belief are working room: any values do -/
theorem JM.pb {w : XW} {f : Nat → Int32} {n : Nat} {H : Nat → Nat → Int32} {hb : Nat → Bool} {Sl : Nat → Nat → Int32} {pd at' od : Int32} (h : JM w f n H hb Sl pd at' od) (q r : Nat → Int32) : JM (mW w q r) f n H hb Sl pd at' od := by
  obtain ⟨a, b, ⟨N, pl, be, c1, c2, c3, c4⟩, d, e⟩ := h
  have t : ∀ k, k ≠ 22 → k ≠ 23 → (mW w q r)[k]? = w[k]? := fun k h1 h2 => by unfold mW; rw [xset_get _ (Ne.symm h2), xset_get _ (Ne.symm h1)]
  refine ⟨a, ?_, ⟨N, q, r, by rw [t 16 (by decide) (by decide)]; exact c1, ?_, ?_, c4⟩, d.fr (t 17 (by decide) (by decide)), e.fr (t 18 (by decide) (by decide)) (t 19 (by decide) (by decide))⟩
  · unfold MO at b ⊢
    rw [t 15 (by decide) (by decide)]
    exact b
  · unfold mW
    rw [xset_get _ (by decide)]
    exact xset_self c2
  · unfold mW
    exact xset_self (by rw [xset_get _ (by decide)]; exact c3)
theorem mW_fr (w : XW) (q r : Nat → Int32) : xFr fM w (mW w q r) := (xFr.st _ (by decide)).tr (xFr.st _ (by decide))
theorem MV_congr {N M : Nat → Int32} (h : ∀ k, k < 72 → N k = M k) : MV N = MV M := by
  funext k
  rw [MV_at, MV_at]
  by_cases hk : k < 72
  · rw [if_pos hk, if_pos hk, h _ (mj_lt hk)]
  · rw [if_neg hk, if_neg hk]
/-- 72 cells laid from one row into another -/
theorem m_lays {w : XW} {src dst n0 n1 s d : Nat} {f g : Nat → Int32} (hne : dst ≠ src) (h1 : w[src]? = some (.inl (0, n0, f))) (h2 : w[dst]? = some (.inl (0, n1, g))) (b1 : s + 72 ≤ n0) (b2 : d + 72 ≤ n1) (hn0 : n0 < 2 ^ 20) (hn1 : n1 < 2 ^ 20) : ∃ h', fX4_lays src (nI s) dst (nI d) w = some (w.set dst (.inl (0, n1, h'))) ∧ ∀ k, k < n1 → h' k = if d ≤ k ∧ k < d + 72 then f (s + (k - d)) else g k := by
  have key : ∀ (e z j : Nat) (h : Nat → Int32), j + e = 72 → e < z → (∀ k, k < n1 → h k = if d ≤ k ∧ k < d + j then f (s + (k - d)) else g k) → ∃ h', fX4_lays_3 z src (nI s) dst (nI d) (nI j) (w.set dst (.inl (0, n1, h))) = some (w.set dst (.inl (0, n1, h'))) ∧ ∀ k, k < n1 → h' k = if d ≤ k ∧ k < d + 72 then f (s + (k - d)) else g k := by
    intro e
    induction e with
    | zero =>
      intro z j h hj hz hh
      obtain ⟨z, rfl⟩ : ∃ x, z = x + 1 := ⟨z - 1, by omega⟩
      obtain rfl : j = 72 := by omega
      rw [fX4_lays_3, if_pos (by decide +kernel)]
      exact ⟨h, rfl, hh⟩
    | succ e ih =>
      intro z j h hj hz hh
      obtain ⟨z, rfl⟩ : ∃ x, z = x + 1 := ⟨z - 1, by omega⟩
      rw [fX4_lays_3, if_neg (by rw [xl72]; exact nI_ge (by omega) (by omega)), nI_add, nI_add, xaI_ok (by rw [xset_get _ hne]; exact h1) (by omega) (by omega)]
      simp only [ob]
      rw [xsI_ok (xset_self h2) (by omega) (by omega)]
      simp only [ob]
      rw [List.set_set, nI_1]
      refine ih z (j + 1) _ (by omega) (by omega) ?_
      intro k hk
      unfold xct upd
      rw [if_pos hk]
      by_cases e1 : k = d + j
      · rw [if_pos e1, if_pos (by omega)]
        congr 1; omega
      · rw [if_neg e1, hh k hk]
        by_cases e2 : d ≤ k ∧ k < d + j
        · rw [if_pos e2, if_pos (by omega)]
        · rw [if_neg e2, if_neg (by omega)]
  obtain ⟨h', r1, r2⟩ := key 72 1000 0 g (by omega) (by omega) (by intro k hk; rw [if_neg (by omega)])
  rw [xset_same h2, ← xl0] at r1
  exact ⟨h', r1, r2⟩
section STM
variable {w : XW} {f : Nat → Int32} {n : Nat} {H : Nat → Nat → Int32} {hb : Nat → Bool} {Sl : Nat → Nat → Int32} {pd at' od : Int32}
theorem m_rec49 {P : Nat → Int32} (hn : n < 6) (h0 : MO w n pd at' od) (hG : MG w f) (h17 : w[17]? = some (.inl (0, 432, P))) (hh : ∀ i, i < n → MV (vSeg P (72 * i)) = H i) (hS : MS w hb Sl) : ∃ w1, fX4_records_49 15 w = some w1 ∧ JM w1 f (n + 1) (fun i => if i = n then f else H i) hb Sl pd at' od ∧ xFr fM w w1 := by
  obtain ⟨N, pl, be, c1, c2, c3, c4⟩ := hG
  unfold MO at h0
  obtain ⟨h', l1, l2⟩ := m_lays (w := w) (src := 16) (dst := 17) (s := 0) (d := 72 * n) (by decide) c1 h17 (by omega) (by omega) (by omega) (by omega)
  have e1 : ∀ e : XE, (w.set 17 e)[15]? = w[15]? := fun e => xset_get e (by decide)
  unfold fX4_records_49
  rw [xgR_ok (x := 16) h0 rfl, xgR_ok (x := 17) h0 rfl, xgI_ok (x := nI n) h0 rfl]
  simp only [ob]
  rw [show (72 : Int32) = nI 72 from xl72, pk_mul, show (0 : Int32) = nI 0 from xl0, l1]
  simp only [ob]
  rw [xgI_ok (x := nI n) ((e1 _).trans h0) rfl]
  simp only [ob]
  rw [xpI_ok ((e1 _).trans h0) (show 2 < 12 by omega), nI_1]
  simp only [ob]
  refine ⟨_, rfl, ?_, ?_⟩
  · have q : ∀ (e : XE) (k : Nat), k ≠ 15 → k ≠ 17 → ((w.set 17 (.inl (0, 432, h'))).set 15 e)[k]? = w[k]? := fun e k h1 h2 => by rw [xset_get _ (Ne.symm h1), xset_get _ (Ne.symm h2)]
    refine ⟨by omega, xset_self ((e1 _).trans h0), ⟨N, pl, be, by rw [q _ 16 (by decide) (by decide)]; exact c1, by rw [q _ 22 (by decide) (by decide)]; exact c2, by rw [q _ 23 (by decide) (by decide)]; exact c3, c4⟩, ⟨h', by rw [xset_get _ (by decide)]; exact xset_self h17, ?_⟩, hS.fr (q _ 18 (by decide) (by decide)) (q _ 19 (by decide) (by decide))⟩
    intro i hi
    by_cases hin : i = n
    · subst hin
      show MV (vSeg h' (72 * i)) = if i = i then f else H i
      rw [if_pos rfl, ← c4]
      refine MV_congr (fun k hk => ?_)
      unfold vSeg
      rw [if_pos hk, l2 _ (by omega), if_pos (by omega)]
      congr 1; omega
    · show MV (vSeg h' (72 * i)) = if i = n then f else H i
      rw [if_neg hin, ← hh i (by omega)]
      refine MV_congr (fun k hk => ?_)
      unfold vSeg
      rw [if_pos hk, if_pos hk, l2 _ (by omega), if_neg (by omega)]
  · exact (xFr.st _ (by decide)).tr (xFr.st _ (by decide))
theorem m_shift {P : Nat → Int32} (h0 : MO w n pd at' od) (h17 : w[17]? = some (.inl (0, 432, P))) : ∃ P', (∀ k, k < 360 → P' k = P (k + 72)) ∧ fX4_records_11 1000 15 0 w = ((xgI (w.set 17 (.inl (0, 432, P'))) 15 4 2).bind fun v2 => (xpI (w.set 17 (.inl (0, 432, P'))) 15 4 2 (v2 - (1))).bind fun w3 => fX4_records_49 15 w3) := by
  unfold MO at h0
  have key : ∀ (e z j : Nat) (h : Nat → Int32), j + e = 360 → e < z → (∀ k, k < 432 → h k = if k < j then P (k + 72) else P k) → ∃ P', (∀ k, k < 360 → P' k = P (k + 72)) ∧ fX4_records_11 z 15 (nI j) (w.set 17 (.inl (0, 432, h))) = ((xgI (w.set 17 (.inl (0, 432, P'))) 15 4 2).bind fun v2 => (xpI (w.set 17 (.inl (0, 432, P'))) 15 4 2 (v2 - (1))).bind fun w3 => fX4_records_49 15 w3) := by
    intro e
    induction e with
    | zero =>
      intro z j h hj hz hh
      obtain ⟨z, rfl⟩ : ∃ x, z = x + 1 := ⟨z - 1, by omega⟩
      obtain rfl : j = 360 := by omega
      rw [fX4_records_11, if_pos (by decide +kernel)]
      exact ⟨h, fun k hk => by rw [hh k (by omega), if_pos hk], rfl⟩
    | succ e ih =>
      intro z j h hj hz hh
      obtain ⟨z, rfl⟩ : ∃ x, z = x + 1 := ⟨z - 1, by omega⟩
      have e1 : (w.set 17 (.inl (0, 432, h)))[15]? = w[15]? := xset_get _ (by decide)
      rw [fX4_records_11, if_neg (by rw [show (360 : Int32) = nI 360 by decide +kernel]; exact nI_ge (by omega) (by omega)), xgR_ok (x := 17) (e1.trans h0) rfl]
      simp only [ob]
      rw [show (72 : Int32) = nI 72 from xl72, nI_add, xaI_ok (xset_self h17) (by omega) (by omega)]
      simp only [ob]
      rw [xsI_ok (xset_self h17) (by omega) (by omega)]
      simp only [ob]
      rw [List.set_set, nI_1]
      refine ih z (j + 1) _ (by omega) (by omega) ?_
      intro k hk
      unfold xct upd
      rw [if_pos hk]
      by_cases e1 : k = j
      · rw [if_pos e1, if_pos (by omega), hh _ (by omega), if_neg (by omega), e1]
      · rw [if_neg e1, hh k hk]
        by_cases e2 : k < j
        · rw [if_pos e2, if_pos (by omega)]
        · rw [if_neg e2, if_neg (by omega)]
  obtain ⟨P', a, b⟩ := key 360 1000 0 P (by omega) (by omega) (by intro k hk; rw [if_neg (by omega)])
  rw [xset_same h17, ← xl0] at b
  exact ⟨P', a, b⟩
theorem m_records (h : JM w f n H hb Sl pd at' od) : ∃ w1, fX4_records 15 w = some w1 ∧ JM w1 f (hN n) (hP n H f) hb Sl pd at' od ∧ xFr fM w w1 := by
  obtain ⟨hn, h0, hG, ⟨P, h17, hh⟩, hS⟩ := h
  have h0' := h0
  unfold MO at h0'
  unfold fX4_records hN hP
  rw [if_pos (xis_ok h0'), xgI_ok (x := nI n) h0' rfl]
  simp only [ob]
  by_cases h6 : n < 6
  · rw [if_neg (by rw [show (6 : Int32) = nI 6 by decide +kernel]; exact fun z => absurd ((nI_eq (by omega) (by omega)).mp z) (by omega)), if_pos h6]
    simp only [if_pos h6]
    exact m_rec49 h6 h0 hG h17 hh hS
  · obtain rfl : n = 6 := by omega
    obtain ⟨P', s1, s2⟩ := m_shift h0 h17
    have e0 : (w.set 17 (.inl (0, 432, P')))[15]? = w[15]? := xset_get _ (by decide)
    rw [if_pos (by decide +kernel), if_neg h6, s2, xgI_ok (x := nI 6) (e0.trans h0') rfl]
    simp only [ob]
    rw [xpI_ok (e0.trans h0') (show 2 < 12 by omega)]
    simp only [ob]
    have q : ∀ (e : XE) (k : Nat), k ≠ 15 → k ≠ 17 → ((w.set 17 (.inl (0, 432, P'))).set 15 e)[k]? = w[k]? := fun e k h1 h2 => by rw [xset_get _ (Ne.symm h1), xset_get _ (Ne.symm h2)]
    have hc : ∀ i, i < 5 → MV (vSeg P' (72 * i)) = H (i + 1) := by
      intro i hi
      rw [← hh (i + 1) (by omega)]
      refine MV_congr (fun k hk => ?_)
      unfold vSeg
      rw [if_pos hk, if_pos hk, s1 _ (by omega)]
      congr 1; omega
    obtain ⟨w1, r1, r2, r3⟩ := m_rec49 (w := (w.set 17 (.inl (0, 432, P'))).set 15 (.inr (4, [.ref 16, .ref 17, .int (nI 5), .ref 18, .ref 19, .ref 20, .int pd, .int at', .ref 21, .int od, .ref 22, .ref 23]))) (n := 5) (f := f) (H := fun i => H (i + 1)) (hb := hb) (Sl := Sl) (pd := pd) (at' := at') (od := od) (by omega) (xset_self (e0.trans h0')) (hG.fr (q _ 16 (by decide) (by decide)) (q _ 22 (by decide) (by decide)) (q _ 23 (by decide) (by decide))) (by rw [xset_get _ (by decide)]; exact xset_self h17) hc (hS.fr (q _ 18 (by decide) (by decide)) (q _ 19 (by decide) (by decide)))
    simp only [if_neg h6]
    refine ⟨w1, ?_, r2, ((xFr.st _ (by decide)).tr (xFr.st _ (by decide))).tr r3⟩
    rw [← r1, show nI 6 - 1 = nI 5 by decide +kernel]
    rfl
end STM
