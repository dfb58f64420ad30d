/-! BOTH SIDES TOGETHER: the pad -/
def JT (w : XW) (pd : Int32) : Prop := ∃ L sg pa od, L ≤ 80 ∧ pd = nI L ∧ w[10]? = some (.inr (1, [.ref 11, .int (nI L)])) ∧ w[11]? = some (.inl (0, 80, sg)) ∧ w[20]? = some (.inl (0, 80, pa)) ∧ w[21]? = some (.inl (0, 85, od)) ∧ ∀ i, i < L → sg i = pa i ∧ ∃ b, 33 ≤ b ∧ b ≤ 126 ∧ sg i = nI b
def JX (w : XW) : Prop := ∃ pd at' od, JJ w pd at' od ∧ JT w pd
def JSx (c m : XW → Option (Int32 × XW)) : Prop := ∀ w, JX w → ∃ r w1 w2, c w = some (r, w1) ∧ m w1 = some (r, w2) ∧ JX w2
theorem JT.fr {w w1 : XW} {pd : Int32} (h : JT w pd) (h1 : w1[10]? = w[10]?) (h2 : w1[11]? = w[11]?) (h3 : w1[20]? = w[20]?) (h4 : w1[21]? = w[21]?) : JT w1 pd := by
  obtain ⟨L, sg, pa, od, a, b, c, d, e, f, g⟩ := h
  exact ⟨L, sg, pa, od, a, b, by rw [h1]; exact c, by rw [h2]; exact d, by rw [h3]; exact e, by rw [h4]; exact f, g⟩
theorem JSt.x {c m : XW → Option (Int32 × XW)} (h : JSt c m) : JSx c m := by
  intro w ⟨pd, at', od, hJ, hT⟩
  obtain ⟨r, w1, w2, e1, e2, e3, e4⟩ := h w pd at' od hJ
  exact ⟨r, w1, w2, e1, e2, pd, at', od, e3, hT.fr (e4.2 10 (by decide)) (e4.2 11 (by decide)) (e4.2 20 (by decide)) (e4.2 21 (by decide))⟩
section STP
variable {w : XW} {f : Nat → Int32} {n : Nat} {H : Nat → Nat → Int32} {hb : Nat → Bool} {Sl : Nat → Nat → Int32} {pd at' od : Int32}
theorem c_len {L : Nat} (h : w[10]? = some (.inr (1, [.ref 11, .int (nI L)]))) : fX1_length 10 w = some (nI L, w) := by
  unfold fX1_length
  rw [if_pos (xis_ok h), xgI_ok (x := nI L) h rfl]
  simp only [ob]
theorem c_clear {L : Nat} (h : w[10]? = some (.inr (1, [.ref 11, .int (nI L)]))) : fX1_clear 10 w = some (w.set 10 (.inr (1, [.ref 11, .int 0]))) := by
  have hx : xpI w 10 1 1 0 = some (w.set 10 (.inr (1, [.ref 11, .int 0]))) := xpI_ok h (show 1 < 2 by omega)
  unfold fX1_clear
  rw [if_pos (xis_ok h), hx]
  simp only [ob]
/-- the reference's object with other text fields -/
theorem JM.txt (h : JM w f n H hb Sl pd at' od) (pd2 at2 od2 : Int32) : JM (w.set 15 (.inr (4, [.ref 16, .ref 17, .int (nI n), .ref 18, .ref 19, .ref 20, .int pd2, .int at2, .ref 21, .int od2, .ref 22, .ref 23]))) f n H hb Sl pd2 at2 od2 := by
  obtain ⟨a, b, c, d, e⟩ := h
  unfold MO at b
  have t : ∀ (e : XE) (j : Nat), j ≠ 15 → (w.set 15 e)[j]? = w[j]? := fun e j h1 => by rw [xset_get _ (Ne.symm h1)]
  exact ⟨a, xset_self b, c.fr (t _ 16 (by decide)) (t _ 22 (by decide)) (t _ 23 (by decide)), d.fr (t _ 17 (by decide)), e.fr (t _ 18 (by decide)) (t _ 19 (by decide))⟩
end STP
theorem j_count6 : JSx (fX3_count 0 6) (fX4_count 15 6) := by
  intro w ⟨pd, at', od, hJ, hT⟩
  have hJ' := hJ
  obtain ⟨f, n, H, hb, Sl, hC, hM, hG⟩ := hJ
  have hT' := hT
  obtain ⟨L, sg, pa, ors, a, b, c, d, e, g, h⟩ := hT'
  obtain ⟨N, be, l1, l2, l3, l4⟩ := m_lk hM hG.1
  have hM2 := hM.pb (mS N) be
  obtain ⟨q1, q2⟩ := JJ_rd hC xFr.rf hM hG (mS N) be
  refine ⟨nI L, w, mW w (mS N) be, ?_, ?_, pd, at', od, q1, hT.fr (q2.2 10 (by decide)) (q2.2 11 (by decide)) (q2.2 20 (by decide)) (q2.2 21 (by decide))⟩
  · unfold fX3_count
    rw [if_pos hC.o.1, if_neg (by decide +kernel), if_neg (by decide +kernel), if_neg (by decide +kernel), if_neg (by decide +kernel), if_neg (by decide +kernel), if_neg (by decide +kernel), if_pos rfl, hC.o.2.2.2.1]
    simp only [ob]
    rw [c_len c]
    simp only [ob]
  · unfold fX4_count
    rw [if_pos hM.o.1, m_in]
    simp only [ob]
    rw [if_pos (show (0 : Int32) ≤ 6 ∧ (6 : Int32) ≤ 7 by decide +kernel), if_neg (by decide +kernel), l1]
    simp only [ob]
    rw [if_pos (show (3 : Int32) ≤ 6 by decide +kernel), if_pos (show (6 : Int32) ≤ 6 by decide +kernel), if_pos trivial, hM2.o.2.2.2.2.2.2, b]
    simp only [ob]
theorem j_wipe : JSx (fX3_wipe 0) (fX4_wipe 15) := by
  intro w ⟨pd, at', od, hJ, hT⟩
  obtain ⟨f, n, H, hb, Sl, hC, hM, hG⟩ := hJ
  obtain ⟨L, sg, pa, ors, a, b, c, d, e, g, h⟩ := hT
  have t : ∀ (e : XE) (j : Nat), j ≠ 10 → (w.set 10 e)[j]? = w[j]? := fun e j h1 => by rw [xset_get _ (Ne.symm h1)]
  have hM1 : JM (w.set 10 (.inr (1, [.ref 11, .int 0]))) f n H hb Sl pd at' od := hM.fr (fun k hk => t _ k (by omega))
  have hC1 : JC (w.set 10 (.inr (1, [.ref 11, .int 0]))) f n H hb Sl := hC.fr (fun k _ h1 _ => t _ k h1)
  have hM2 := hM1.txt 0 at' od
  have m0 := hM1.2.1
  unfold MO at m0
  have hx2 : xpI (w.set 10 (.inr (1, [.ref 11, .int 0]))) 15 4 6 0 = some ((w.set 10 (.inr (1, [.ref 11, .int 0]))).set 15 (.inr (4, [.ref 16, .ref 17, .int (nI n), .ref 18, .ref 19, .ref 20, .int 0, .int at', .ref 21, .int od, .ref 22, .ref 23]))) := xpI_ok m0 (show 6 < 12 by omega)
  refine ⟨nI L, w.set 10 (.inr (1, [.ref 11, .int 0])), (w.set 10 (.inr (1, [.ref 11, .int 0]))).set 15 (.inr (4, [.ref 16, .ref 17, .int (nI n), .ref 18, .ref 19, .ref 20, .int 0, .int at', .ref 21, .int od, .ref 22, .ref 23])), ?_, ?_, 0, at', od, ⟨f, n, H, hb, Sl, hC1.fr (fun k hk _ _ => by rw [xset_get _ (by omega)]), hM2, hG⟩, ⟨0, sg, pa, ors, by omega, xl0, ?_, ?_, ?_, ?_, fun i hi => absurd hi (by omega)⟩⟩
  · unfold fX3_wipe
    rw [if_pos hC.o.1, hC.o.2.2.2.1]
    simp only [ob]
    rw [c_len c]
    simp only [ob]
    rw [hC.o.2.2.2.1]
    simp only [ob]
    rw [c_clear c]
    simp only [ob]
  · unfold fX4_wipe
    rw [if_pos hM1.o.1, hM1.o.2.2.2.2.2.2, b]
    simp only [ob]
    rw [hx2]
    simp only [ob]
  · rw [xset_get _ (by decide), ← xl0]; exact xset_self c
  · rw [xset_get _ (by decide), t _ 11 (by decide)]; exact d
  · rw [xset_get _ (by decide), t _ 20 (by decide)]; exact e
  · rw [xset_get _ (by decide), t _ 21 (by decide)]; exact g
