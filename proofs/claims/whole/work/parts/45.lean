/-! BOTH SIDES TOGETHER: the fault of the text -/
theorem JT_txt {w : XW} {f : Nat → Int32} {n : Nat} {H : Nat → Nat → Int32} {hb : Nat → Bool} {Sl : Nat → Nat → Int32} {pd at' od : Int32} (hM : JM w f n H hb Sl pd at' od) (hT : JT w pd) : ∃ s L, TS s L ∧ TC w s L ∧ pd = nI L ∧ w[10]? = some (.inr (1, [.ref 11, .int (nI L)])) ∧ ∃ w1 ors1 m, fX4_isText 15 w = some (rF (fP s (L + 1) 0), w1) ∧ MT w1 s L f n H hb Sl ((fP s (L + 1) 0).getD L) m ors1 ∧ (fP s (L + 1) 0 = none → m ≤ 16 ∧ L < st s m ∧ ∀ j, j < m → Od s (st s j) j ors1 ∧ st s j < L) ∧ xFr [15, 21] w w1 := by
  obtain ⟨L, sg, pa, ors, a, b, c, d, e, g, h⟩ := hT
  subst b
  have hval : ∀ i, i < L → sg i = nI (sg i).toNatClampNeg ∧ 33 ≤ (sg i).toNatClampNeg ∧ (sg i).toNatClampNeg ≤ 126 := by
    intro i hi
    obtain ⟨-, b, b1, b2, b3⟩ := h i hi
    rw [b3, nI_clamp (by omega)]
    exact ⟨rfl, b1, b2⟩
  have hs : TS (fun i => if i < L then (sg i).toNatClampNeg else 0) L := by
    refine ⟨a, fun i hi => ?_, fun i hi => ?_⟩
    · simp only [if_pos hi]; exact (hval i hi).2
    · simp only [if_neg (show ¬ i < L by omega)]
  have hc : TC w (fun i => if i < L then (sg i).toNatClampNeg else 0) L := ⟨sg, ⟨c, d⟩, fun i hi => by simp only [if_pos hi]; exact (hval i hi).1⟩
  have m0 := hM.2.1
  unfold MO at m0
  have t : ∀ (e1 : XE) (j : Nat), j ≠ 15 → (w.set 15 e1)[j]? = w[j]? := fun e1 j h1 => by rw [xset_get _ (Ne.symm h1)]
  have hx : xpI w 15 4 7 0 = some (w.set 15 (.inr (4, [.ref 16, .ref 17, .int (nI n), .ref 18, .ref 19, .ref 20, .int (nI L), .int 0, .ref 21, .int od, .ref 22, .ref 23]))) := xpI_ok m0 (show 7 < 12 by omega)
  have hM1 := hM.txt (nI L) 0 od
  have m1 := hM1.2.1
  unfold MO at m1
  have hx2 : xpI (w.set 15 (.inr (4, [.ref 16, .ref 17, .int (nI n), .ref 18, .ref 19, .ref 20, .int (nI L), .int 0, .ref 21, .int od, .ref 22, .ref 23]))) 15 4 9 0 = some ((w.set 15 (.inr (4, [.ref 16, .ref 17, .int (nI n), .ref 18, .ref 19, .ref 20, .int (nI L), .int 0, .ref 21, .int od, .ref 22, .ref 23]))).set 15 (.inr (4, [.ref 16, .ref 17, .int (nI n), .ref 18, .ref 19, .ref 20, .int (nI L), .int 0, .ref 21, .int 0, .ref 22, .ref 23]))) := xpI_ok m1 (show 9 < 12 by omega)
  have hM2 := hM1.txt (nI L) 0 0
  have hMT : MT ((w.set 15 (.inr (4, [.ref 16, .ref 17, .int (nI n), .ref 18, .ref 19, .ref 20, .int (nI L), .int 0, .ref 21, .int od, .ref 22, .ref 23]))).set 15 (.inr (4, [.ref 16, .ref 17, .int (nI n), .ref 18, .ref 19, .ref 20, .int (nI L), .int 0, .ref 21, .int 0, .ref 22, .ref 23]))) (fun i => if i < L then (sg i).toNatClampNeg else 0) L f n H hb Sl 0 0 ors := by
    refine ⟨?_, ⟨pa, ?_, fun i hi => ?_⟩, ?_⟩
    · rw [← xl0]; exact hM2
    · rw [xset_get _ (by decide), t _ 20 (by decide)]; exact e
    · simp only [if_pos hi]
      rw [← (h i hi).1]
      exact (hval i hi).1
    · rw [xset_get _ (by decide), t _ 21 (by decide)]; exact g
  obtain ⟨w3, or3, m, c1, c2, c3, c4⟩ := m_text12 hs (L + 1) 1000 0 0 _ ors (by omega) (by omega) (by omega) (by omega) rfl (fun j hj => absurd hj (by omega)) hMT
  refine ⟨_, L, hs, hc, rfl, c, w3, or3, m, ?_, c2, c3, ((xFr.st _ (by decide)).tr (xFr.st _ (by decide))).tr c4⟩
  unfold fX4_isText
  rw [if_pos hM.o.1, hx]
  simp only [ob]
  rw [hx2]
  simp only [ob]
  exact c1
theorem j_fault : JSx (fX3_fault 0) (fX4_fault 15) := by
  intro w ⟨pd, at', od, hJ, hT⟩
  obtain ⟨f, n, H, hb, Sl, hC, hM, hG⟩ := hJ
  obtain ⟨s, L, hs, hc, hpd, h10, w1, or1, m, e1, e2, e3, e4⟩ := JT_txt hM hT
  subst hpd
  obtain ⟨L', sg, pa, ors, a, b, c, d, e, g, h⟩ := hT
  refine ⟨oI (fP s (L + 1) 0), w, w1, ?_, ?_, nI L, _, _, ⟨f, n, H, hb, Sl, hC.fr (fun k hk _ _ => e4.2 k (by simp; omega)), e2.1, hG⟩, ⟨L', sg, pa, or1, a, b, by rw [e4.2 10 (by decide)]; exact c, by rw [e4.2 11 (by decide)]; exact d, by rw [e4.2 20 (by decide)]; exact e, e2.2.2, h⟩⟩
  · unfold fX3_fault
    rw [if_pos hC.o.1, hC.o.2.2.2.1]
    simp only [ob]
    rw [c_fP hs hc]
    simp only [ob]
  · unfold fX4_fault
    rw [if_pos hM.o.1, e1]
    simp only [ob]
    cases hf : fP s (L + 1) 0 with
    | none =>
      rw [if_neg (show ¬ rF none = 0 by decide +kernel)]
      rfl
    | some p =>
      rw [hf] at e2
      rw [if_pos (show rF (some p) = 0 from rfl), e2.fo.2.2.2.1]
      simp only [ob]
      rfl
