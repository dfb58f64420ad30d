/-! BOTH SIDES TOGETHER: carryOut -/
theorem nI_sur (x : Int32) : ∃ k : Nat, x = nI k := by
  refine ⟨x.toBitVec.toNat, Int32.toBitVec_inj.mp ?_⟩
  show x.toBitVec = BitVec.ofNat 32 x.toBitVec.toNat
  rw [BitVec.ofNat_toNat, BitVec.setWidth_eq]
/-- the text on both pads -/
theorem JT_s {w : XW} {pd : Int32} (hT : JT w pd) : ∃ s L sg pa ors, TS s L ∧ TC w s L ∧ pd = nI L ∧ w[10]? = some (.inr (1, [.ref 11, .int (nI L)])) ∧ w[11]? = some (.inl (0, 80, sg)) ∧ w[20]? = some (.inl (0, 80, pa)) ∧ (∀ i, i < L → pa i = nI (s i)) ∧ w[21]? = some (.inl (0, 85, ors)) := by
  obtain ⟨L, sg, pa, ors, a, b, c, d, e, g, h⟩ := hT
  have hval : ∀ i, i < L → sg i = nI (sg i).toNatClampNeg ∧ 33 ≤ (sg i).toNatClampNeg ∧ (sg i).toNatClampNeg ≤ 126 := by
    intro i hi
    obtain ⟨-, b, b1, b2, b3⟩ := h i hi
    rw [b3, nI_clamp (by omega)]
    exact ⟨rfl, b1, b2⟩
  have hs : TS (fun i => if i < L then (sg i).toNatClampNeg else 0) L := by
    refine ⟨a, fun i hi => ?_, fun i hi => ?_⟩
    · simp only [if_pos hi]; exact (hval i hi).2
    · simp only [if_neg (show ¬ i < L by omega)]
  refine ⟨_, L, sg, pa, ors, hs, ⟨sg, ⟨c, d⟩, fun i hi => by simp only [if_pos hi]; exact (hval i hi).1⟩, b, c, d, e, fun i hi => ?_, g⟩
  simp only [if_pos hi]
  rw [← (h i hi).1]
  exact (hval i hi).1
theorem j_carryOut : JSx (fX3_carryOut 0) (fX4_carryOut 15) := by
  intro w ⟨pd, at', od, hJ, hT⟩
  obtain ⟨f, n, H, hb, Sl, hC, hM, hG⟩ := hJ
  obtain ⟨s, L, sg, pa, ors, hs, hc, hpd, h10, h11, h20, hpa, h21⟩ := JT_s hT
  obtain ⟨at2, rfl⟩ := nI_sur at'
  obtain ⟨od2, rfl⟩ := nI_sur od
  subst hpd
  have hL := hs.1
  cases hf : fP s (L + 1) 0 with
  | some p =>
    have hp := fP_lt hs _ _ _ (Nat.zero_le L) hf
    have hMT : MT w s L f n H hb Sl at2 od2 ors := ⟨hM, ⟨pa, h20, hpa⟩, h21⟩
    obtain ⟨w1, or1, m, e1, e2, e3, e4⟩ := m_text hs hMT
    rw [hf] at e1 e2
    obtain ⟨L', sg', pa', ors', a', b', c', d', e', g', h'⟩ := hT
    have e2' : MT w1 s L f n H hb Sl p m or1 := e2
    refine ⟨-3, w, w1, ?_, ?_, nI L, _, _, ⟨f, n, H, hb, Sl, hC.fr (fun k hk _ _ => e4.2 k (by simp; omega)), e2'.1, hG⟩, ⟨L', sg', pa', or1, a', b', by rw [e4.2 10 (by decide)]; exact c', by rw [e4.2 11 (by decide)]; exact d', by rw [e4.2 20 (by decide)]; exact e', e2'.2.2, h'⟩⟩
    · unfold fX3_carryOut
      rw [if_pos hC.o.1, hC.o.2.2.2.1]
      simp only [ob]
      rw [c_fP hs hc, hf]
      simp only [ob]
      rw [if_neg (show ¬ oI (some p) = -6 from nI_m6 (by omega))]
    · unfold fX4_carryOut
      rw [if_pos hM.o.1, e1]
      simp only [ob]
      rw [if_pos (show rF (some p) = 0 from rfl)]
  | none =>
    obtain ⟨u, a1, a2, a3⟩ := c_record hC hG.1.1
    have hcu : TC u s L := hc.fr (a3.2 10 (by decide)) (a3.2 11 (by decide))
    have hall : ∀ k, st s k ≤ L → fO s (st s k) = none := fun k hk => fP_all hs (L + 1) 0 (Nat.le_add_left _ _) hf k (Nat.zero_le k) hk
    have hMT : MT w s L f n H hb Sl at2 od2 ors := ⟨hM, ⟨pa, h20, hpa⟩, h21⟩
    obtain ⟨_, _, m, _, _, x3, _⟩ := m_text hs hMT
    obtain ⟨m16, mL, mO⟩ := x3 hf
    obtain ⟨w1, b1, b2, b3, b4⟩ := c_loop hs (m := m) (fun k hk => ⟨hall k (Nat.le_of_lt (mO k hk).2), (mO k hk).2⟩) m16 mL m 1000 0 u f (by omega) (by omega) a2 hcu
    have fr1 : xFr (10 :: fC) w w1 := (a3.wk (by decide)).tr b4
    have hM1 : JM w1 f n H hb Sl (nI L) (nI at2) (nI od2) := hM.fr (fun k hk => fr1.2 k (by unfold fC; simp; omega))
    have hMT1 : MT w1 s L f n H hb Sl at2 od2 ors := ⟨hM1, ⟨pa, by rw [fr1.2 20 (by decide)]; exact h20, hpa⟩, by rw [fr1.2 21 (by decide)]; exact h21⟩
    obtain ⟨w2, or1, m2, e1, e2, e3, e4⟩ := m_text hs hMT1
    rw [hf] at e1 e2
    obtain ⟨n16, nL, nO⟩ := e3 hf
    have hmm : m2 = m := by
      have q1 : ¬ m2 < m := fun z => absurd (mO m2 z).2 (by omega)
      have q2 : ¬ m < m2 := fun z => absurd (nO m z).2 (by omega)
      omega
    subst hmm
    have e2' : MT w2 s L f n H hb Sl L m2 or1 := e2
    obtain ⟨w3, g1, g2, g3⟩ := m_records e2'.1
    have g0 := g2.2.1
    unfold MO at g0
    have hx : xpI w3 15 4 6 0 = some (w3.set 15 (.inr (4, [.ref 16, .ref 17, .int (nI (hN n)), .ref 18, .ref 19, .ref 20, .int 0, .int (nI L), .ref 21, .int (nI m2), .ref 22, .ref 23]))) := xpI_ok g0 (show 6 < 12 by omega)
    have g4 := g2.txt 0 (nI L) (nI m2)
    generalize hw4 : w3.set 15 (.inr (4, [.ref 16, .ref 17, .int (nI (hN n)), .ref 18, .ref 19, .ref 20, .int 0, .int (nI L), .ref 21, .int (nI m2), .ref 22, .ref 23])) = w4 at hx g4
    have fr4 : xFr fM w3 w4 := by rw [← hw4]; exact xFr.st _ (by decide)
    have j21 : w4[21]? = some (.inl (0, 85, or1)) := by rw [fr4.2 21 (by decide), g3.2 21 (by decide)]; exact e2'.2.2
    obtain ⟨w5, k1, k2, k3⟩ := m_loop hs (m := m2) (ors := or1) (fun k hk => ⟨hall k (Nat.le_of_lt (nO k hk).2), (nO k hk).1⟩) n16 m2 1000 0 w4 f (by omega) (by omega) g4 j21
    have fr5 : xFr fM w2 w5 := (g3.tr fr4).tr k3
    have frM : ∀ k, k < 15 → w5[k]? = w1[k]? := fun k hk => by rw [fM_fr fr5 k hk, e4.2 k (by simp; omega)]
    have hGf := rn_Gd hs (m := m2) (fun k hk => hall k (Nat.le_of_lt (nO k hk).2)) m2 0 f (by omega) hG.1
    refine ⟨nI (rn s m2 0 f).1, w1, w5, ?_, ?_, 0, _, _, ⟨_, _, _, _, _, b2.fr (fun k hk _ _ => frM k hk), k2, GG_rec hG hC.1 hGf⟩, ⟨0, sg, pa, or1, by omega, xl0, ?_, ?_, ?_, ?_, fun i hi => absurd hi (by omega)⟩⟩
    · unfold fX3_carryOut
      rw [if_pos hC.o.1, hC.o.2.2.2.1]
      simp only [ob]
      rw [c_fP hs hc, hf]
      simp only [ob]
      rw [if_pos (show oI none = -6 from rfl), a1]
      simp only [ob]
      rw [← xl0] at b1
      exact b1
    · unfold fX4_carryOut
      rw [if_pos hM1.o.1, e1]
      simp only [ob]
      rw [if_neg (show ¬ rF none = 0 by decide +kernel), g1]
      simp only [ob]
      rw [hx]
      simp only [ob]
      rw [← xl0] at k1
      exact k1
    · rw [frM 10 (by omega), b3, ← xl0]
    · rw [frM 11 (by omega), fr1.2 11 (by decide)]; exact h11
    · rw [fr5.2 20 (by decide), e4.2 20 (by decide), fr1.2 20 (by decide)]; exact h20
    · rw [k3.2 21 (by decide)]; exact j21
