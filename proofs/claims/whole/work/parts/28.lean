/-! BOTH SIDES TOGETHER: undo, save, restore -/
theorem xaL_okZ {w : XW} {a n : Nat} {f : Nat → Int32} (h : w[a]? = some (.inl (1, n, f))) : xaL w a = some (nI n) := by
  unfold xaL; rw [h]; rfl
theorem k_in2 (x : Int32) : (if x < 0 then (0 : Int32) else if 2 ≤ x then 0 else 1) = if 0 ≤ x ∧ x ≤ 1 then 1 else 0 := by
  simp only [Int32.lt_iff_toInt_lt, Int32.le_iff_toInt_le, show (0 : Int32).toInt = 0 by decide +kernel, show (1 : Int32).toInt = 1 by decide +kernel, show (2 : Int32).toInt = 2 by decide +kernel]
  split
  · rw [if_neg (by omega)]
  · split
    · rw [if_neg (by omega)]
    · rw [if_pos (by omega)]
theorem c_in2 (x : Int32) (w : XW) : fX3_isWithin x (nI 2) w = some (if 0 ≤ x ∧ x ≤ 1 then 1 else 0, w) := by rw [s_in, ← xl2, k_in2]
theorem k_sub1 (k : Nat) : nI (k + 1) - 1 = nI k := by
  rw [xl1, ← nI_add]
  exact Int32.add_sub_cancel _ _
theorem vSeg_cn (g : Nat → Int32) (s : Nat) : Cn 72 (vSeg g s) := fun k hk => by unfold vSeg; rw [if_neg (by omega)]
section STF
variable {w : XW} {f : Nat → Int32} {n : Nat} {H : Nat → Nat → Int32} {hb : Nat → Bool} {Sl : Nat → Nat → Int32} {pd at' od : Int32}
/-- the class reads a state back from a row -/
theorem c_read (h : JC w f n H hb Sl) (hcf : Cn 72 f) {q n1 s : Nat} {g : Nat → Int32} (hq : w[q]? = some (.inl (0, n1, g))) (hs : s + 72 ≤ n1) (hn1 : n1 < 2 ^ 30) : ∃ w1, fX0_readFrom 1 q (nI s) w = some w1 ∧ JC w1 (vSeg g s) n H hb Sl ∧ xFr fC w w1 := by
  obtain ⟨hn, h0, ⟨p, g1, g2, g3⟩, hI, hH, hS⟩ := h
  have t : ∀ (e1 e2 : XE) (k : Nat), k ≠ 2 → k ≠ 3 → ((w.set 2 e1).set 3 e2)[k]? = w[k]? := fun e1 e2 k h1 h2 => by rw [xset_get _ (Ne.symm h2), xset_get _ (Ne.symm h1)]
  refine ⟨_, s_readFrom g1 (by decide) (by decide) hcf g3 hq hs hn1, ⟨hn, ?_, ⟨vZ, (g1.setC (by decide) (by decide) _).setP (by decide) (by decide) _, Vc.z _, Cn.z 24⟩, hI.fr (fun k h1 h2 => t _ _ k (by omega) (by omega)), hH.fr (t _ _ 12 (by decide) (by decide)), hS.fr (t _ _ 13 (by decide) (by decide)) (t _ _ 14 (by decide) (by decide))⟩, (xFr.st _ (by decide)).tr (xFr.st _ (by decide))⟩
  unfold CO at h0 ⊢
  rw [t _ _ 0 (by decide) (by decide)]
  exact h0
/-- the reference reads a state back from a row -/
theorem m_read (h : JM w f n H hb Sl pd at' od) {q n1 s : Nat} {g : Nat → Int32} (hne : 16 ≠ q) (hq : w[q]? = some (.inl (0, n1, g))) (hs : s + 72 ≤ n1) (hn1 : n1 < 2 ^ 20) : ∃ w1, fX4_lays q (nI s) 16 (nI 0) w = some w1 ∧ JM w1 (MV (vSeg g s)) n H hb Sl pd at' od ∧ xFr fM w w1 := by
  obtain ⟨hn, h0, ⟨N, pl, be, c1, c2, c3, c4⟩, hH, hS⟩ := h
  obtain ⟨h', l1, l2⟩ := m_lays (w := w) (d := 0) hne hq c1 hs (by omega) hn1 (by omega)
  have t : ∀ (e : XE) (k : Nat), k ≠ 16 → (w.set 16 e)[k]? = w[k]? := fun e k h1 => by rw [xset_get _ (Ne.symm h1)]
  refine ⟨_, l1, ⟨hn, ?_, ⟨h', pl, be, xset_self c1, by rw [t _ 22 (by decide)]; exact c2, by rw [t _ 23 (by decide)]; exact c3, MV_congr (fun k hk => ?_)⟩, hH.fr (t _ 17 (by decide)), hS.fr (t _ 18 (by decide)) (t _ 19 (by decide))⟩, xFr.st _ (by decide)⟩
  · unfold MO at h0 ⊢
    rw [t _ 15 (by decide)]
    exact h0
  · unfold vSeg
    rw [l2 k hk, if_pos (by omega), if_pos hk, Nat.sub_zero]
end STF
theorem j_undo : JSt (fX3_undo 0) (fX4_undo 15) := by
  intro w pd at' od hJ
  have hJ' := hJ
  obtain ⟨f, n, H, hb, Sl, hC, hM, hG⟩ := hJ
  unfold fX3_undo fX4_undo
  rw [if_pos hC.o.1, hC.o.2.2.2.2.2.2.2]
  simp only [ob]
  by_cases hn0 : n = 0
  · subst hn0
    rw [if_neg (by decide +kernel)]
    refine ⟨_, w, w, rfl, ?_, JJ_same hJ'⟩
    rw [if_pos hM.o.1, hM.o.2.1]
    simp only [ob]
    rw [if_pos (by decide +kernel)]
  · obtain ⟨k, rfl⟩ : ∃ k, n = k + 1 := ⟨n - 1, by omega⟩
    have hk6 : k + 1 ≤ 6 := hC.1
    have hC' := hC
    obtain ⟨hn, h0, hGc, hI, ⟨P, p1, p2, p3⟩, hS⟩ := hC'
    have h0' := h0
    unfold CO at h0'
    rw [if_pos (by rw [xl0]; exact (nI_ltI (by omega) (by omega)).mpr (by omega)), k_sub1]
    have hx : xpI w 0 3 6 (nI k) = some (w.set 0 (.inr (3, [.ref 1, .ref 4, .ref 10, .ref 12, .ref 13, .ref 14, .int (nI k)]))) := xpI_ok h0' (show 6 < 7 by omega)
    rw [hx]
    simp only [ob]
    have t0 : ∀ (e : XE) (j : Nat), j ≠ 0 → (w.set 0 e)[j]? = w[j]? := fun e j h1 => by rw [xset_get _ (Ne.symm h1)]
    have hC1 : JC (w.set 0 (.inr (3, [.ref 1, .ref 4, .ref 10, .ref 12, .ref 13, .ref 14, .int (nI k)]))) f k H hb Sl := by
      refine ⟨by omega, xset_self h0', hGc.fr (t0 _ 1 (by decide)) (t0 _ 2 (by decide)) (t0 _ 3 (by decide)), hI.fr (fun j h1 h2 => t0 _ j (by omega)), ⟨P, by rw [t0 _ 12 (by decide)]; exact p1, p2, fun i hi => p3 i (by omega)⟩, hS.fr (t0 _ 13 (by decide)) (t0 _ 14 (by decide))⟩
    obtain ⟨w1, r1, r2, r3⟩ := c_read hC1 hG.1.1 (q := 12) (s := k * 72) (by rw [t0 _ 12 (by decide)]; exact p1) (by omega) (by omega)
    have e3 : vSeg P (k * 72) = H k := by rw [Nat.mul_comm]; exact p3 k (by omega)
    rw [e3] at r2
    have o1 := hC1.o
    rw [o1.2.1, o1.2.2.2.2.1, o1.2.2.2.2.2.2.2]
    simp only [ob]
    rw [xl72, pk_mul, r1]
    simp only [ob]
    rw [r2.o.2.2.2.2.2.2.2]
    simp only [ob]
    have fr1 : xFr fC w w1 := (xFr.st _ (by decide)).tr r3
    have hM1 := hM.fr (fC_fr fr1)
    have hM1' := hM1
    obtain ⟨_, m0, mG, ⟨P', q1, q3⟩, mS⟩ := hM1'
    have m0' := m0
    unfold MO at m0'
    have hx2 : xpI w1 15 4 2 (nI k) = some (w1.set 15 (.inr (4, [.ref 16, .ref 17, .int (nI k), .ref 18, .ref 19, .ref 20, .int pd, .int at', .ref 21, .int od, .ref 22, .ref 23]))) := xpI_ok m0' (show 2 < 12 by omega)
    have t1 : ∀ (e : XE) (j : Nat), j ≠ 15 → (w1.set 15 e)[j]? = w1[j]? := fun e j h1 => by rw [xset_get _ (Ne.symm h1)]
    have hM2 : JM (w1.set 15 (.inr (4, [.ref 16, .ref 17, .int (nI k), .ref 18, .ref 19, .ref 20, .int pd, .int at', .ref 21, .int od, .ref 22, .ref 23]))) f k H hb Sl pd at' od :=
      ⟨by omega, xset_self m0', mG.fr (t1 _ 16 (by decide)) (t1 _ 22 (by decide)) (t1 _ 23 (by decide)), ⟨P', by rw [t1 _ 17 (by decide)]; exact q1, fun i hi => q3 i (by omega)⟩, mS.fr (t1 _ 18 (by decide)) (t1 _ 19 (by decide))⟩
    obtain ⟨w2, s1, s2, s3⟩ := m_read hM2 (q := 17) (s := 72 * k) (by decide) (by rw [t1 _ 17 (by decide)]; exact q1) (by omega) (by omega)
    rw [q3 k (by omega)] at s2
    refine ⟨_, w1, w2, rfl, ?_, JJ_of r2 fr1 s2 ((xFr.st _ (by decide)).tr s3) ⟨hG.2.1 k (by omega), fun i hi => hG.2.1 i (by omega), hG.2.2⟩⟩
    rw [if_pos hM1.o.1, hM1.o.2.1]
    simp only [ob]
    rw [if_neg (by rw [xl0]; exact fun z => absurd ((nI_eq (by omega) (by omega)).mp z) (by omega)), k_sub1, hx2]
    simp only [ob]
    have o2 := hM2.o
    rw [o2.2.2.2.1, o2.2.1, o2.2.2.1]
    simp only [ob]
    rw [show (0 : Int32) = nI 0 from xl0, pk_mul, s1]
    simp only [ob]
    rw [s2.o.2.1]
    simp only [ob]
section STG
variable {w : XW} {f : Nat → Int32} {n : Nat} {H : Nat → Nat → Int32} {hb : Nat → Bool} {Sl : Nat → Nat → Int32} {pd at' od : Int32}
theorem c_codeS (h : JC w f n H hb Sl) (hg : Gd f) : fX0_code 1 w = some (nI (vCd f), w) := by
  obtain ⟨p, g1, g2, g3⟩ := h.2.2.1
  exact s_code g1 hg.2.1
theorem m_codeS (h : JM w f n H hb Sl pd at' od) (hg : Gd f) : fX4_code 15 w = some (nI (vCd f), w) := by
  obtain ⟨N, pl, be, hi, e⟩ := h.is
  have hv : Vd (mv N (mS N)) := by
    have := hg.2.1
    rw [← e] at this
    exact this
  rw [m_code hi hv]
  rw [← e]
  rfl
end STG
theorem j_save (x : Int32) : JSt (fX3_save 0 x) (fX4_save 15 x) := by
  intro w pd at' od hJ
  have hJ' := hJ
  obtain ⟨f, n, H, hb, Sl, hC, hM, hG⟩ := hJ
  have hC' := hC
  obtain ⟨hn, h0, hGc, hI, hH, ⟨S, sv, p1, p2, p3, p4⟩⟩ := hC'
  unfold fX3_save fX4_save
  rw [if_pos hC.o.1, hC.o.2.2.2.2.2.2.1]
  simp only [ob]
  rw [xaL_okZ p3]
  simp only [ob]
  rw [c_in2]
  simp only [ob]
  rcases k01 x with ⟨s, hs, rfl, hx⟩ | hx
  · rw [if_pos hx, if_neg (by decide +kernel)]
    obtain ⟨p, g1, g2, g3⟩ := hGc
    rw [hC.o.2.1, hC.o.2.2.2.2.2.1]
    simp only [ob]
    rw [xl72, pk_mul, s_writeTo g1 p1 (by omega) (by omega) p2]
    simp only [ob]
    have t : ∀ (e : XE) (j : Nat), j ≠ 13 → (w.set 13 e)[j]? = w[j]? := fun e j h1 => by rw [xset_get _ (Ne.symm h1)]
    have t2 : ∀ (e e2 : XE) (j : Nat), j ≠ 13 → j ≠ 14 → ((w.set 13 e).set 14 e2)[j]? = w[j]? := fun e e2 j h1 h2 => by rw [xset_get _ (Ne.symm h2), xset_get _ (Ne.symm h1)]
    have o5 : xgR (w.set 13 (.inl (0, 144, vPut f S (s * 72)))) 0 3 5 = some 14 := by rw [xgR_set (by decide)]; exact hC.o.2.2.2.2.2.2.1
    rw [o5]
    simp only [ob]
    rw [xsZ_ok (show (w.set 13 (.inl (0, 144, vPut f S (s * 72))))[14]? = _ from (t _ 14 (by decide)).trans p3) (by omega) (by omega) (Or.inr rfl)]
    simp only [ob]
    have hC2 : JC ((w.set 13 (.inl (0, 144, vPut f S (s * 72)))).set 14 (.inl (1, 2, xct 2 (upd sv s 1)))) f n H (fun i => if i = s then true else hb i) (fun i => if i = s then f else Sl i) := by
      refine ⟨hn, ?_, ⟨p, g1.fr (t2 _ _ 1 (by decide) (by decide)) (t2 _ _ 2 (by decide) (by decide)) (t2 _ _ 3 (by decide) (by decide)), g2, g3⟩, hI.fr (fun j h1 h2 => t2 _ _ j (by omega) (by omega)), hH.fr (t2 _ _ 12 (by decide) (by decide)), ⟨vPut f S (s * 72), xct 2 (upd sv s 1), ?_, ?_, ?_, ?_⟩⟩
      · unfold CO at h0 ⊢
        rw [t2 _ _ 0 (by decide) (by decide)]
        exact h0
      · rw [xset_get _ (by decide)]
        exact xset_self p1
      · intro k hk
        unfold vPut
        rw [if_neg (by omega)]
        exact p2 k hk
      · exact xset_self ((t _ 14 (by decide)).trans p3)
      · intro i hi
        unfold xct upd
        rw [if_pos hi]
        by_cases e : i = s
        · subst e
          rw [if_pos rfl]
          refine ⟨by simp, fun _ => ?_⟩
          show vSeg _ _ = if i = i then f else Sl i
          rw [if_pos rfl]
          funext k
          unfold vSeg vPut
          by_cases hk : k < 72
          · rw [if_pos hk, if_pos (by omega)]
            congr 1; omega
          · rw [if_neg hk, hG.1.1 k (by omega)]
        · rw [if_neg e]
          obtain ⟨q1, q2⟩ := p4 i hi
          refine ⟨by rw [q1]; simp [e], fun h => ?_⟩
          show vSeg _ _ = if i = s then f else Sl i
          rw [if_neg e, ← q2 (by simpa [e] using h)]
          funext k
          unfold vSeg vPut
          by_cases hk : k < 72
          · rw [if_pos hk, if_pos hk, if_neg (by omega)]
          · rw [if_neg hk, if_neg hk]
    have fr1 : xFr fC w ((w.set 13 (.inl (0, 144, vPut f S (s * 72)))).set 14 (.inl (1, 2, xct 2 (upd sv s 1)))) := (xFr.st _ (by decide)).tr (xFr.st _ (by decide))
    rw [hC2.o.2.1]
    simp only [ob]
    rw [c_codeS hC2 hG.1]
    simp only [ob]
    generalize hw1 : (w.set 13 (.inl (0, 144, vPut f S (s * 72)))).set 14 (.inl (1, 2, xct 2 (upd sv s 1))) = w1 at hC2 fr1 ⊢
    have hM1 := hM.fr (fC_fr fr1)
    have hM1' := hM1
    obtain ⟨_, m0, ⟨N, pl, be, c1, c2, c3, c4⟩, mH, ⟨S', sv', q1, q2, q3⟩⟩ := hM1'
    obtain ⟨h', l1, l2⟩ := m_lays (w := w1) (src := 16) (dst := 18) (s := 0) (d := 72 * s) (by decide) c1 q1 (by omega) (by omega) (by omega) (by omega)
    have u : ∀ (e : XE) (j : Nat), j ≠ 18 → (w1.set 18 e)[j]? = w1[j]? := fun e j h1 => by rw [xset_get _ (Ne.symm h1)]
    have u2 : ∀ (e e2 : XE) (j : Nat), j ≠ 18 → j ≠ 19 → ((w1.set 18 e).set 19 e2)[j]? = w1[j]? := fun e e2 j h1 h2 => by rw [xset_get _ (Ne.symm h2), xset_get _ (Ne.symm h1)]
    have hM2 : JM ((w1.set 18 (.inl (0, 144, h'))).set 19 (.inl (1, 2, xct 2 (upd sv' s 1)))) f n H (fun i => if i = s then true else hb i) (fun i => if i = s then f else Sl i) pd at' od := by
      refine ⟨hn, ?_, ⟨N, pl, be, by rw [u2 _ _ 16 (by decide) (by decide)]; exact c1, by rw [u2 _ _ 22 (by decide) (by decide)]; exact c2, by rw [u2 _ _ 23 (by decide) (by decide)]; exact c3, c4⟩, mH.fr (u2 _ _ 17 (by decide) (by decide)), ⟨h', xct 2 (upd sv' s 1), ?_, ?_, ?_⟩⟩
      · unfold MO at m0 ⊢
        rw [u2 _ _ 15 (by decide) (by decide)]
        exact m0
      · rw [xset_get _ (by decide)]
        exact xset_self q1
      · exact xset_self ((u _ 19 (by decide)).trans q2)
      · intro i hi
        unfold xct upd
        rw [if_pos hi]
        by_cases e : i = s
        · subst e
          rw [if_pos rfl]
          refine ⟨by simp, fun _ => ?_⟩
          show MV (vSeg _ _) = if i = i then f else Sl i
          rw [if_pos rfl, ← c4]
          refine MV_congr (fun k hk => ?_)
          unfold vSeg
          rw [if_pos hk, l2 _ (by omega), if_pos (by omega)]
          congr 1; omega
        · rw [if_neg e]
          obtain ⟨q4, q5⟩ := q3 i hi
          refine ⟨by rw [q4]; simp [e], fun h => ?_⟩
          show MV (vSeg _ _) = if i = s then f else Sl i
          rw [if_neg e, ← q5 (by simpa [e] using h)]
          refine MV_congr (fun k hk => ?_)
          unfold vSeg
          rw [if_pos hk, if_pos hk, l2 _ (by omega), if_neg (by omega)]
    refine ⟨_, w1, _, rfl, ?_, JJ_of hC2 fr1 hM2 ((xFr.st _ (by decide)).tr (xFr.st _ (by decide))) ⟨hG.1, hG.2.1, ?_⟩⟩
    · rw [if_pos hM1.o.1, m_in]
      simp only [ob]
      rw [if_pos hx, if_neg (by decide +kernel), hM1.o.2.2.1, hM1.o.2.2.2.2.1]
      simp only [ob]
      rw [show (0 : Int32) = nI 0 from xl0, pk_mul, l1]
      simp only [ob]
      have o4 : xgR (w1.set 18 (.inl (0, 144, h'))) 15 4 4 = some 19 := by rw [xgR_set (by decide)]; exact hM1.o.2.2.2.2.2.1
      rw [o4]
      simp only [ob]
      rw [xsZ_ok (show (w1.set 18 (.inl (0, 144, h')))[19]? = _ from (u _ 19 (by decide)).trans q2) (by omega) (by omega) (Or.inr rfl)]
      simp only [ob]
      rw [m_codeS hM2 hG.1]
      simp only [ob]
    · intro i hi h
      show Gd (if i = s then f else Sl i)
      by_cases e : i = s
      · rw [if_pos e]; exact hG.1
      · rw [if_neg e]; exact hG.2.2 i hi (by simpa [e] using h)
  · rw [if_neg hx, if_pos (by decide +kernel)]
    refine ⟨_, w, w, rfl, ?_, JJ_same hJ'⟩
    rw [if_pos hM.o.1, m_in]
    simp only [ob]
    rw [if_neg hx, if_pos (by decide +kernel)]
theorem j_restore (x : Int32) : JSt (fX3_restore 0 x) (fX4_restore 15 x) := by
  intro w pd at' od hJ
  have hJ' := hJ
  obtain ⟨f, n, H, hb, Sl, hC, hM, hG⟩ := hJ
  have hC' := hC
  obtain ⟨hn, h0, hGc, hI, hH, ⟨S, sv, p1, p2, p3, p4⟩⟩ := hC'
  unfold fX3_restore fX4_restore
  rw [if_pos hC.o.1, hC.o.2.2.2.2.2.2.1]
  simp only [ob]
  rw [xaL_okZ p3]
  simp only [ob]
  rw [c_in2]
  simp only [ob]
  rcases k01 x with ⟨s, hs, rfl, hx⟩ | hx
  · rw [if_pos hx, if_neg (by decide +kernel), hC.o.2.2.2.2.2.2.1]
    simp only [ob]
    rw [xaZ_ok p3 hs (by omega)]
    simp only [ob]
    obtain ⟨pv, pw⟩ := p4 s hs
    rw [pv]
    cases hbs : hb s
    · rw [if_pos (by decide +kernel)]
      refine ⟨_, w, w, rfl, ?_, JJ_same hJ'⟩
      obtain ⟨_, m0, mG, mH, ⟨S', sv', q1, q2, q3⟩⟩ := id hM
      rw [if_pos hM.o.1, m_in]
      simp only [ob]
      rw [if_pos hx, if_neg (by decide +kernel), hM.o.2.2.2.2.2.1]
      simp only [ob]
      rw [xaZ_ok q2 hs (by omega)]
      simp only [ob]
      rw [(q3 s hs).1, hbs, if_pos (by decide +kernel)]
    · rw [if_neg (by decide +kernel)]
      obtain ⟨w1, a1, a2, a3⟩ := c_recordF hC hG.1.1
      rw [a1]
      simp only [ob]
      rw [a2.o.2.1, a2.o.2.2.2.2.2.1]
      simp only [ob]
      have p1' : w1[13]? = some (.inl (0, 144, S)) := by rw [a3.2 13 (by decide)]; exact p1
      obtain ⟨w2, b1, b2, b3⟩ := c_read a2 hG.1.1 (q := 13) (s := s * 72) p1' (by omega) (by omega)
      have e3 : vSeg S (s * 72) = Sl s := by rw [Nat.mul_comm]; exact pw hbs
      rw [e3] at b2
      rw [xl72, pk_mul, b1]
      simp only [ob]
      have hgs := hG.2.2 s hs hbs
      rw [b2.o.2.1]
      simp only [ob]
      rw [c_codeS b2 hgs]
      simp only [ob]
      have fr1 : xFr fC w w2 := (a3.wk (by decide)).tr b3
      have hM1 := hM.fr (fC_fr fr1)
      obtain ⟨_, m0, mG, mH, ⟨S', sv', q1, q2, q3⟩⟩ := id hM1
      obtain ⟨w3, d1, d2, d3⟩ := m_records hM1
      obtain ⟨_, m0', mG', mH', ⟨S2, sv2, y1, y2, y3⟩⟩ := id d2
      obtain ⟨w4, e1, e2, e4⟩ := m_read d2 (q := 18) (s := 72 * s) (by decide) y1 (by omega) (by omega)
      rw [(y3 s hs).2 hbs] at e2
      refine ⟨_, w2, w4, rfl, ?_, JJ_of b2 fr1 e2 (d3.tr e4) ⟨hgs, (GG_rec hG hn hgs).2.1, hG.2.2⟩⟩
      rw [if_pos hM1.o.1, m_in]
      simp only [ob]
      rw [if_pos hx, if_neg (by decide +kernel), hM1.o.2.2.2.2.2.1]
      simp only [ob]
      rw [xaZ_ok q2 hs (by omega)]
      simp only [ob]
      rw [(q3 s hs).1, hbs, if_neg (by decide +kernel), d1]
      simp only [ob]
      rw [d2.o.2.2.2.2.1, d2.o.2.2.1]
      simp only [ob]
      rw [show (0 : Int32) = nI 0 from xl0, pk_mul, e1]
      simp only [ob]
      rw [m_codeS e2 hgs]
      simp only [ob]
  · rw [if_neg hx, if_pos (by decide +kernel)]
    refine ⟨_, w, w, rfl, ?_, JJ_same hJ'⟩
    rw [if_pos hM.o.1, m_in]
    simp only [ob]
    rw [if_neg hx, if_pos (by decide +kernel)]
