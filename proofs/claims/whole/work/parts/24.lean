/-! BOTH SIDES: the state, and what records it -/
def Gd (f : Nat → Int32) : Prop := Cn 72 f ∧ Vd f ∧ VP f ∧ (∀ k, k < 12 → ∃ n, n ≤ 9 ∧ f k = nI n) ∧ (∀ g, g < 4 → ¬ (f (3 * g) = 0 ∧ f (3 * g + 1) = 0 ∧ f (3 * g + 2) = 0))
def mj (k : Nat) : Nat := if k < 66 then mi k else k
def MV (N : Nat → Int32) : Nat → Int32 := mv N (mS N)
theorem MV_at (N : Nat → Int32) (k : Nat) : MV N k = if k < 72 then N (mj k) else 0 := by
  unfold MV mv mS mj
  by_cases h1 : k < 66
  · rw [if_pos h1, if_pos (by omega), if_pos h1]
  · rw [if_neg h1]
    by_cases h2 : k < 72
    · rw [if_pos h2, if_pos (by omega), if_pos h2, if_neg h1]
      congr 1; omega
    · rw [if_neg h2, if_neg h2]
theorem mj_lt {k : Nat} (h : k < 72) : mj k < 72 := by
  unfold mj mi
  split
  · split
    · omega
    · split <;> omega
  · omega
theorem mj_inj {k j : Nat} (hk : k < 72) (hj : j < 72) (h : mj k = mj j) : k = j := by
  unfold mj mi at h
  split at h <;> split at h <;> (try split at h) <;> (try split at h) <;> (try split at h) <;> (try split at h) <;> omega
theorem MV_upd (N : Nat → Int32) {k : Nat} (hk : k < 72) (x : Int32) : MV (xct 72 (upd N (mj k) x)) = xct 72 (upd (MV N) k x) := by
  funext j
  rw [MV_at]
  unfold xct upd
  by_cases hj : j < 72
  · rw [if_pos hj, if_pos hj, if_pos (mj_lt hj)]
    by_cases e : j = k
    · rw [if_pos e, if_pos (by rw [e])]
    · rw [if_neg e, if_neg (fun z => e (mj_inj hj hk z)), MV_at, if_pos hj]
  · rw [if_neg hj, if_neg hj]
/-- the row of states kept, oldest first: one more, the seventh pushes the first out -/
def hN (n : Nat) : Nat := if n < 6 then n + 1 else 6
def hP (n : Nat) (H : Nat → Nat → Int32) (f : Nat → Int32) : Nat → Nat → Int32 := fun i => if n < 6 then (if i = n then f else H i) else (if i = 5 then f else H (i + 1))
def CO (w : XW) (n : Nat) : Prop := w[0]? = some (.inr (3, [.ref 1, .ref 4, .ref 10, .ref 12, .ref 13, .ref 14, .int (nI n)]))
def CG (w : XW) (f : Nat → Int32) : Prop := ∃ p, xIsG w 1 2 3 f p ∧ Vc f p ∧ Cn 24 p
def CH (w : XW) (n : Nat) (H : Nat → Nat → Int32) : Prop := ∃ P, w[12]? = some (.inl (0, 432, P)) ∧ Cn 432 P ∧ ∀ i, i < n → vSeg P (72 * i) = H i
def CS (w : XW) (hb : Nat → Bool) (Sl : Nat → Nat → Int32) : Prop := ∃ S sv, w[13]? = some (.inl (0, 144, S)) ∧ Cn 144 S ∧ w[14]? = some (.inl (1, 2, sv)) ∧ ∀ i, i < 2 → sv i = (if hb i then 1 else 0) ∧ (hb i = true → vSeg S (72 * i) = Sl i)
def JC (w : XW) (f : Nat → Int32) (n : Nat) (H : Nat → Nat → Int32) (hb : Nat → Bool) (Sl : Nat → Nat → Int32) : Prop := n ≤ 6 ∧ CO w n ∧ CG w f ∧ IS w ∧ CH w n H ∧ CS w hb Sl
def fC : List Nat := [0, 2, 3, 4, 6, 7, 8, 9, 12, 13, 14]
theorem xIsG.fr {w w1 : XW} {a ca pa : Nat} {f p : Nat → Int32} (h : xIsG w a ca pa f p) (h1 : w1[a]? = w[a]?) (h2 : w1[ca]? = w[ca]?) (h3 : w1[pa]? = w[pa]?) : xIsG w1 a ca pa f p := by
  obtain ⟨e1, e2, e3, e4, e5⟩ := h
  exact ⟨by unfold xis at e1 ⊢; rw [h1]; exact e1, by unfold xgR at e2 ⊢; rw [h1]; exact e2, by unfold xgR at e3 ⊢; rw [h1]; exact e3, by rw [h2]; exact e4, by rw [h3]; exact e5⟩
theorem IS.fr {w w1 : XW} (h : IS w) (hk : ∀ k, 4 ≤ k → k < 10 → w1[k]? = w[k]?) : IS w1 := by
  obtain ⟨made, f1, p1, cd, nb, ⟨a1, a2, a3, a4, a5, a6, a7⟩, b, c⟩ := h
  exact ⟨made, f1, p1, cd, nb, ⟨a1.fr (hk 5 (by omega) (by omega)) (hk 6 (by omega) (by omega)) (hk 7 (by omega) (by omega)), by rw [hk 4 (by omega) (by omega)]; exact a2, by rw [hk 8 (by omega) (by omega)]; exact a3, by rw [hk 9 (by omega) (by omega)]; exact a4, a5, a6, a7⟩, b, c⟩
theorem CG.fr {w w1 : XW} {f : Nat → Int32} (h : CG w f) (h1 : w1[1]? = w[1]?) (h2 : w1[2]? = w[2]?) (h3 : w1[3]? = w[3]?) : CG w1 f := by
  obtain ⟨p, a, b, c⟩ := h
  exact ⟨p, a.fr h1 h2 h3, b, c⟩
theorem CH.fr {w w1 : XW} {n : Nat} {H : Nat → Nat → Int32} (h : CH w n H) (h1 : w1[12]? = w[12]?) : CH w1 n H := by
  obtain ⟨P, a, b⟩ := h
  exact ⟨P, by rw [h1]; exact a, b⟩
theorem CS.fr {w w1 : XW} {hb : Nat → Bool} {Sl : Nat → Nat → Int32} (h : CS w hb Sl) (h1 : w1[13]? = w[13]?) (h2 : w1[14]? = w[14]?) : CS w1 hb Sl := by
  obtain ⟨S, sv, a, b, c, d⟩ := h
  exact ⟨S, sv, by rw [h1]; exact a, b, by rw [h2]; exact c, d⟩
theorem JC.fr {w w1 : XW} {f : Nat → Int32} {n : Nat} {H : Nat → Nat → Int32} {hb : Nat → Bool} {Sl : Nat → Nat → Int32} (h : JC w f n H hb Sl) (hk : ∀ k, k < 15 → k ≠ 10 → k ≠ 11 → w1[k]? = w[k]?) : JC w1 f n H hb Sl := by
  obtain ⟨a, b, c, d, e, g⟩ := h
  refine ⟨a, ?_, c.fr (hk 1 (by omega) (by omega) (by omega)) (hk 2 (by omega) (by omega) (by omega)) (hk 3 (by omega) (by omega) (by omega)), d.fr (fun k h1 h2 => hk k (by omega) (by omega) (by omega)), e.fr (hk 12 (by omega) (by omega) (by omega)), g.fr (hk 13 (by omega) (by omega) (by omega)) (hk 14 (by omega) (by omega) (by omega))⟩
  unfold CO at b ⊢
  rw [hk 0 (by omega) (by omega) (by omega)]
  exact b
/-- a survey's look leaves everything else -/
theorem JC.sv {w w1 : XW} {f : Nat → Int32} {n : Nat} {H : Nat → Nat → Int32} {hb : Nat → Bool} {Sl : Nat → Nat → Int32} (h : JC w f n H hb Sl) (hI : IS w1) (hf : xFr [4, 6, 7, 8, 9] w w1) : JC w1 f n H hb Sl := by
  obtain ⟨a, b, c, d, e, g⟩ := h
  have q : ∀ k, k < 4 ∨ 9 < k → w1[k]? = w[k]? := fun k hk => hf.2 k (by simp; omega)
  refine ⟨a, ?_, c.fr (q 1 (by omega)) (q 2 (by omega)) (q 3 (by omega)), hI, e.fr (q 12 (by omega)), g.fr (q 13 (by omega)) (q 14 (by omega))⟩
  unfold CO at b ⊢
  rw [q 0 (by omega)]
  exact b
section STC
variable {w : XW} {f : Nat → Int32} {n : Nat} {H : Nat → Nat → Int32} {hb : Nat → Bool} {Sl : Nat → Nat → Int32}
theorem c_rec31 {P : Nat → Int32} (hn : n < 6) (h0 : CO w n) (hG : CG w f) (hI : IS w) (h12 : w[12]? = some (.inl (0, 432, P))) (hP : Cn 432 P) (hh : ∀ i, i < n → vSeg P (72 * i) = H i) (hS : CS w hb Sl) (hcf : Cn 72 f) : ∃ w1, fX3_record_31 0 w = some w1 ∧ JC w1 f (n + 1) (fun i => if i = n then f else H i) hb Sl ∧ xFr [0, 12] w w1 := by
  obtain ⟨p, g1, g2, g3⟩ := hG
  unfold CO at h0
  have e1 : ∀ e : XE, (w.set 12 e)[0]? = some (.inr (3, [.ref 1, .ref 4, .ref 10, .ref 12, .ref 13, .ref 14, .int (nI n)])) := fun e => by rw [xset_get e (by decide)]; exact h0
  unfold fX3_record_31
  rw [xgR_ok (x := 1) h0 rfl, xgR_ok (x := 12) h0 rfl, xgI_ok (x := nI n) h0 rfl]
  simp only [ob]
  rw [xl72, pk_mul, s_writeTo g1 h12 (by omega) (by omega) hP]
  simp only [ob]
  rw [xgI_ok (x := nI n) (e1 _) rfl]
  simp only [ob]
  rw [xpI_ok (e1 _) (show 6 < 7 by omega), nI_1]
  simp only [ob]
  refine ⟨_, rfl, ?_, ?_⟩
  · have q : ∀ k, k ≠ 0 → k ≠ 12 → ((w.set 12 (.inl (0, 432, vPut f P (n * 72)))).set 0 (.inr (3, [.ref 1, .ref 4, .ref 10, .ref 12, .ref 13, .ref 14, .int (nI (n + 1))])))[k]? = w[k]? := fun k h1 h2 => by rw [xset_get _ (Ne.symm h1), xset_get _ (Ne.symm h2)]
    refine ⟨by omega, xset_self (e1 _), ⟨p, g1.fr (q 1 (by decide) (by decide)) (q 2 (by decide) (by decide)) (q 3 (by decide) (by decide)), g2, g3⟩, hI.fr (fun k h1 h2 => q k (by omega) (by omega)), ?_, hS.fr (q 13 (by decide) (by decide)) (q 14 (by decide) (by decide))⟩
    refine ⟨vPut f P (n * 72), by rw [xset_get _ (by decide)]; exact xset_self h12, ?_, ?_⟩
    · intro k hk
      unfold vPut
      rw [if_neg (by omega)]
      exact hP k hk
    · intro i hi
      by_cases hin : i = n
      · subst hin
        show vSeg _ _ = if i = i then f else H i
        rw [if_pos rfl]
        funext k
        unfold vSeg vPut
        by_cases hk : k < 72
        · rw [if_pos hk, if_pos (by omega)]
          congr 1; omega
        · rw [if_neg hk, hcf k (by omega)]
      · show vSeg _ _ = if i = n then f else H i
        rw [if_neg hin, ← hh i (by omega)]
        funext k
        unfold vSeg vPut
        by_cases hk : k < 72
        · rw [if_pos hk, if_pos hk, if_neg (by omega)]
        · rw [if_neg hk, if_neg hk]
  · exact (xFr.st _ (by decide)).tr (xFr.st _ (by decide))
theorem c_recordF (h : JC w f n H hb Sl) (hcf : Cn 72 f) : ∃ w1, fX3_record 0 w = some w1 ∧ JC w1 f (hN n) (hP n H f) hb Sl ∧ xFr [0, 12] w w1 := by
  obtain ⟨hn, h0, hG, hI, ⟨P, h12, hP', hh⟩, hS⟩ := h
  have h0' := h0
  unfold CO at h0'
  unfold fX3_record hN hP
  rw [if_pos (xis_ok h0'), xgI_ok (x := nI n) h0' rfl]
  simp only [ob]
  by_cases h6 : n < 6
  · rw [if_pos (by rw [show (6 : Int32) = nI 6 by decide +kernel]; exact (nI_ltI (by omega) (by omega)).mpr h6), if_pos h6]
    have := c_rec31 h6 h0 hG hI h12 hP' hh hS hcf
    simp only [if_pos h6]
    exact this
  · obtain rfl : n = 6 := by omega
    rw [if_neg (by decide +kernel), if_neg h6, xgR_ok (x := 12) h0' rfl]
    simp only [ob]
    rw [show (72 : Int32) = nI 72 from xl72, show (0 : Int32) = nI 0 from xl0, show (360 : Int32) = nI 360 by decide +kernel, xcp_ok h12 h12 (by omega) (by omega) (by omega) (by omega)]
    simp only [ob]
    have e0 : ∀ e : XE, (w.set 12 e)[0]? = w[0]? := fun e => xset_get e (by decide)
    rw [xpI_ok ((e0 _).trans h0') (show 6 < 7 by omega)]
    simp only [ob]
    have q : ∀ (e : XE) (k : Nat), k ≠ 0 → k ≠ 12 → ((w.set 12 e).set 0 (.inr (3, [.ref 1, .ref 4, .ref 10, .ref 12, .ref 13, .ref 14, .int (nI 5)])))[k]? = w[k]? := fun e k h1 h2 => by rw [xset_get _ (Ne.symm h1), xset_get _ (Ne.symm h2)]
    have hc : ∀ i, i < 5 → vSeg (xct 432 (va_cpy P P 72 0 360)) (72 * i) = H (i + 1) := by
      intro i hi
      rw [← hh (i + 1) (by omega)]
      funext k
      unfold vSeg xct va_cpy
      by_cases hk : k < 72
      · rw [if_pos hk, if_pos hk, if_pos (by omega), if_pos (by omega)]
        congr 1; omega
      · rw [if_neg hk, if_neg hk]
    obtain ⟨w1, r1, r2, r3⟩ := c_rec31 (w := (w.set 12 (.inl (0, 432, xct 432 (va_cpy P P 72 0 360)))).set 0 (.inr (3, [.ref 1, .ref 4, .ref 10, .ref 12, .ref 13, .ref 14, .int (nI 5)]))) (n := 5) (f := f) (H := fun i => H (i + 1)) (hb := hb) (Sl := Sl) (by omega) (xset_self ((e0 _).trans h0')) (hG.fr (q _ 1 (by decide) (by decide)) (q _ 2 (by decide) (by decide)) (q _ 3 (by decide) (by decide))) (hI.fr (fun k h1 h2 => q _ k (by omega) (by omega))) (by rw [xset_get _ (by decide)]; exact xset_self h12) (xct_cn _ _) hc (hS.fr (q _ 13 (by decide) (by decide)) (q _ 14 (by decide) (by decide))) hcf
    simp only [if_neg h6]
    refine ⟨w1, ?_, r2, ((xFr.st _ (by decide)).tr (xFr.st _ (by decide))).tr r3⟩
    rw [← r1]
    rfl
theorem c_record (h : JC w f n H hb Sl) (hcf : Cn 72 f) : ∃ w1, fX3_record 0 w = some w1 ∧ JC w1 f (hN n) (hP n H f) hb Sl ∧ xFr fC w w1 := by
  obtain ⟨w1, a, b, c⟩ := c_recordF h hcf
  exact ⟨w1, a, b, c.wk (by decide)⟩
end STC
