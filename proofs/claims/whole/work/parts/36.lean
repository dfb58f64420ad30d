/-! BOTH SIDES TOGETHER: characters put on the pad -/
theorem b_rhs (x k i : Nat) : (nI (x / 2 ^ k % 256)).toBitVec.getLsbD i = (decide (i < 8) && x.testBit (k + i)) := by
  show (BitVec.ofNat 32 (x / 2 ^ k % 256)).getLsbD i = _
  rw [BitVec.getLsbD_ofNat, show (256 : Nat) = 2 ^ 8 from rfl, Nat.testBit_mod_two_pow, Nat.testBit_div_two_pow]
  by_cases h : i < 8
  · rw [decide_eq_true h, decide_eq_true (show i < 32 by omega), Bool.true_and]
    rw [Nat.add_comm]
  · rw [decide_eq_false h, Bool.false_and, Bool.and_false, Bool.false_and]
theorem b_255 (i : Nat) (hi : i < 32) : (255 : Int32).toBitVec.getLsbD i = decide (i < 8) := by
  have : ∀ i : Fin 32, (255 : Int32).toBitVec.getLsbD i.val = decide (i.val < 8) := by decide +kernel
  exact this ⟨i, hi⟩
theorem b_255L (i : Nat) (hi : i < 64) : (255 : Int64).toBitVec.getLsbD i = decide (i < 8) := by
  have : ∀ i : Fin 64, (255 : Int64).toBitVec.getLsbD i.val = decide (i.val < 8) := by decide +kernel
  exact this ⟨i, hi⟩
theorem b_cls (l : Int64) (s : UInt64) (k : Nat) (hs : (s.toBitVec % 64).toNat = k) : ((l.toUInt64 >>> s).toInt64).toInt32 &&& 255 = nI (l.toBitVec.toNat / 2 ^ k % 256) := by
  apply Int32.toBitVec_inj.mp
  apply BitVec.eq_of_getLsbD_eq
  intro i hi
  rw [b_rhs, Int32.toBitVec_and, BitVec.getLsbD_and, b_255 i hi, Int64.toBitVec_toInt32]
  by_cases h : i < 8
  · rw [decide_eq_true h, Bool.and_true, Bool.true_and, BitVec.getLsbD_signExtend, decide_eq_true hi, Bool.true_and, if_pos (by omega)]
    show (l.toUInt64 >>> s).toBitVec.getLsbD i = _
    rw [UInt64.toBitVec_shiftRight]
    show (l.toUInt64.toBitVec >>> (s.toBitVec % 64).toNat).getLsbD i = _
    rw [hs, BitVec.getLsbD_ushiftRight]
    rfl
  · rw [decide_eq_false h, Bool.and_false, Bool.false_and]
theorem b_mod (l s : Int64) (k : Nat) (hk : k ≤ 56) (hs : (s.toBitVec.smod 64).toNat = k) : ((l >>> s) &&& 255).toInt32 = nI (l.toBitVec.toNat / 2 ^ k % 256) := by
  apply Int32.toBitVec_inj.mp
  apply BitVec.eq_of_getLsbD_eq
  intro i hi
  rw [b_rhs, Int64.toBitVec_toInt32, BitVec.getLsbD_signExtend, decide_eq_true hi, Bool.true_and, if_pos (by omega), Int64.toBitVec_and, BitVec.getLsbD_and, b_255L i (by omega)]
  by_cases h : i < 8
  · rw [decide_eq_true h, Bool.and_true, Bool.true_and, Int64.toBitVec_shiftRight]
    show (l.toBitVec.sshiftRight (s.toBitVec.smod 64).toNat).getLsbD i = _
    rw [hs, BitVec.getLsbD_sshiftRight, decide_eq_false (by omega), Bool.not_false, Bool.true_and, if_pos (by omega)]
    rfl
  · rw [decide_eq_false h, Bool.and_false, Bool.false_and]
theorem s_cls : ∀ i : Fin 8, ((((8 : Int32) * nI i.val).toInt64.toUInt64 &&& Int64.toUInt64 63).toBitVec % 64).toNat = 8 * i.val := by decide +kernel
theorem s_mod : ∀ i : Fin 8, ((((8 : Int32) * nI i.val).toInt64 &&& 63).toBitVec.smod 64).toNat = 8 * i.val := by decide +kernel
theorem z_cls (l : Int64) (s : UInt64) (k : Nat) (hs : (s.toBitVec % 64).toNat = k) : (l.toUInt64 >>> s).toInt64 = 0 ↔ l.toBitVec.toNat / 2 ^ k = 0 := by
  have h : (l.toUInt64 >>> s).toInt64.toBitVec.toNat = l.toBitVec.toNat / 2 ^ k := by
    show (l.toUInt64 >>> s).toBitVec.toNat = _
    rw [UInt64.toBitVec_shiftRight]
    show (l.toUInt64.toBitVec >>> (s.toBitVec % 64).toNat).toNat = _
    rw [hs, BitVec.toNat_ushiftRight, Nat.shiftRight_eq_div_pow]
    rfl
  constructor
  · intro z
    rw [z] at h
    rw [← h]
    rfl
  · intro z
    apply Int64.toBitVec_inj.mp
    apply BitVec.eq_of_toNat_eq
    rw [h, z]
    rfl

def bQ (l : Int64) (j : Nat) : Nat := l.toBitVec.toNat / 2 ^ (8 * j)
def bB (l : Int64) (j : Nat) : Nat := bQ l j % 256
theorem bQ_s (l : Int64) (j : Nat) : bQ l (j + 1) = bQ l j / 256 := by
  unfold bQ
  rw [Nat.div_div_eq_div_mul, show 8 * (j + 1) = 8 * j + 8 by omega, Nat.pow_add]
theorem bQ_8 (l : Int64) : bQ l 8 = 0 := by
  unfold bQ
  exact Nat.div_eq_of_lt l.toBitVec.isLt
theorem c_char (l : Int64) {i : Nat} (hi : i < 8) (w : XW) : fX3_characterOf l (nI i) w = some (nI (bB l i), w) := by
  unfold fX3_characterOf bB bQ
  rw [b_cls l _ (8 * i) (s_cls ⟨i, hi⟩)]
theorem m_byte (l : Int64) {i : Nat} (hi : i < 8) (w : XW) : fX4_byteOf l (nI i) w = some (nI (bB l i), w) := by
  unfold fX4_byteOf bB bQ
  rw [b_mod l _ (8 * i) (by omega) (s_mod ⟨i, hi⟩)]
theorem lg_0 (y : Int64) : (lg_cmp y 0 = 0) = (y = 0) := by
  apply propext
  unfold lg_cmp
  constructor
  · intro h
    by_cases h1 : y > 0
    · rw [if_pos h1] at h; exact absurd h (by decide +kernel)
    · rw [if_neg h1] at h
      by_cases h2 : y = 0
      · exact h2
      · rw [if_neg h2] at h; exact absurd h (by decide +kernel)
  · intro h
    subst h
    rw [if_neg (by decide +kernel), if_pos rfl]
theorem m_42 (l : Int64) (i2 : Int32) (w : XW) : ∀ (d g j : Nat), j + d = 8 → d < g → fX4_toldBy_42 g l i2 (nI j) w = some (if bQ l j = 0 then (if i2 = 0 then -2 else i2) else -2, w) := by
  intro d
  induction d with
  | zero =>
    intro g j hj hg
    obtain ⟨g, rfl⟩ : ∃ x, g = x + 1 := ⟨g - 1, by omega⟩
    obtain rfl : j = 8 := by omega
    rw [fX4_toldBy_42, if_pos (by decide +kernel), if_pos (bQ_8 l), k_if]
  | succ d ih =>
    intro g j hj hg
    obtain ⟨g, rfl⟩ : ∃ x, g = x + 1 := ⟨g - 1, by omega⟩
    rw [fX4_toldBy_42, if_neg (by rw [show (8 : Int32) = nI 8 by decide +kernel]; exact nI_ge (by omega) (by omega)), m_byte l (by omega)]
    simp only [ob]
    have hlt : bB l j < 256 := Nat.mod_lt _ (by omega)
    by_cases hb : bB l j = 0
    · rw [if_pos (by rw [nI_z (by omega)]; exact hb), nI_1, ih g (j + 1) (by omega) (by omega)]
      have e := bQ_s l j
      unfold bB at hb
      by_cases hq : bQ l j = 0
      · rw [if_pos hq, if_pos (by omega)]
      · rw [if_neg hq, if_neg (by omega)]
    · rw [if_neg (by rw [nI_z (by omega)]; exact hb), if_neg (by intro z; apply hb; unfold bB; rw [z])]
/-- how many characters a word tells: none, or as many as are in it -/
theorem j_chars (l : Int64) (w w' : XW) : ∀ (d g g' i : Nat), i + d = 8 → d < g → d < g' → ∃ c, c ≤ 8 ∧ fX3_charactersIn_2 g l (nI i) w = some (nI c, w) ∧ fX4_toldBy_2 g' l (nI i) w' = some (if c = 0 then -2 else nI c, w') ∧ ∀ j, i ≤ j → j < c → 33 ≤ bB l j ∧ bB l j ≤ 126 := by
  intro d
  induction d with
  | zero =>
    intro g g' i hi hg hg'
    obtain ⟨g, rfl⟩ : ∃ x, g = x + 1 := ⟨g - 1, by omega⟩
    obtain ⟨g', rfl⟩ : ∃ x, g' = x + 1 := ⟨g' - 1, by omega⟩
    obtain rfl : i = 8 := by omega
    refine ⟨8, by omega, ?_, ?_, fun j h1 h2 => absurd h1 (by omega)⟩
    · rw [fX3_charactersIn_2, if_pos (by decide +kernel)]
      rfl
    · rw [fX4_toldBy_2, if_pos (by decide +kernel)]
      unfold fX4_toldBy_40
      rw [m_42 l _ w' 0 1000 8 (by omega) (by omega), if_pos (bQ_8 l), if_neg (show ¬ nI 8 = 0 by decide +kernel), if_neg (show ¬ (8 = 0) by omega)]
  | succ d ih =>
    intro g g' i hi hg hg'
    obtain ⟨g, rfl⟩ : ∃ x, g = x + 1 := ⟨g - 1, by omega⟩
    obtain ⟨g', rfl⟩ : ∃ x, g' = x + 1 := ⟨g' - 1, by omega⟩
    have hlt : bB l i < 256 := Nat.mod_lt _ (by omega)
    rw [fX3_charactersIn_2, if_neg (by rw [show (8 : Int32) = nI 8 by decide +kernel]; exact nI_ge (by omega) (by omega)), c_char l (by omega), fX4_toldBy_2, if_neg (by rw [show (8 : Int32) = nI 8 by decide +kernel]; exact nI_ge (by omega) (by omega)), m_byte l (by omega)]
    simp only [ob, lg_0]
    rw [m_byte l (by omega)]
    simp only [ob, nI_1]
    by_cases hb : bB l i = 0
    · have hz := z_cls l ((((8 : Int32) * nI i).toInt64.toUInt64 &&& Int64.toUInt64 63)) (8 * i) (s_cls ⟨i, by omega⟩)
      have h40 : fX4_toldBy_40 l (nI i) w' = some (if bQ l i = 0 then (if nI i = 0 then -2 else nI i) else -2, w') := by
        unfold fX4_toldBy_40
        exact m_42 l _ w' (d + 1) 1000 i (by omega) (by omega)
      have hn0 : nI (bB l i) = 0 := by rw [hb, ← xl0]
      rw [if_pos hn0, if_pos hn0, h40]
      by_cases hq : bQ l i = 0
      · rw [if_pos (hz.mpr hq), if_pos hq]
        refine ⟨i, by omega, rfl, ?_, fun j h1 h2 => absurd h1 (by omega)⟩
        by_cases h0 : i = 0
        · rw [if_pos h0, if_pos (by rw [h0, ← xl0])]
        · rw [if_neg h0, if_neg (by rw [nI_z (by omega)]; exact h0)]
      · rw [if_neg (fun z => hq (hz.mp z)), if_neg hq]
        exact ⟨0, by omega, by rw [xl0], by rw [if_pos rfl], fun j h1 h2 => absurd h2 (by omega)⟩
    · have hn0 : ¬ nI (bB l i) = 0 := by rw [nI_z (by omega)]; exact hb
      rw [if_neg hn0, if_neg hn0, m_in]
      simp only [ob]
      by_cases h33 : bB l i < 33
      · rw [if_pos (show nI (bB l i) < 33 by rw [show (33 : Int32) = nI 33 by decide +kernel]; exact (nI_ltI (by omega) (by omega)).mpr h33), if_neg (show ¬ ((33 : Int32) ≤ nI (bB l i) ∧ nI (bB l i) ≤ 126) by
          intro z
          have := z.1
          rw [show (33 : Int32) = nI 33 by decide +kernel, nI_leI (by omega) (by omega)] at this
          omega), if_pos (by decide +kernel)]
        exact ⟨0, by omega, by rw [xl0], by rw [if_pos rfl], fun j h1 h2 => absurd h2 (by omega)⟩
      · rw [if_neg (show ¬ nI (bB l i) < 33 by rw [show (33 : Int32) = nI 33 by decide +kernel]; exact nI_nlt (by omega) (by omega))]
        by_cases h126 : bB l i ≤ 126
        · have h2 : nI (bB l i) ≤ 126 := by rw [show (126 : Int32) = nI 126 by decide +kernel]; exact (nI_leI (by omega) (by omega)).mpr h126
          have h1 : (33 : Int32) ≤ nI (bB l i) := by rw [show (33 : Int32) = nI 33 by decide +kernel]; exact (nI_leI (by omega) (by omega)).mpr (by omega)
          have h12 : (33 : Int32) ≤ nI (bB l i) ∧ nI (bB l i) ≤ 126 := ⟨h1, h2⟩
          rw [if_pos h2, if_pos h12, if_neg (by decide +kernel)]
          obtain ⟨c, r1, r2, r3, r4⟩ := ih g g' (i + 1) (by omega) (by omega) (by omega)
          refine ⟨c, r1, r2, r3, fun j h3 h4 => ?_⟩
          by_cases hj : j = i
          · subst hj; exact ⟨by omega, h126⟩
          · exact r4 j (by omega) h4
        · have h2 : ¬ nI (bB l i) ≤ 126 := by rw [show (126 : Int32) = nI 126 by decide +kernel]; exact nI_ge (by omega) (by omega)
          have h12 : ¬ ((33 : Int32) ≤ nI (bB l i) ∧ nI (bB l i) ≤ 126) := fun z => h2 z.2
          rw [if_neg h2, if_neg h12, if_pos (by decide +kernel)]
          exact ⟨0, by omega, by rw [xl0], by rw [if_pos rfl], fun j h1 h2 => absurd h2 (by omega)⟩

def PO (w : XW) (L : Nat) (sg : Nat → Int32) : Prop := w[10]? = some (.inr (1, [.ref 11, .int (nI L)])) ∧ w[11]? = some (.inl (0, 80, sg))
theorem c_append {w : XW} {L : Nat} {sg : Nat → Int32} (h : PO w L sg) (hL : L < 80) (v : Int32) : ∃ w1, fX1_append 10 v w = some w1 ∧ PO w1 (L + 1) (xct 80 (upd sg L v)) ∧ xFr [10, 11] w w1 := by
  obtain ⟨a, b⟩ := h
  have t : (w.set 11 (.inl (0, 80, xct 80 (upd sg L v))))[10]? = w[10]? := xset_get _ (by decide)
  have hx : xpI (w.set 11 (.inl (0, 80, xct 80 (upd sg L v)))) 10 1 1 (nI (L + 1)) = some ((w.set 11 (.inl (0, 80, xct 80 (upd sg L v)))).set 10 (.inr (1, [.ref 11, .int (nI (L + 1))]))) := xpI_ok (t.trans a) (show 1 < 2 by omega)
  unfold fX1_append
  rw [if_pos (xis_ok a), xgI_ok (x := nI L) a rfl, xgR_ok (x := 11) a rfl]
  simp only [ob]
  rw [xaL_ok b]
  simp only [ob]
  rw [s_inN hL (by omega)]
  simp only [ob]
  rw [if_neg (by decide +kernel), xgI_ok (x := nI L) a rfl, xgR_ok (x := 11) a rfl]
  simp only [ob]
  rw [xsI_ok b hL (by omega)]
  simp only [ob]
  rw [xgI_ok (x := nI L) (t.trans a) rfl]
  simp only [ob]
  rw [nI_1, hx]
  simp only [ob]
  exact ⟨_, rfl, ⟨xset_self (t.trans a), by rw [xset_get _ (by decide)]; exact xset_self b⟩, (xFr.st _ (by decide)).tr (xFr.st _ (by decide))⟩
theorem c_put34 (l : Int64) : ∀ (k g L : Nat) (sg : Nat → Int32) (w : XW), k ≤ 8 → k < g → L + k ≤ 80 → PO w L sg → xgR w 0 3 2 = some 10 → ∃ w1 sg1, fX3_put_34 g 0 l (nI k - 1) w = some (nI (L + k), w1) ∧ PO w1 (L + k) sg1 ∧ (∀ i, i < L → sg1 i = sg i) ∧ (∀ j, j < k → sg1 (L + j) = nI (bB l (k - 1 - j))) ∧ xFr [10, 11] w w1 := by
  intro k
  induction k with
  | zero =>
    intro g L sg w h8 hg hL hP h0
    obtain ⟨g, rfl⟩ : ∃ x, g = x + 1 := ⟨g - 1, by omega⟩
    rw [fX3_put_34, if_pos (by decide +kernel), h0]
    simp only [ob]
    rw [c_len hP.1]
    simp only [ob]
    exact ⟨w, sg, rfl, hP, fun i _ => rfl, fun j hj => absurd hj (by omega), xFr.rf⟩
  | succ k ih =>
    intro g L sg w h8 hg hL hP h0
    obtain ⟨g, rfl⟩ : ∃ x, g = x + 1 := ⟨g - 1, by omega⟩
    obtain ⟨w1, e1, e2, e3⟩ := c_append hP (by omega) (nI (bB l k))
    have h01 : xgR w1 0 3 2 = some 10 := by
      unfold xgR at h0 ⊢
      rw [e3.2 0 (by decide)]
      exact h0
    obtain ⟨w2, sg2, r1, r2, r3, r4, r5⟩ := ih g (L + 1) _ w1 (by omega) (by omega) (by omega) e2 h01
    rw [k_sub1, fX3_put_34, if_neg (by rw [xl0]; exact nI_nlt (by omega) (by omega)), h0]
    simp only [ob]
    rw [c_char l (by omega)]
    simp only [ob]
    rw [e1]
    simp only [ob]
    rw [← Int32.sub_eq_add_neg, r1, show L + 1 + k = L + (k + 1) by omega]
    rw [show L + 1 + k = L + (k + 1) by omega] at r2
    refine ⟨w2, sg2, rfl, r2, ?_, ?_, e3.tr r5⟩
    · intro i hi
      rw [r3 i (by omega)]
      unfold xct upd
      rw [if_pos (by omega), if_neg (by omega)]
    · intro j hj
      by_cases h : j = 0
      · subst h
        rw [r3 (L + 0) (by omega)]
        unfold xct upd
        rw [if_pos (by omega), if_pos (by omega), show k + 1 - 1 - 0 = k by omega]
      · have := r4 (j - 1) (by omega)
        rw [show L + 1 + (j - 1) = L + j by omega, show k - 1 - (j - 1) = k + 1 - 1 - j by omega] at this
        exact this
theorem m_put30 (l : Int64) {f : Nat → Int32} {n : Nat} {H : Nat → Nat → Int32} {hb : Nat → Bool} {Sl : Nat → Nat → Int32} {at' od : Int32} : ∀ (k g L : Nat) (pa : Nat → Int32) (w : XW), k ≤ 8 → k < g → L + k ≤ 80 → JM w f n H hb Sl (nI L) at' od → w[20]? = some (.inl (0, 80, pa)) → ∃ w1 pa1, fX4_put_30 g 15 l (nI k - 1) w = some (nI (L + k), w1) ∧ JM w1 f n H hb Sl (nI (L + k)) at' od ∧ w1[20]? = some (.inl (0, 80, pa1)) ∧ (∀ i, i < L → pa1 i = pa i) ∧ (∀ j, j < k → pa1 (L + j) = nI (bB l (k - 1 - j))) ∧ xFr [15, 20] w w1 := by
  intro k
  induction k with
  | zero =>
    intro g L pa w h8 hg hL hM h20
    obtain ⟨g, rfl⟩ : ∃ x, g = x + 1 := ⟨g - 1, by omega⟩
    rw [fX4_put_30, if_pos (by decide +kernel), hM.o.2.2.2.2.2.2]
    simp only [ob]
    exact ⟨w, pa, rfl, hM, h20, fun i _ => rfl, fun j hj => absurd hj (by omega), xFr.rf⟩
  | succ k ih =>
    intro g L pa w h8 hg hL hM h20
    obtain ⟨g, rfl⟩ : ∃ x, g = x + 1 := ⟨g - 1, by omega⟩
    have h5 : xgR w 15 4 5 = some 20 := by
      have := hM.2.1
      unfold MO at this
      exact xgR_ok this rfl
    have t : ∀ (e : XE) (j : Nat), j ≠ 20 → (w.set 20 e)[j]? = w[j]? := fun e j h1 => by rw [xset_get _ (Ne.symm h1)]
    have hM1 : JM (w.set 20 (.inl (0, 80, xct 80 (upd pa L (nI (bB l k)))))) f n H hb Sl (nI L) at' od := by
      obtain ⟨a, b, c, d, e⟩ := hM
      refine ⟨a, ?_, c.fr (t _ 16 (by decide)) (t _ 22 (by decide)) (t _ 23 (by decide)), d.fr (t _ 17 (by decide)), e.fr (t _ 18 (by decide)) (t _ 19 (by decide))⟩
      unfold MO at b ⊢
      rw [t _ 15 (by decide)]
      exact b
    have hM2 := hM1.txt (nI (L + 1)) at' od
    have m0 := hM1.2.1
    unfold MO at m0
    have hx : xpI (w.set 20 (.inl (0, 80, xct 80 (upd pa L (nI (bB l k)))))) 15 4 6 (nI (L + 1)) = some ((w.set 20 (.inl (0, 80, xct 80 (upd pa L (nI (bB l k)))))).set 15 (.inr (4, [.ref 16, .ref 17, .int (nI n), .ref 18, .ref 19, .ref 20, .int (nI (L + 1)), .int at', .ref 21, .int od, .ref 22, .ref 23]))) := xpI_ok m0 (show 6 < 12 by omega)
    obtain ⟨w2, pa2, r1, r2, r3, r4, r5, r6⟩ := ih g (L + 1) (xct 80 (upd pa L (nI (bB l k)))) _ (by omega) (by omega) (by omega) hM2 (by rw [xset_get _ (by decide)]; exact xset_self h20)
    rw [k_sub1, fX4_put_30, if_neg (by rw [xl0]; exact nI_nlt (by omega) (by omega)), h5, hM.o.2.2.2.2.2.2]
    simp only [ob]
    rw [m_byte l (by omega)]
    simp only [ob]
    rw [xsI_ok h20 (by omega) (by omega)]
    simp only [ob]
    rw [hM1.o.2.2.2.2.2.2]
    simp only [ob]
    rw [nI_1, hx]
    simp only [ob]
    rw [← Int32.sub_eq_add_neg, r1, show L + 1 + k = L + (k + 1) by omega]
    rw [show L + 1 + k = L + (k + 1) by omega] at r2
    refine ⟨w2, pa2, rfl, r2, r3, ?_, ?_, ((xFr.st _ (by decide)).tr (xFr.st _ (by decide))).tr r6⟩
    · intro i hi
      rw [r4 i (by omega)]
      unfold xct upd
      rw [if_pos (by omega), if_neg (by omega)]
    · intro j hj
      by_cases h : j = 0
      · subst h
        rw [r4 (L + 0) (by omega)]
        unfold xct upd
        rw [if_pos (by omega), if_pos (by omega), show k + 1 - 1 - 0 = k by omega]
      · have := r5 (j - 1) (by omega)
        rw [show L + 1 + (j - 1) = L + j by omega, show k - 1 - (j - 1) = k + 1 - 1 - j by omega] at this
        exact this
theorem j_put (l : Int64) : JSx (fX3_put 0 l) (fX4_put 15 l) := by
  intro w ⟨pd, at', od, hJ, hT⟩
  have hJ' := hJ
  have hT' := hT
  obtain ⟨f, n, H, hb, Sl, hC, hM, hG⟩ := hJ
  obtain ⟨L, sg, pa, ors, a, b, c, d, e, g, h⟩ := hT
  subst b
  have fin : ∀ w', xFr [] w w' → w' = w → True := fun _ _ _ => trivial
  obtain ⟨k, k1, k2, -, k4⟩ := j_chars l w w 8 1000 1000 0 (by omega) (by omega) (by omega)
  rw [← xl0] at k2
  unfold fX3_put fX3_charactersIn
  rw [if_pos hC.o.1, k2]
  simp only [ob]
  by_cases hk : k = 0
  · subst hk
    rw [if_pos (by rw [← xl0])]
    obtain ⟨k', q1, q2, q3, q4⟩ := j_chars l w w 8 1000 1000 0 (by omega) (by omega) (by omega)
    rw [← xl0] at q2 q3
    rw [k2] at q2
    have hk' : k' = 0 := by
      have := Option.some.inj q2
      have := (Prod.mk.inj this).1
      exact ((nI_eq (by omega) (by omega)).mp this).symm
    subst hk'
    refine ⟨_, w, w, rfl, ?_, nI L, at', od, hJ', hT'⟩
    unfold fX4_put fX4_toldBy
    rw [if_pos hM.o.1, q3, if_pos rfl]
    simp only [ob]
    rw [if_neg (by decide +kernel)]
  · have hk0 : ¬ nI k = 0 := by rw [nI_z (by omega)]; exact hk
    have hmod : ∀ w', fX4_toldBy l w' = some (nI k, w') := by
      intro w'
      obtain ⟨k', q1, q2, q3, q4⟩ := j_chars l w w' 8 1000 1000 0 (by omega) (by omega) (by omega)
      rw [← xl0] at q2 q3
      rw [k2] at q2
      have hk' : k = k' := by
        have := Option.some.inj q2
        have := (Prod.mk.inj this).1
        exact (nI_eq (by omega) (by omega)).mp this
      subst hk'
      unfold fX4_toldBy
      rw [q3, if_neg hk]
    rw [if_neg hk0, hC.o.2.2.2.1]
    simp only [ob]
    rw [c_len c]
    simp only [ob]
    rw [nI_add]
    by_cases h80 : L + k ≤ 80
    · have hle : nI (L + k) ≤ 80 := by rw [show (80 : Int32) = nI 80 by decide +kernel]; exact (nI_leI (by omega) (by omega)).mpr h80
      rw [if_pos hle]
      obtain ⟨w1, sg1, r1, r2, r3, r4, r5⟩ := c_put34 l k 1000 L sg w k1 (by omega) h80 ⟨c, d⟩ hC.o.2.2.2.1
      have hC1 : JC w1 f n H hb Sl := hC.fr (fun j _ h1 h2 => r5.2 j (by simp; omega))
      have hM1 : JM w1 f n H hb Sl (nI L) at' od := hM.fr (fun j hj => r5.2 j (by simp; omega))
      obtain ⟨w2, pa1, s1, s2, s3, s4, s5, s6⟩ := m_put30 l k 1000 L pa w1 k1 (by omega) h80 hM1 (by rw [r5.2 20 (by decide)]; exact e)
      refine ⟨_, w1, w2, r1, ?_, nI (L + k), at', od, ⟨f, n, H, hb, Sl, hC1.fr (fun j hj _ _ => s6.2 j (by simp; omega)), s2, hG⟩, ⟨L + k, sg1, pa1, ors, h80, rfl, by rw [s6.2 10 (by decide)]; exact r2.1, by rw [s6.2 11 (by decide)]; exact r2.2, s3, by rw [s6.2 21 (by decide), r5.2 21 (by decide)]; exact g, ?_⟩⟩
      · unfold fX4_put
        rw [if_pos hM1.o.1, hmod]
        simp only [ob]
        rw [if_pos (by rw [xl0]; exact (nI_leI (by omega) (by omega)).mpr (by omega)), hM1.o.2.2.2.2.2.2]
        simp only [ob]
        rw [nI_add, if_pos hle]
        exact s1
      · intro i hi
        by_cases hiL : i < L
        · rw [r3 i hiL, s4 i hiL]
          exact h i hiL
        · have x1 := r4 (i - L) (by omega)
          have x2 := s5 (i - L) (by omega)
          rw [show L + (i - L) = i by omega] at x1 x2
          have x3 := k4 (k - 1 - (i - L)) (by omega) (by omega)
          exact ⟨by rw [x1, x2], _, x3.1, x3.2, x1⟩
    · have hle : ¬ nI (L + k) ≤ 80 := by rw [show (80 : Int32) = nI 80 by decide +kernel]; exact nI_ge (by omega) (by omega)
      rw [if_neg hle]
      refine ⟨_, w, w, rfl, ?_, nI L, at', od, hJ', hT'⟩
      unfold fX4_put
      rw [if_pos hM.o.1, hmod]
      simp only [ob]
      rw [if_pos (by rw [xl0]; exact (nI_leI (by omega) (by omega)).mpr (by omega)), hM.o.2.2.2.2.2.2]
      simp only [ob]
      rw [nI_add, if_neg hle]
