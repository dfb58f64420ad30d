/-! THE CLASS: the text's orders, read by their shapes -/
def shp (k : Nat) : List Nat := [[48, 61, 57], [48, 62, 48], [48, 48, 48, 61, 45, 57], [48, 48, 48, 61, 57], [48, 48, 61, 57], []].getD k []
theorem t_is : ∀ k : Fin 6, xis' (1000 + k.val) = true := by decide +kernel
theorem t_sv : ∀ k : Fin 6, xsv (1000 + k.val) = some (2000 + k.val) := by decide +kernel
theorem t_bl : ∀ k : Fin 6, xbl (2000 + k.val) = some (nI (shp k.val).length) := by decide +kernel
theorem t_bb : ∀ k : Fin 6, ∀ j : Fin 6, j.val < (shp k.val).length → xbb (2000 + k.val) (nI j.val) = some (nI ((shp k.val).getD j.val 0)) := by decide +kernel
theorem t_ln : ∀ k : Fin 6, (nI (shp k.val).length >>> ((0 : Int32) &&& 31)) = nI (shp k.val).length := by decide +kernel
theorem t_le : ∀ k : Fin 6, (shp k.val).length ≤ 6 := by decide +kernel
theorem t_lt : ∀ k : Fin 6, ∀ j : Fin 6, (shp k.val).getD j.val 0 < 128 := by decide +kernel
theorem t_ch : ∀ c : Fin 128, ((((nI c.val &&& (255 : Int32))).toUInt32 % 65536).toInt32) = nI c.val ∧ vp_nar .char (nI c.val) = nI c.val := by decide +kernel
theorem t_len {k : Nat} (hk : k < 6) (w : XW) : fJ0_length_8abf5 (1000 + k) w = some (nI (shp k).length, w) := by
  have h1 := t_is ⟨k, hk⟩
  have h2 := t_sv ⟨k, hk⟩
  have h3 := t_bl ⟨k, hk⟩
  have h4 := t_ln ⟨k, hk⟩
  have hc : fJ0_coder_7d493 (1000 + k) w = some (0, w) := by
    unfold fJ0_coder_7d493
    rw [if_pos h1, if_pos h1, if_pos (by decide +kernel)]
  unfold fJ0_length_8abf5
  rw [if_pos h1, h2]
  simp only [ob]
  rw [h3]
  simp only [ob]
  rw [hc]
  simp only [ob]
  rw [h4]
theorem t_emp {k : Nat} (hk : k < 6) (w : XW) : fJ0_isEmpty_aae02 (1000 + k) w = some (if k = 5 then 1 else 0, w) := by
  have h1 := t_is ⟨k, hk⟩
  have h2 := t_sv ⟨k, hk⟩
  have h3 := t_bl ⟨k, hk⟩
  have h4 : ∀ k : Fin 6, (nI (shp k.val).length = 0) = (k.val = 5) := by
    have : ∀ k : Fin 6, (nI (shp k.val).length = 0) ↔ (k.val = 5) := by decide +kernel
    exact fun k => propext (this k)
  have h5 := h4 ⟨k, hk⟩
  unfold fJ0_isEmpty_aae02
  rw [if_pos h1, h2]
  simp only [ob]
  rw [h3]
  simp only [ob]
  simp only at h5
  rw [k_if]
  by_cases h : k = 5
  · rw [if_pos h, if_pos (by rw [h5]; exact h)]
  · rw [if_neg h, if_neg (by rw [h5]; exact h)]
theorem t_at {k j : Nat} (hk : k < 6) (hj : j < (shp k).length) (w : XW) : fJ0_charAt_5068e (1000 + k) (nI j) w = some (nI ((shp k).getD j 0), w) := by
  have h1 := t_is ⟨k, hk⟩
  have h2 := t_sv ⟨k, hk⟩
  have h3 := t_bl ⟨k, hk⟩
  have hle := t_le ⟨k, hk⟩
  simp only at hle
  have h4 := t_bb ⟨k, hk⟩ ⟨j, by omega⟩ hj
  have h5 := t_lt ⟨k, hk⟩ ⟨j, by omega⟩
  simp only at h4 h5
  obtain ⟨c1, c2⟩ := t_ch ⟨(shp k).getD j 0, h5⟩
  simp only at c1 c2
  have hl : fJ0_isLatin1_aae02 (1000 + k) w = some (1, w) := by
    unfold fJ0_isLatin1_aae02
    rw [if_pos h1, if_pos h1]
  have hi : fJ0_checkIndex_df160 (nI j) (nI (shp k).length) w = some w := by
    unfold fJ0_checkIndex_df160 fJ3_checkIndex_8e157
    rw [if_neg (by rw [xl0]; exact nI_nlt (by omega) (by omega)), if_pos ((nI_ltI (by omega) (by omega)).mpr hj)]
    simp only [ob]
  unfold fJ0_charAt_5068e fJ1_charAt_3b067
  rw [if_pos h1, hl]
  simp only [ob]
  rw [if_neg (by decide +kernel), h2]
  simp only [ob]
  rw [h3]
  simp only [ob]
  rw [hi]
  simp only [ob]
  rw [h4]
  simp only [ob]
  rw [c1, c2, if_pos rfl]
  simp only [ob]
  rw [c2, if_pos rfl]
/-- the text: L characters, nothing beyond -/
def TS (s : Nat → Nat) (L : Nat) : Prop := L ≤ 80 ∧ (∀ i, i < L → 33 ≤ s i ∧ s i ≤ 126) ∧ ∀ i, L ≤ i → s i = 0
def TC (w : XW) (s : Nat → Nat) (L : Nat) : Prop := ∃ sg, PO w L sg ∧ ∀ i, i < L → sg i = nI (s i)
def sK (s : Nat → Nat) (i : Nat) : Nat := if s i = 97 then 1 else if s i = 111 then 4 else if s i = 115 then 1 else if s i = 117 then (if s (i + 5) = 45 then 2 else 3) else if s i = 118 then (if s (i + 5) = 45 then 2 else 3) else if s i = 119 then 0 else 5
theorem sK_lt (s : Nat → Nat) (i : Nat) : sK s i < 6 := by
  unfold sK
  repeat' split
  all_goals omega
def fitB (b p : Nat) : Bool := if p = 48 then decide (48 ≤ b) && decide (b ≤ 50) else if p = 57 then decide (48 ≤ b) && decide (b ≤ 57) else decide (b = p)
theorem c_fits {b p : Nat} (hb : b < 128) (hp : p < 128) (w : XW) : fX1_fits (nI b) (nI p) w = some (if fitB b p then 1 else 0, w) := by
  have e1 : ∀ n m : Nat, n < 128 → m < 128 → (nI n = nI m) = (n = m) := fun n m hn hm => propext (nI_eq (by omega) (by omega))
  have e2 : ∀ n m : Nat, n < 128 → m < 128 → (nI n < nI m) = (n < m) := fun n m hn hm => propext (nI_ltI (by omega) (by omega))
  unfold fX1_fits fitB
  rw [show (48 : Int32) = nI 48 by decide +kernel, show (57 : Int32) = nI 57 by decide +kernel, show (50 : Int32) = nI 50 by decide +kernel]
  simp only [e1 p 48 hp (by omega), e1 p 57 hp (by omega), e1 b p hb hp, e2 b 48 hb (by omega), e2 50 b (by omega) hb, e2 57 b (by omega) hb]
  by_cases h1 : p = 48
  · rw [if_pos h1, if_pos h1]
    by_cases h2 : b < 48
    · rw [if_pos h2, decide_eq_false (by omega), Bool.false_and, if_neg Bool.false_ne_true]
    · rw [if_neg h2, decide_eq_true (by omega), Bool.true_and]
      by_cases h3 : 50 < b
      · rw [if_pos h3, decide_eq_false (by omega), if_neg Bool.false_ne_true]
      · rw [if_neg h3, decide_eq_true (by omega), if_pos rfl]
  · rw [if_neg h1, if_neg h1]
    by_cases h4 : p = 57
    · rw [if_pos h4, if_pos h4]
      by_cases h2 : b < 48
      · rw [if_pos h2, decide_eq_false (by omega), Bool.false_and, if_neg Bool.false_ne_true]
      · rw [if_neg h2, decide_eq_true (by omega), Bool.true_and]
        by_cases h3 : 57 < b
        · rw [if_pos h3, decide_eq_false (by omega), if_neg Bool.false_ne_true]
        · rw [if_neg h3, decide_eq_true (by omega), if_pos rfl]
    · rw [if_neg h4, if_neg h4]
      by_cases h5 : b = p
      · rw [if_pos h5, decide_eq_true h5, if_pos rfl]
      · rw [if_neg h5, decide_eq_false h5, if_neg Bool.false_ne_true]
section TXC
variable {w : XW} {s : Nat → Nat} {L : Nat}
theorem s_lt (hs : TS s L) (i : Nat) : s i < 128 := by
  by_cases h : i < L
  · have := (hs.2.1 i h).2; omega
  · rw [hs.2.2 i (by omega)]; omega
theorem c_sign (hs : TS s L) (hT : TC w s L) {i : Nat} (hi : i < 1000) : fX1_signAt 10 (nI i) w = some (nI (s i), w) := by
  obtain ⟨sg, ⟨a, b⟩, h⟩ := hT
  have hL := hs.1
  unfold fX1_signAt
  rw [if_pos (xis_ok a), if_neg (by rw [xl0]; exact nI_nlt (by omega) (by omega)), xgI_ok (x := nI L) a rfl]
  simp only [ob]
  by_cases hl : L ≤ i
  · rw [if_pos ((nI_leI (by omega) (by omega)).mpr hl), hs.2.2 i hl, ← xl0]
  · rw [if_neg (nI_ge (by omega) (by omega)), xgR_ok (x := 11) a rfl]
    simp only [ob]
    rw [xaL_ok b]
    simp only [ob]
    rw [if_neg (nI_ge (by omega) (by omega))]
    rw [xaI_ok b (by omega) (by omega), h i (by omega)]
    simp only [ob]
theorem c_shape (hs : TS s L) (hT : TC w s L) {i : Nat} (hi : i < 900) : fX1_shapeOf 10 (nI i) w = some (1000 + sK s i, w) := by
  obtain ⟨sg, ⟨a, b⟩, h⟩ := id hT
  have e1 : ∀ m j : Nat, m < 128 → (nI (s j) = nI m) = (s j = m) := fun m j hm => propext (nI_eq (by have := s_lt hs j; omega) (by omega))
  unfold fX1_shapeOf sK
  rw [if_pos (xis_ok a), c_sign hs hT (by omega)]
  simp only [ob]
  rw [show (5 : Int32) = nI 5 by decide +kernel, nI_add, c_sign hs hT (by omega)]
  simp only [ob]
  rw [show (97 : Int32) = nI 97 by decide +kernel, show (111 : Int32) = nI 111 by decide +kernel, show (115 : Int32) = nI 115 by decide +kernel, show (117 : Int32) = nI 117 by decide +kernel, show (118 : Int32) = nI 118 by decide +kernel, show (119 : Int32) = nI 119 by decide +kernel, show (45 : Int32) = nI 45 by decide +kernel]
  simp only [e1 97 _ (by omega), e1 111 _ (by omega), e1 115 _ (by omega), e1 117 _ (by omega), e1 118 _ (by omega), e1 119 _ (by omega), e1 45 _ (by omega)]
  repeat' split
  all_goals rfl
/-- the first place at which a shape is missed -/
def mis (s : Nat → Nat) (i : Nat) : List Nat → Nat → Option Nat
  | [], _ => none
  | p :: l, j => if fitB (s (i + 1 + j)) p then mis s i l (j + 1) else some (i + 1 + j)
def fO (s : Nat → Nat) (i : Nat) : Option Nat := if sK s i = 5 then some i else mis s i (shp (sK s i)) 0
def oI : Option Nat → Int32
  | none => -6
  | some p => nI p
theorem c_mis (hs : TS s L) (hT : TC w s L) {i k : Nat} (hi : i < 900) (hk : k < 6) : ∀ (d g j : Nat), j + d = (shp k).length → d < g → fX1_faultOfOrder_17 g 10 (nI i) (1000 + k) (nI j) w = some (oI (mis s i ((shp k).drop j) j), w) := by
  have hle := t_le ⟨k, hk⟩
  simp only at hle
  intro d
  induction d with
  | zero =>
    intro g j hj hg
    obtain ⟨g, rfl⟩ : ∃ x, g = x + 1 := ⟨g - 1, by omega⟩
    rw [fX1_faultOfOrder_17, t_len hk]
    simp only [ob]
    rw [if_pos ((nI_leI (by omega) (by omega)).mpr (by omega)), List.drop_eq_nil_of_le (by omega)]
    rfl
  | succ d ih =>
    intro g j hj hg
    obtain ⟨g, rfl⟩ : ∃ x, g = x + 1 := ⟨g - 1, by omega⟩
    have h5 := t_lt ⟨k, hk⟩ ⟨j, by omega⟩
    simp only at h5
    have hd : (shp k).drop j = (shp k).getD j 0 :: (shp k).drop (j + 1) := by
      rw [List.drop_eq_getElem_cons (by omega)]
      congr 1
      rw [List.getD_eq_getElem?_getD, List.getElem?_eq_getElem (by omega)]
      rfl
    rw [fX1_faultOfOrder_17, t_len hk]
    simp only [ob]
    rw [if_neg (nI_ge (by omega) (by omega)), xl1, nI_add, nI_add, c_sign hs hT (by omega)]
    simp only [ob]
    rw [t_at hk (by omega)]
    simp only [ob]
    rw [c_fits (s_lt hs _) h5, hd]
    simp only [ob, k_b01]
    rw [nI_add, ih g (j + 1) (by omega) (by omega)]
    show (if fitB (s (i + 1 + j)) ((shp k).getD j 0) = false then some (nI (i + 1 + j), w) else _) = some (oI (if fitB (s (i + 1 + j)) ((shp k).getD j 0) then mis s i ((shp k).drop (j + 1)) (j + 1) else some (i + 1 + j)), w)
    cases fitB (s (i + 1 + j)) ((shp k).getD j 0)
    · rw [if_pos rfl, if_neg Bool.false_ne_true]
      rfl
    · rw [if_neg (by decide), if_pos rfl]
theorem c_fO (hs : TS s L) (hT : TC w s L) {i : Nat} (hi : i < 900) : fX1_faultOfOrder 10 (nI i) w = some (oI (fO s i), w) := by
  obtain ⟨sg, ⟨a, b⟩, h⟩ := id hT
  have hk := sK_lt s i
  unfold fX1_faultOfOrder fO
  rw [if_pos (xis_ok a), c_shape hs hT hi]
  simp only [ob]
  rw [t_emp hk]
  simp only [ob]
  by_cases h5 : sK s i = 5
  · rw [if_pos h5, if_neg (by decide +kernel), if_pos h5]
    rfl
  · rw [if_neg h5, if_pos (by decide +kernel), if_neg h5]
    have := c_mis hs hT hi hk (shp (sK s i)).length 1000 0 (by omega) (by have := t_le ⟨_, hk⟩; simp only at this; omega)
    rw [← xl0, List.drop_zero] at this
    exact this
theorem c_end (hs : TS s L) (hT : TC w s L) {i : Nat} (hi : i < 900) : fX1_endOfOrder 10 (nI i) w = some (nI (i + 1 + (shp (sK s i)).length), w) := by
  obtain ⟨sg, ⟨a, b⟩, h⟩ := id hT
  unfold fX1_endOfOrder
  rw [if_pos (xis_ok a), c_shape hs hT hi]
  simp only [ob]
  rw [t_len (sK_lt s i)]
  simp only [ob]
  rw [xl1, nI_add, nI_add]
end TXC
