/-! THE CLASS: numbers of plans, the best plan -/
theorem nI_m1 {n : Nat} (h : n < 2 ^ 31) : nI n ≠ -1 := by
  intro z
  have := congrArg Int32.toInt z
  rw [nI_toInt h, show (-1 : Int32).toInt = -1 by decide +kernel] at this
  omega
theorem nI_m6 {n : Nat} (h : n < 2 ^ 31) : nI n ≠ -6 := by
  intro z
  have := congrArg Int32.toInt z
  rw [nI_toInt h, show (-6 : Int32).toInt = -6 by decide +kernel] at this
  omega
def vBs1 (f : Nat → Int32) (acc : Option (Nat × Int32)) (c : Nat) : Option (Nat × Int32) := match acc with
  | none => some (c, vRs (vPc f c))
  | some (b, y) => if vRs (vPc f c) ≤ y then some (b, y) else some (c, vRs (vPc f c))
def vBst (f : Nat → Int32) : Option (Nat × Int32) := (vLs f).foldl (vBs1 f) none
section SUR3
variable {w : XW} {f p : Nat → Int32}
theorem s_numberOf (hG : xIsG w 1 2 3 f p) (hcf : Cn 72 f) (hP : VP f) (hI : IS w) {k : Nat} (hk : k < 5) : ∃ w1, fX2_numberOf 4 1 (nI k) w = some (nI (vNm f k), w1) ∧ IM w1 f ∧ xFr [4, 6, 7, 8, 9] w w1 := by
  obtain ⟨w1, r1, r2, r3⟩ := s_look hG hcf hI
  have hIM := r2
  obtain ⟨f1, p1, cd, nb, hS, hB, hV, hN, hc⟩ := r2
  unfold fX2_numberOf
  rw [if_pos (by
    obtain ⟨made, g1, q1, cd1, nb1, hS1, -⟩ := hI
    exact hS1.is), r1]
  simp only [ob]
  rw [show (5 : Int32) = nI 5 by decide +kernel, s_inN hk (by omega)]
  simp only [ob]
  rw [if_neg (by decide +kernel), hS.g2]
  simp only [ob]
  rw [xaI_ok hS.2.2.2.1 hk (by omega)]
  simp only [ob]
  have hlen := vLs_len f
  by_cases hk0 : k = 0
  · subst hk0
    rw [hV.1, if_neg (nI_m1 (by omega))]
    exact ⟨w1, by unfold vNm; rw [if_pos rfl], hIM, r3⟩
  · rcases hN k (by omega) hk with hz | hz
    · rw [if_pos hz]
      obtain ⟨w2, f2, p2, q1, q2, q3, q4, q5⟩ := s_num37 hcf hP (by omega) hk hlen (fun i h => vLs_lt h) hV (vLs f).length 1000 0 w1 f1 p1 (by omega) (by omega) hS hB hc
      rw [List.take_zero, List.filter_nil, List.length_nil, ← xl0] at q1
      refine ⟨w2, ?_, ⟨f2, p2, cd, _, q2, q3, ⟨?_, hV.2⟩, fun j h1 h2 => ?_, q4⟩, r3.tr q5⟩
      · rw [q1]
        unfold vNm
        rw [if_neg hk0]
      · unfold xct upd
        rw [if_pos (by omega), if_neg (by omega)]
        exact hV.1
      · show (if j < 5 then (if j = k then _ else nb j) else 0) = -1 ∨ (if j < 5 then (if j = k then _ else nb j) else 0) = _
        rw [if_pos h2]
        by_cases hjk : j = k
        · subst hjk
          rw [if_pos rfl]
          refine Or.inr ?_
          unfold vNm
          rw [if_neg hk0]
        · rw [if_neg hjk]
          exact hN j h1 h2
    · have hne : vNm f k < 2 ^ 31 := by
        unfold vNm
        rw [if_neg hk0]
        have := List.length_filter_le (vGd f k) (vLs f)
        omega
      rw [if_neg (by rw [hz]; exact nI_m1 hne), hz]
      exact ⟨w1, rfl, hIM, r3⟩
theorem s_recAt {f1 p1 cd nb : Nat → Int32} {made : Int32} (hcf : Cn 72 f) (hS : xIsS w f1 p1 cd nb made) (hB : BE f1 f) {i c : Nat} (hi : i < 729) (hc : cd i = nI c) (hc2 : c < 729) : fX2_receiverSumAt 4 (nI i) w = some (vRs (vPc f c), w.set 6 (.inl (0, 72, vPc f c))) ∧ xIsS (w.set 6 (.inl (0, 72, vPc f c))) (vPc f c) p1 cd nb made := by
  have hpc := vPc_be hS.2.2.2.2.1 hcf hB c
  have hS1 := hS.set6 (vPc_cn hS.2.2.2.2.1 c)
  rw [hpc] at hS1
  refine ⟨?_, hS1⟩
  unfold fX2_receiverSumAt
  rw [if_pos hS.is, hS.g0]
  simp only [ob]
  rw [s_codeAt hS hi, hc]
  simp only [ob]
  rw [s_takePlan hS.1 (by decide) hS.2.2.2.2.1 (by omega), hpc]
  simp only [ob]
  rw [hS1.g0]
  simp only [ob]
  rw [s_receiverSum hS1.1 (vPc_vd _ _)]
  simp only [ob]
theorem s_best13 (hcf : Cn 72 f) {cd nb p1 : Nat → Int32} {l : List Nat} (hl : l.length ≤ 729) (hlt : ∀ i (h : i < l.length), l[i]'h < 729) (hV : SV cd nb l) : ∀ (d g i : Nat) (w : XW) (f1 : Nat → Int32) (i2 i3 : Int32), i + d = l.length → d < g → xIsS w f1 p1 cd nb 1 → BE f1 f →
    (((l.take i).foldl (vBs1 f) none = none ∧ i2 = -6) ∨ ∃ j, ∃ h : j < l.length, (l.take i).foldl (vBs1 f) none = some (l[j]'h, i3) ∧ i2 = nI j) →
    ∃ w1 f2 r, fX2_bestPlace_13 g 4 i2 i3 (nI i) w = some (r, w1) ∧ xIsS w1 f2 p1 cd nb 1 ∧ BE f2 f ∧ xFr [4, 6, 7, 8, 9] w w1 ∧ ((l.foldl (vBs1 f) none = none ∧ r = -6) ∨ ∃ j, ∃ h : j < l.length, ∃ y, l.foldl (vBs1 f) none = some (l[j]'h, y) ∧ r = nI j) := by
  intro d
  induction d with
  | zero =>
    intro g i w f1 i2 i3 hi hg hS hB hJ
    obtain ⟨g, rfl⟩ : ∃ q, g = q + 1 := ⟨g - 1, by omega⟩
    rw [List.take_of_length_le (by omega)] at hJ
    rw [fX2_bestPlace_13, hS.g2]
    simp only [ob]
    rw [xl0, xaI_ok hS.2.2.2.1 (by omega) (by omega)]
    simp only [ob]
    rw [hV.1, if_pos (nI_le (by omega) (by omega))]
    refine ⟨w, f1, i2, rfl, hS, hB, xFr.rf, ?_⟩
    rcases hJ with h | ⟨j, h, e, e2⟩
    · exact Or.inl h
    · exact Or.inr ⟨j, h, i3, e, e2⟩
  | succ d ih =>
    intro g i w f1 i2 i3 hi hg hS hB hJ
    obtain ⟨g, rfl⟩ : ∃ q, g = q + 1 := ⟨g - 1, by omega⟩
    have hil : i < l.length := by omega
    obtain ⟨c, hcl⟩ : ∃ c, l[i]'hil = c := ⟨_, rfl⟩
    have hc729 : c < 729 := hcl ▸ hlt i hil
    obtain ⟨e1, e2⟩ := s_recAt hcf hS hB (i := i) (by omega) ((hV.2 i hil).trans (by rw [hcl])) hc729
    have htk : (l.take (i + 1)).foldl (vBs1 f) none = vBs1 f ((l.take i).foldl (vBs1 f) none) c := by
      rw [List.take_succ_eq_append_getElem hil, List.foldl_append, hcl]
      rfl
    rw [fX2_bestPlace_13, hS.g2]
    simp only [ob]
    rw [xl0, xaI_ok hS.2.2.2.1 (by omega) (by omega)]
    simp only [ob]
    rw [hV.1, if_neg (nI_ge hil (by omega)), e1]
    simp only [ob, nI_1]
    rcases hJ with ⟨h1, rfl⟩ | ⟨j, hj, h1, rfl⟩
    · rw [if_pos rfl]
      obtain ⟨w1, f2, r, r1, r2, r3, r4, r5⟩ := ih g (i + 1) _ _ (nI i) (vRs (vPc f c)) (by omega) (by omega) e2 (vPc_b f c) (Or.inr ⟨i, hil, by rw [htk, h1, hcl]; rfl, rfl⟩)
      exact ⟨w1, f2, r, r1, r2, r3, (xFr.st _ (by decide)).tr r4, r5⟩
    · rw [if_neg (nI_m6 (by omega))]
      by_cases hle : vRs (vPc f c) ≤ i3
      · rw [if_pos hle]
        obtain ⟨w1, f2, r, r1, r2, r3, r4, r5⟩ := ih g (i + 1) _ _ (nI j) i3 (by omega) (by omega) e2 (vPc_b f c) (Or.inr ⟨j, hj, by rw [htk, h1]; show (if _ then _ else _) = _; rw [if_pos hle], rfl⟩)
        exact ⟨w1, f2, r, r1, r2, r3, (xFr.st _ (by decide)).tr r4, r5⟩
      · rw [if_neg hle]
        obtain ⟨w1, f2, r, r1, r2, r3, r4, r5⟩ := ih g (i + 1) _ _ (nI i) (vRs (vPc f c)) (by omega) (by omega) e2 (vPc_b f c) (Or.inr ⟨i, hil, by rw [htk, h1, hcl]; show (if _ then _ else _) = _; rw [if_neg hle], rfl⟩)
        exact ⟨w1, f2, r, r1, r2, r3, (xFr.st _ (by decide)).tr r4, r5⟩
theorem vBst_sum (f : Nat → Int32) : ∀ (l : List Nat) (acc : Option (Nat × Int32)), (∀ b y, acc = some (b, y) → y = vRs (vPc f b)) → ∀ b y, l.foldl (vBs1 f) acc = some (b, y) → y = vRs (vPc f b)
  | [], acc, h, b, y, e => h b y e
  | c :: l, acc, h, b, y, e => by
    refine vBst_sum f l (vBs1 f acc c) ?_ b y e
    intro b1 y1 e1
    unfold vBs1 at e1
    split at e1
    · cases e1; rfl
    · rename_i b0 y0
      split at e1
      · cases e1; exact h _ _ rfl
      · cases e1; rfl
theorem s_bestPlace (hG : xIsG w 1 2 3 f p) (hcf : Cn 72 f) (hI : IS w) : ∃ w1 r, fX2_bestPlace 4 1 w = some (r, w1) ∧ IM w1 f ∧ xFr [4, 6, 7, 8, 9] w w1 ∧ ((vBst f = none ∧ r = -6) ∨ ∃ j b y, vBst f = some (b, y) ∧ r = nI j ∧ (vLs f)[j]? = some b) := by
  obtain ⟨w1, r1, r2, r3⟩ := s_look hG hcf hI
  obtain ⟨f1, p1, cd, nb, hS, hB, hV, hN, hc⟩ := r2
  unfold fX2_bestPlace
  rw [if_pos (by
    obtain ⟨made, g1, q1, cd1, nb1, hS1, -⟩ := hI
    exact hS1.is), r1]
  simp only [ob]
  have hlen := vLs_len f
  have hlt : ∀ c, c ∈ vLs f → c < 729 := fun c h => List.mem_range.mp (List.mem_filter.mp h).1
  unfold vBst
  obtain ⟨l, hl⟩ : ∃ l, vLs f = l := ⟨_, rfl⟩
  rw [hl] at hlen hlt hV ⊢
  obtain ⟨w2, f2, r, q1, q2, q3, q4, q5⟩ := s_best13 hcf hlen (fun i h => hlt _ (List.getElem_mem h)) hV l.length 1000 0 w1 f1 (-6) 0 (by omega) (by omega) hS hB (Or.inl ⟨by rw [List.take_zero]; rfl, rfl⟩)
  rw [← xl0] at q1
  refine ⟨w2, r, q1, ⟨f2, p1, cd, nb, q2, q3, by rw [hl]; exact hV, hN, q3.sy.Vc (hB.Vc hc)⟩, r3.tr q4, ?_⟩
  rcases q5 with h | ⟨j, h, y, e1, e2⟩
  · exact Or.inl h
  · exact Or.inr ⟨j, _, y, e1, e2, List.getElem?_eq_getElem h⟩
end SUR3
