/-! THE CLASS: what the survey answers -/
def vGd (f : Nat → Int32) (k c : Nat) : Bool := if k = 1 then vRe (vPc f c) else decide (vKi (vPc f c) = nI (k - 2))
def vNm (f : Nat → Int32) (k : Nat) : Nat := if k = 0 then (vLs f).length else ((vLs f).filter (vGd f k)).length
def NB (f nb : Nat → Int32) : Prop := ∀ k, 0 < k → k < 5 → nb k = -1 ∨ nb k = nI (vNm f k)
theorem vNm_be {f g : Nat → Int32} (hf : Cn 72 f) (hg : Cn 72 g) (h : BE f g) (k : Nat) : vNm f k = vNm g k := by
  have e : vGd f k = vGd g k := by
    funext c
    unfold vGd
    rw [vPc_be hf hg h]
  unfold vNm
  rw [vLs_be hf hg h, e]
theorem vLs_len (f : Nat → Int32) : (vLs f).length ≤ 729 := vUp_len f 729
theorem vLs_lt {f : Nat → Int32} {i : Nat} (h : i < (vLs f).length) : (vLs f)[i] < 729 := by
  have : (vLs f)[i] ∈ vLs f := List.getElem_mem h
  unfold vLs at this
  exact List.mem_range.mp (List.mem_filter.mp this).1
/-- the survey, as it is between two calls -/
def IS (w : XW) : Prop := ∃ made f1 p1 cd nb, xIsS w f1 p1 cd nb made ∧ Vc f1 p1 ∧ (made = 0 ∨ (made = 1 ∧ SV cd nb (vLs f1) ∧ NB f1 nb))
/-- the survey, made over a game -/
def IM (w : XW) (f : Nat → Int32) : Prop := ∃ f1 p1 cd nb, xIsS w f1 p1 cd nb 1 ∧ BE f1 f ∧ SV cd nb (vLs f) ∧ NB f nb ∧ Vc f1 p1
theorem IM.IS {w : XW} {f : Nat → Int32} (hcf : Cn 72 f) (h : IM w f) : IS w := by
  obtain ⟨f1, p1, cd, nb, h1, h2, h3, h4, h5⟩ := h
  refine ⟨1, f1, p1, cd, nb, h1, h5, Or.inr ⟨rfl, ?_, ?_⟩⟩
  · rw [vLs_be h1.2.2.2.2.1 hcf h2]; exact h3
  · intro k a b
    rw [vNm_be h1.2.2.2.2.1 hcf h2]
    exact h4 k a b
section SUR2
variable {w : XW} {f p : Nat → Int32}
theorem xpZ_ok {w : XW} {a c k : Nat} {x : Int32} {fs : List Value} (h : w[a]? = some (.inr (c, fs))) (hk : k < fs.length) (hx : x = 0 ∨ x = 1) : xpZ w a c k x = some (w.set a (.inr (c, fs.set k (.int x)))) := by
  unfold xpZ; rw [if_pos hx]; exact xpI_ok h hk
theorem s_look19 (hG : xIsG w 1 2 3 f p) (hcf : Cn 72 f) (hI : IS w) : ∃ w1, fX2_look_19 4 1 w = some w1 ∧ IM w1 f ∧ xFr [4, 6, 7, 8, 9] w w1 := by
  obtain ⟨made, f1, p1, cd, nb, hS, hV, hm⟩ := hI
  have hS1 : xIsS (w.set 4 (.inr (2, [.ref 5, .ref 8, .ref 9, .int 1]))) f1 p1 cd nb 1 := by
    obtain ⟨h1, h2, h3, h4, h5, h6, h7⟩ := hS
    exact ⟨h1.other (by decide) (by decide) (by decide), xset_self h2, by rw [xset_get _ (by decide)]; exact h3, by rw [xset_get _ (by decide)]; exact h4, h5, h6, h7⟩
  have hG1 := hG.other (k := 4) (e := .inr (2, [.ref 5, .ref 8, .ref 9, .int 1])) (by decide) (by decide) (by decide)
  unfold fX2_look_19
  rw [xpZ_ok hS.2.1 (by simp) (Or.inr rfl)]
  simp only [ob]
  show ∃ w1, ((xgR (w.set 4 (.inr (2, [.ref 5, .ref 8, .ref 9, .int 1]))) 4 2 0).bind _) = some w1 ∧ _
  rw [hS1.g0]
  simp only [ob]
  show ∃ w1, ((fX0_copyFrom 5 1 (w.set 4 (.inr (2, [.ref 5, .ref 8, .ref 9, .int 1])))).bind _) = some w1 ∧ _
  rw [s_copyFrom hS1.1 (by decide) (by decide) hS1.2.2.2.2.1 hS1.2.2.2.2.2.1 hG1.2.1 hG1.2.2.2.1 hcf]
  simp only [ob]
  have hS2 := (hS1.set6 hcf).set7 (Cn.z 24)
  rw [hS2.g2]
  simp only [ob]
  rw [s_fill hS2.2.2.2.1 (by omega) hS2.2.2.2.2.2.2]
  simp only [ob]
  have hS3 := hS2.set9 (xct_cn 5 (fun _ => (-1 : Int32)))
  rw [hS3.g2]
  simp only [ob]
  rw [xl0, xsI_ok hS3.2.2.2.1 (by omega) (by omega)]
  simp only [ob]
  have hS4 := hS3.set9 (xct_cn 5 (upd (xct 5 (fun _ => (-1 : Int32))) 0 (nI 0)))
  obtain ⟨w1, f2, cd2, nb2, r1, r2, r3, r4, r5, r6⟩ := s_look49 (made := 1) (p1 := vZ) (f := f) hcf 27 1000 0 _ f cd _ (by omega) (by omega) hS4 (fun _ _ => rfl) ⟨rfl, fun i hi => absurd hi (by simp [vUp])⟩
  refine ⟨w1, r1, ⟨f2, vZ, cd2, nb2, r2, r3, r4, fun k h1 h2 => Or.inl ?_, Vc.z _⟩, ?_⟩
  · rw [r5 k h1 h2]
    show (if k < 5 then (if k = 0 then nI 0 else if k < 5 then (-1 : Int32) else 0) else 0) = -1
    rw [if_pos h2, if_neg (by omega), if_pos h2]
  · exact (((((xFr.st _ (by decide)).tr (xFr.st _ (by decide))).tr (xFr.st _ (by decide))).tr (xFr.st _ (by decide))).tr (xFr.st _ (by decide))).tr (r6.wk (by decide))
theorem s_look (hG : xIsG w 1 2 3 f p) (hcf : Cn 72 f) (hI : IS w) : ∃ w1, fX2_look 4 1 w = some w1 ∧ IM w1 f ∧ xFr [4, 6, 7, 8, 9] w w1 := by
  have hI0 := hI
  obtain ⟨made, f1, p1, cd, nb, hS, hV, hm⟩ := hI
  unfold fX2_look
  rw [if_pos hS.is, xgI_ok hS.2.1 (k := 3) (x := made) rfl]
  simp only [ob]
  rcases hm with rfl | ⟨rfl, h1, h2⟩
  · rw [if_pos rfl]
    exact s_look19 hG hcf hI0
  · rw [if_neg (by decide +kernel), hS.g0]
    simp only [ob]
    obtain ⟨r, hr, hc⟩ := s_differs hS.1 hG.2.1 hG.2.2.2.1
    rw [hr]
    simp only [ob]
    rcases hc with ⟨rfl, hc⟩ | rfl
    · rw [if_neg (by decide +kernel)]
      refine ⟨w, rfl, ⟨f1, p1, cd, nb, hS, hc, ?_, ?_, hV⟩, xFr.rf⟩
      · rw [← vLs_be hS.2.2.2.2.1 hcf hc]; exact h1
      · intro k a b
        rw [← vNm_be hS.2.2.2.2.1 hcf hc]
        exact h2 k a b
    · rw [if_pos rfl]
      exact s_look19 hG hcf hI0
theorem s_codeAt {f1 p1 cd nb : Nat → Int32} {made : Int32} (hS : xIsS w f1 p1 cd nb made) {i : Nat} (hi : i < 729) : fX2_codeAt 4 (nI i) w = some (cd i, w) := by
  unfold fX2_codeAt
  rw [if_pos hS.is, hS.g1]
  simp only [ob]
  rw [xaL_ok hS.2.2.1]
  simp only [ob]
  rw [s_inN hi (by omega)]
  simp only [ob]
  rw [if_neg (by decide +kernel), hS.g1]
  simp only [ob]
  rw [xaI_ok hS.2.2.1 hi (by omega)]
  simp only [ob]
theorem s_num37 (hcf : Cn 72 f) (hP : VP f) {k : Nat} (hk1 : 0 < k) (hk5 : k < 5) {cd nb : Nat → Int32} {l : List Nat} (hl : l.length ≤ 729) (hlt : ∀ i (h : i < l.length), l[i]'h < 729) (hV : SV cd nb l) : ∀ (d g i : Nat) (w : XW) (f1 p1 : Nat → Int32), i + d = l.length → d < g → xIsS w f1 p1 cd nb 1 → BE f1 f → Vc f1 p1 →
    ∃ w1 f2 p2, fX2_numberOf_37 g 4 (nI k) (nI ((l.take i).filter (vGd f k)).length) (nI i) w = some (nI (l.filter (vGd f k)).length, w1) ∧ xIsS w1 f2 p2 cd (xct 5 (upd nb k (nI (l.filter (vGd f k)).length))) 1 ∧ BE f2 f ∧ Vc f2 p2 ∧ xFr [4, 6, 7, 8, 9] w w1 := by
  intro d
  induction d with
  | zero =>
    intro g i w f1 p1 hi hg hS hB hc
    obtain ⟨g, rfl⟩ : ∃ q, g = q + 1 := ⟨g - 1, by omega⟩
    rw [fX2_numberOf_37, hS.g2]
    simp only [ob]
    rw [xl0, xaI_ok hS.2.2.2.1 (by omega) (by omega)]
    simp only [ob]
    rw [hV.1, if_pos (nI_le (by omega) (by omega))]
    rw [xsI_ok hS.2.2.2.1 hk5 (by omega)]
    simp only [ob]
    rw [List.take_of_length_le (by omega)]
    exact ⟨_, f1, p1, rfl, hS.set9 (xct_cn 5 _), hB, hc, xFr.st _ (by decide)⟩
  | succ d ih =>
    intro g i w f1 p1 hi hg hS hB hc
    obtain ⟨g, rfl⟩ : ∃ q, g = q + 1 := ⟨g - 1, by omega⟩
    have hil : i < l.length := by omega
    obtain ⟨c, hcl⟩ : ∃ c, l[i]'hil = c := ⟨_, rfl⟩
    have hc729 : c < 729 := hcl ▸ hlt i hil
    have hpc := vPc_be hS.2.2.2.2.1 hcf hB c
    have hS1 := hS.set6 (vPc_cn hS.2.2.2.2.1 c)
    rw [hpc] at hS1
    have hct : (l.take (i + 1)).filter (vGd f k) = (l.take i).filter (vGd f k) ++ (if vGd f k c then [c] else []) := by
      rw [List.take_succ_eq_append_getElem hil, List.filter_append, hcl]
      congr 1
      cases h : vGd f k c <;> simp [h]
    have hVc1 : Vc (vPc f c) p1 := ((vPc_b f _).sy).Vc (hB.Vc hc)
    have hP1 : VP (vPc f c) := ((vPc_b f _).sy).VP hP
    rw [fX2_numberOf_37, hS.g2]
    simp only [ob]
    rw [xl0, xaI_ok hS.2.2.2.1 (by omega) (by omega)]
    simp only [ob]
    rw [hV.1, if_neg (nI_ge hil (by omega)), hS.g0]
    simp only [ob]
    rw [s_codeAt hS (by omega), hV.2 i hil, hcl]
    simp only [ob]
    rw [s_takePlan hS.1 (by decide) hS.2.2.2.2.1 (by omega), hpc]
    simp only [ob]
    simp only [nI_1]
    by_cases hk : k = 1
    · subst hk
      obtain ⟨q, hq, hcq⟩ := s_untempted hS1.1 (by decide) (by decide) (vPc_vd _ _) hP1 hVc1
      rw [if_pos xl1.symm, hS1.g0]
      simp only [ob]
      rw [hq]
      simp only [ob]
      obtain ⟨w1, f2, p2, r1, r2, r3, r4, r5⟩ := ih g (i + 1) _ _ _ (by omega) (by omega) (hS1.set7 hcq.1) (vPc_b f _) hcq
      rw [hct] at r1
      have hgd : vGd f 1 c = vRe (vPc f c) := by unfold vGd; rw [if_pos rfl]
      rw [hgd] at r1
      cases hre : vRe (vPc f c)
      · rw [hre, if_neg (by decide), List.append_nil] at r1
        rw [if_pos (by decide +kernel)]
        exact ⟨w1, f2, p2, r1, r2, r3, r4, ((xFr.st _ (by decide)).tr (xFr.st _ (by decide))).tr r5⟩
      · rw [hre, if_pos rfl, List.length_append] at r1
        rw [if_neg (by decide +kernel)]
        exact ⟨w1, f2, p2, r1, r2, r3, r4, ((xFr.st _ (by decide)).tr (xFr.st _ (by decide))).tr r5⟩
    · rw [if_neg (fun z => hk ((nI_eq (by omega) (by omega)).mp (z.trans xl1))), hS1.g0]
      simp only [ob]
      rw [s_kind hS1.1]
      simp only [ob]
      rw [xl2, pk_sub (by omega)]
      obtain ⟨w1, f2, p2, r1, r2, r3, r4, r5⟩ := ih g (i + 1) _ _ _ (by omega) (by omega) hS1 (vPc_b f _) hVc1
      rw [hct] at r1
      have hgd : vGd f k c = decide (vKi (vPc f c) = nI (k - 2)) := by unfold vGd; rw [if_neg hk]
      by_cases hkk : vKi (vPc f c) = nI (k - 2)
      · rw [if_pos hkk]
        rw [hgd, decide_eq_true hkk, if_pos rfl, List.length_append] at r1
        exact ⟨w1, f2, p2, r1, r2, r3, r4, (xFr.st _ (by decide)).tr r5⟩
      · rw [if_neg hkk]
        rw [hgd, decide_eq_false hkk, if_neg (by decide), List.append_nil] at r1
        exact ⟨w1, f2, p2, r1, r2, r3, r4, (xFr.st _ (by decide)).tr r5⟩
end SUR2
