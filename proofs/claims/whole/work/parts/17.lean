/-! THE CLASS: the survey of all plans that hold -/
def xFr (ks : List Nat) (w w1 : XW) : Prop := w1.length = w.length ∧ ∀ k, k ∉ ks → w1[k]? = w[k]?
theorem xFr.rf {ks : List Nat} {w : XW} : xFr ks w w := ⟨rfl, fun _ _ => rfl⟩
theorem xFr.tr {ks : List Nat} {w w1 w2 : XW} (h1 : xFr ks w w1) (h2 : xFr ks w1 w2) : xFr ks w w2 := ⟨h2.1.trans h1.1, fun k hk => (h2.2 k hk).trans (h1.2 k hk)⟩
theorem xFr.wk {ks js : List Nat} {w w1 : XW} (h : xFr ks w w1) (hs : ∀ k ∈ ks, k ∈ js) : xFr js w w1 := ⟨h.1, fun k hk => h.2 k (fun z => hk (hs k z))⟩
theorem xFr.st {ks : List Nat} {w : XW} {k : Nat} (e : XE) (hk : k ∈ ks) : xFr ks w (w.set k e) := ⟨List.length_set, fun j hj => xset_get e (fun z => hj (z ▸ hk))⟩
def BE (f g : Nat → Int32) : Prop := ∀ k, k < 66 → f k = g k
def vLs (f : Nat → Int32) : List Nat := (List.range 729).filter (fun c => vHo (vPc f c))
def vUp (f : Nat → Int32) (n : Nat) : List Nat := (List.range n).filter (fun c => vHo (vPc f c))
theorem vUp_len (f : Nat → Int32) (n : Nat) : (vUp f n).length ≤ n := by
  have := List.length_filter_le (fun c => vHo (vPc f c)) (List.range n)
  rw [List.length_range] at this
  exact this
theorem vUp_succ (f : Nat → Int32) (n : Nat) : vUp f (n + 1) = vUp f n ++ (if vHo (vPc f n) then [n] else []) := by
  unfold vUp
  rw [List.range_succ, List.filter_append]
  congr 1
  cases h : vHo (vPc f n) <;> simp [h]
theorem vPc_be {f g : Nat → Int32} (hf : Cn 72 f) (hg : Cn 72 g) (h : BE f g) (c : Nat) : vPc f c = vPc g c := by
  funext k
  unfold vPc
  by_cases hk : 66 ≤ k ∧ k < 72
  · rw [if_pos hk, if_pos hk]
  · rw [if_neg hk, if_neg hk]
    by_cases h1 : k < 66
    · exact h k h1
    · rw [hf k (by omega), hg k (by omega)]
theorem vPc_b (f : Nat → Int32) (c : Nat) : BE (vPc f c) f := fun k hk => by unfold vPc; rw [if_neg (by omega)]
theorem vPc_cn {f : Nat → Int32} (h : Cn 72 f) (c : Nat) : Cn 72 (vPc f c) := fun k hk => by unfold vPc; rw [if_neg (by omega)]; exact h k hk
theorem vPc_vd (f : Nat → Int32) (c : Nat) : Vd (vPc f c) := fun i hi => ⟨c / 3 ^ (71 - (66 + i)) % 3, Nat.mod_lt _ (by omega), by unfold vPc; rw [if_pos (by omega)]⟩
theorem BE.sy {f g : Nat → Int32} (h : BE f g) : BE g f := fun k hk => (h k hk).symm
theorem BE.tr {f g e : Nat → Int32} (h : BE f g) (h2 : BE g e) : BE f e := fun k hk => (h k hk).trans (h2 k hk)
theorem BE.VP {f g : Nat → Int32} (h : BE f g) (hP : VP f) : VP g := fun i hi => by rw [← h (12 + i) (by omega)]; exact hP i hi
theorem BE.Vc {f g p : Nat → Int32} (h : BE f g) (hc : Vc f p) : Vc g p := hc.to (fun i hi => h (12 + i) (by omega))
theorem vLs_be {f g : Nat → Int32} (hf : Cn 72 f) (hg : Cn 72 g) (h : BE f g) : vLs f = vLs g := by
  unfold vLs
  congr 1
  funext c
  rw [vPc_be hf hg h]
theorem vBA_congr {f g : Nat → Int32} (h : ∀ k, k < 69 → f k = g k) {m : Nat} (hm : m < 3) : vBA f m = vBA g m := by
  have eH : ∀ t, t < 3 → vH f t = vH g t := fun t ht => by unfold vH; rw [h t (by omega)]
  have eS : ∀ t, t < 3 → vS f m t = vS g m t := fun t ht => by unfold vS; rw [eH t ht, h (66 + t) (by omega)]
  have eA : vAny f m = vAny g m := by unfold vAny; rw [eS 0 (by omega), eS 1 (by omega), eS 2 (by omega)]
  have eB : ∀ t, t < 3 → vB f m t = vB g m t := fun t ht => by unfold vB; rw [eA, eS t ht, h t (by omega), h (3 + 3 * m + t) (by omega)]
  have eW : ∀ b, b < 3 → vWo f m b = vWo g m b := by
    intro b hb
    funext x0 x1 x2
    unfold vWo vP
    rw [h (12 + 27 * 1 + 9 * 0 + 3 * m + b) (by omega), h (12 + 27 * 1 + 9 * 1 + 3 * m + b) (by omega), h (12 + 27 * 1 + 9 * 2 + 3 * m + b) (by omega)]
  unfold vBA vBest
  rw [eB 0 (by omega), eB 1 (by omega), eB 2 (by omega), eW 0 (by omega), eW 1 (by omega), eW 2 (by omega)]
theorem vWr_iff (f : Nat → Int32) : vWr f = -6 ↔ (vHas (vBA f 0) (vA f 0) = true ∧ vHas (vBA f 1) (vA f 1) = true ∧ vHas (vBA f 2) (vA f 2) = true) := by
  unfold vWr
  cases vHas (vBA f 0) (vA f 0) <;> cases vHas (vBA f 1) (vA f 1) <;> cases vHas (vBA f 2) (vA f 2) <;> decide +kernel
theorem vA_pc (f : Nat → Int32) (s j : Nat) (hj : j < 27) : vA (vPc f (27 * s + j)) 0 = j / 9 ∧ vA (vPc f (27 * s + j)) 1 = j / 3 % 3 ∧ vA (vPc f (27 * s + j)) 2 = j % 3 := by
  unfold vA vPc
  refine ⟨?_, ?_, ?_⟩
  · rw [if_pos (by omega), show 71 - (69 + 0) = 2 from rfl, nI_clamp (by have := Nat.mod_lt ((27 * s + j) / 3 ^ 2) (show 0 < 3 by omega); omega)]
    omega
  · rw [if_pos (by omega), show 71 - (69 + 1) = 1 from rfl, nI_clamp (by have := Nat.mod_lt ((27 * s + j) / 3 ^ 1) (show 0 < 3 by omega); omega)]
    omega
  · rw [if_pos (by omega), show 71 - (69 + 2) = 0 from rfl, nI_clamp (by have := Nat.mod_lt ((27 * s + j) / 3 ^ 0) (show 0 < 3 by omega); omega)]
    omega
theorem vPc_69 (f : Nat → Int32) (s j : Nat) (hj : j < 27) : ∀ k, k < 69 → vPc f (27 * s) k = vPc f (27 * s + j) k := by
  intro k hk
  unfold vPc
  by_cases h : 66 ≤ k
  · rw [if_pos ⟨h, by omega⟩, if_pos ⟨h, by omega⟩]
    have h3 : k = 66 ∨ k = 67 ∨ k = 68 := by omega
    rcases h3 with rfl | rfl | rfl
    · rw [show 71 - 66 = 5 from rfl]
      congr 1
      omega
    · rw [show 71 - 67 = 4 from rfl]
      congr 1
      omega
    · rw [show 71 - 68 = 3 from rfl]
      congr 1
      omega
  · rw [if_neg (by omega), if_neg (by omega)]
/-- the survey's cells -/
def xIsS (w : XW) (f1 p1 cd nb : Nat → Int32) (made : Int32) : Prop := xIsG w 5 6 7 f1 p1 ∧ w[4]? = some (.inr (2, [.ref 5, .ref 8, .ref 9, .int made])) ∧ w[8]? = some (.inl (0, 729, cd)) ∧ w[9]? = some (.inl (0, 5, nb)) ∧ Cn 72 f1 ∧ Cn 24 p1 ∧ Cn 5 nb
/-- the list so far -/
def SV (cd nb : Nat → Int32) (l : List Nat) : Prop := nb 0 = nI l.length ∧ ∀ i (h : i < l.length), cd i = nI l[i]
section SUR
variable {w : XW} {f1 p1 cd nb f : Nat → Int32} {made : Int32}
theorem xIsS.g0 (h : xIsS w f1 p1 cd nb made) : xgR w 4 2 0 = some 5 := xgR_ok h.2.1 rfl
theorem xIsS.g1 (h : xIsS w f1 p1 cd nb made) : xgR w 4 2 1 = some 8 := xgR_ok h.2.1 rfl
theorem xIsS.g2 (h : xIsS w f1 p1 cd nb made) : xgR w 4 2 2 = some 9 := xgR_ok h.2.1 rfl
theorem xIsS.is (h : xIsS w f1 p1 cd nb made) : xis w 4 2 = true := xis_ok h.2.1
theorem xIsS.set6 (h : xIsS w f1 p1 cd nb made) {g : Nat → Int32} (hg : Cn 72 g) : xIsS (w.set 6 (.inl (0, 72, g))) g p1 cd nb made := by
  obtain ⟨h1, h2, h3, h4, h5, h6, h7⟩ := h
  exact ⟨h1.setC (by decide) (by decide) g, by rw [xset_get _ (by decide)]; exact h2, by rw [xset_get _ (by decide)]; exact h3, by rw [xset_get _ (by decide)]; exact h4, hg, h6, h7⟩
theorem xIsS.set7 (h : xIsS w f1 p1 cd nb made) {g : Nat → Int32} (hg : Cn 24 g) : xIsS (w.set 7 (.inl (0, 24, g))) f1 g cd nb made := by
  obtain ⟨h1, h2, h3, h4, h5, h6, h7⟩ := h
  exact ⟨h1.setP (by decide) (by decide) g, by rw [xset_get _ (by decide)]; exact h2, by rw [xset_get _ (by decide)]; exact h3, by rw [xset_get _ (by decide)]; exact h4, h5, hg, h7⟩
theorem xIsG.other {w : XW} {a ca pa k : Nat} {f p : Nat → Int32} {e : XE} (h : xIsG w a ca pa f p) (h1 : k ≠ a) (h2 : k ≠ ca) (h3 : k ≠ pa) : xIsG (w.set k e) a ca pa f p := by
  obtain ⟨e1, e2, e3, e4, e5⟩ := h
  exact ⟨by rw [xis_set h1]; exact e1, by rw [xgR_set h1]; exact e2, by rw [xgR_set h1]; exact e3, by rw [xset_get _ h2]; exact e4, by rw [xset_get _ h3]; exact e5⟩
theorem xIsS.set8 (h : xIsS w f1 p1 cd nb made) (g : Nat → Int32) : xIsS (w.set 8 (.inl (0, 729, g))) f1 p1 g nb made := by
  obtain ⟨h1, h2, h3, h4, h5, h6, h7⟩ := h
  exact ⟨h1.other (by decide) (by decide) (by decide), by rw [xset_get _ (by decide)]; exact h2, xset_self h3, by rw [xset_get _ (by decide)]; exact h4, h5, h6, h7⟩
theorem xIsS.set9 (h : xIsS w f1 p1 cd nb made) {g : Nat → Int32} (hg : Cn 5 g) : xIsS (w.set 9 (.inl (0, 5, g))) f1 p1 cd g made := by
  obtain ⟨h1, h2, h3, h4, h5, h6, h7⟩ := h
  exact ⟨h1.other (by decide) (by decide) (by decide), by rw [xset_get _ (by decide)]; exact h2, by rw [xset_get _ (by decide)]; exact h3, xset_self h4, h5, h6, hg⟩
theorem s_add45 (hcf : Cn 72 f) {s : Nat} (hs : s < 27) : ∀ (d g j : Nat) (w : XW) (f1 cd nb : Nat → Int32), j + d = 27 → d < g → xIsS w f1 p1 cd nb made → BE f1 f → SV cd nb (vUp f (27 * s + j)) →
    ∃ w1 f2 cd2 nb2, fX2_addPlans_45 g 4 (nI (27 * s)) (vBA (vPc f (27 * s)) 0) (vBA (vPc f (27 * s)) 1) (vBA (vPc f (27 * s)) 2) (nI j) w = some w1 ∧ xIsS w1 f2 p1 cd2 nb2 made ∧ BE f2 f ∧ SV cd2 nb2 (vUp f (27 * s + 27)) ∧ (∀ k, 0 < k → k < 5 → nb2 k = nb k) ∧ xFr [6, 8, 9] w w1 := by
  intro d
  induction d with
  | zero =>
    intro g j w f1 cd nb hj hg hS hB hV
    obtain ⟨g, rfl⟩ : ∃ q, g = q + 1 := ⟨g - 1, by omega⟩
    obtain rfl : j = 27 := by omega
    refine ⟨w, f1, cd, nb, ?_, hS, hB, hV, fun _ _ _ => rfl, xFr.rf⟩
    rw [fX2_addPlans_45, if_pos (by decide +kernel)]
  | succ d ih =>
    intro g j w f1 cd nb hj hg hS hB hV
    obtain ⟨g, rfl⟩ : ∃ q, g = q + 1 := ⟨g - 1, by omega⟩
    have hlt : 27 * s + j < 729 := by omega
    have hj27 : j < 27 := by omega
    obtain ⟨a0, a1, a2⟩ := vA_pc f s j hj27
    have e0 := vBA_congr (vPc_69 f s j hj27) (m := 0) (by omega)
    have e1 := vBA_congr (vPc_69 f s j hj27) (m := 1) (by omega)
    have e2 := vBA_congr (vPc_69 f s j hj27) (m := 2) (by omega)
    have hW := vWr_iff (vPc f (27 * s + j))
    rw [a0, a1, a2, ← e0, ← e1, ← e2] at hW
    have hup := vUp_succ f (27 * s + j)
    -- when it doesn't hold, nothing is added
    have skip : ∀ (w1 : XW) (f2 : Nat → Int32), vHo (vPc f (27 * s + j)) = false → xIsS w1 f2 p1 cd nb made → BE f2 f → xFr [6, 8, 9] w w1 → ∃ w2 f3 cd2 nb2, fX2_addPlans_45 g 4 (nI (27 * s)) (vBA (vPc f (27 * s)) 0) (vBA (vPc f (27 * s)) 1) (vBA (vPc f (27 * s)) 2) (nI (j + 1)) w1 = some w2 ∧ xIsS w2 f3 p1 cd2 nb2 made ∧ BE f3 f ∧ SV cd2 nb2 (vUp f (27 * s + 27)) ∧ (∀ k, 0 < k → k < 5 → nb2 k = nb k) ∧ xFr [6, 8, 9] w w2 := by
      intro w1 f2 hno hS1 hB1 hF
      rw [hno] at hup
      obtain ⟨w2, f3, cd2, nb2, r1, r2, r3, r4, r5, r6⟩ := ih g (j + 1) w1 f2 cd nb (by omega) (by omega) hS1 hB1 (by rw [← Nat.add_assoc, hup]; simpa using hV)
      exact ⟨w2, f3, cd2, nb2, r1, r2, r3, r4, r5, hF.tr r6⟩
    have hno : ∀ h : vWr (vPc f (27 * s + j)) ≠ -6, vHo (vPc f (27 * s + j)) = false := fun h => by unfold vHo; rw [decide_eq_false h, Bool.and_false]
    rw [fX2_addPlans_45, if_neg (by rw [xl27]; exact nI_ge hj27 (by omega)), show (9 : Int32) = nI 9 by decide +kernel, pk_div (by omega) (by omega) (by omega), s_has]
    simp only [ob, nI_1]
    by_cases b0 : vHas (vBA (vPc f (27 * s)) 0) (j / 9) = true
    · rw [b0, if_neg (by decide +kernel), xl3, pk_div (by omega) (by omega) (by omega), pk_rem (by omega) (by omega) (by omega), s_has]
      simp only [ob]
      by_cases b1 : vHas (vBA (vPc f (27 * s)) 1) (j / 3 % 3) = true
      · rw [b1, if_neg (by decide +kernel), ← pk_div (a := j) (d := 3) (by omega) (by omega) (by omega), pk_rem (by omega) (by omega) (by omega), s_has]
        simp only [ob]
        by_cases b2 : vHas (vBA (vPc f (27 * s)) 2) (j % 3) = true
        · have hwr : vWr (vPc f (27 * s + j)) = -6 := hW.mpr ⟨b0, b1, b2⟩
          have hpc := vPc_be hS.2.2.2.2.1 hcf hB (27 * s + j)
          have hS1 := hS.set6 (vPc_cn hS.2.2.2.2.1 (27 * s + j))
          rw [b2, if_neg (by decide +kernel), hS.g0]
          simp only [ob]
          rw [nI_add, s_takePlan hS.1 (by decide) hS.2.2.2.2.1 (by omega)]
          simp only [ob]
          rw [hS1.g2]
          simp only [ob]
          rw [xl0, xaI_ok hS1.2.2.2.1 (by omega) (by omega), hS1.g0]
          simp only [ob]
          rw [s_better hS1.1 (vPc_vd _ _), hpc]
          rw [hpc] at hS1
          simp only [ob]
          by_cases hl : vLo (vPc f (27 * s + j)) = -6
          · have hyes : vHo (vPc f (27 * s + j)) = true := by unfold vHo; rw [decide_eq_true hl, decide_eq_true hwr]; rfl
            rw [hyes] at hup
            have hlen := vUp_len f (27 * s + j)
            rw [if_pos hl, hS1.g1]
            simp only [ob]
            rw [xaL_ok hS1.2.2.1]
            simp only [ob]
            rw [hV.1, s_inN (by omega) (by omega)]
            simp only [ob]
            rw [if_neg (by decide +kernel), hS1.g1]
            simp only [ob]
            rw [xsI_ok hS1.2.2.1 (by omega) (by omega)]
            simp only [ob]
            have hS2 := hS1.set8 (xct 729 (upd cd (vUp f (27 * s + j)).length (nI (27 * s + j))))
            rw [hS2.g2]
            simp only [ob]
            rw [xaI_ok hS2.2.2.2.1 (by omega) (by omega)]
            simp only [ob]
            rw [xsI_ok hS2.2.2.2.1 (by omega) (by omega), hV.1, nI_1]
            simp only [ob]
            have hS3 := hS2.set9 (xct_cn 5 (upd nb 0 (nI ((vUp f (27 * s + j)).length + 1))))
            obtain ⟨w2, f3, cd2, nb2, r1, r2, r3, r4, r5, r6⟩ := ih g (j + 1) _ _ _ _ (by omega) (by omega) hS3 (vPc_b f _) (by
              rw [← Nat.add_assoc, hup, if_pos rfl]
              refine ⟨by unfold xct upd; rw [if_pos (by omega), if_pos rfl, List.length_append]; rfl, fun i hi => ?_⟩
              rw [List.length_append] at hi
              simp only [List.length_cons, List.length_nil] at hi
              unfold xct upd
              rw [if_pos (by omega)]
              by_cases hi2 : i = (vUp f (27 * s + j)).length
              · subst hi2
                rw [if_pos rfl, List.getElem_append_right (Nat.le_refl _)]
                simp
              · rw [if_neg hi2, List.getElem_append_left (by omega)]
                exact hV.2 i (by omega))
            refine ⟨w2, f3, cd2, nb2, r1, r2, r3, r4, fun k h1 h2 => ?_, (((xFr.st _ (by decide)).tr (xFr.st _ (by decide))).tr (xFr.st _ (by decide))).tr r6⟩
            rw [r5 k h1 h2]
            unfold xct upd
            rw [if_pos h2, if_neg (by omega)]
          · rw [if_neg hl]
            exact skip _ _ (by unfold vHo; rw [decide_eq_false hl, Bool.false_and]) hS1 (vPc_b f _) (xFr.st _ (by decide))
        · have : vHas (vBA (vPc f (27 * s)) 2) (j % 3) = false := Bool.not_eq_true _ ▸ b2
          rw [this, if_pos (by decide +kernel)]
          exact skip w f1 (hno (fun z => b2 (hW.mp z).2.2)) hS hB xFr.rf
      · have : vHas (vBA (vPc f (27 * s)) 1) (j / 3 % 3) = false := Bool.not_eq_true _ ▸ b1
        rw [this, if_pos (by decide +kernel)]
        exact skip w f1 (hno (fun z => b1 (hW.mp z).2.1)) hS hB xFr.rf
    · have : vHas (vBA (vPc f (27 * s)) 0) (j / 9) = false := Bool.not_eq_true _ ▸ b0
      rw [this, if_pos (by decide +kernel)]
      exact skip w f1 (hno (fun z => b0 (hW.mp z).1)) hS hB xFr.rf
theorem s_addPlans (hcf : Cn 72 f) {s : Nat} (hs : s < 27) (hS : xIsS w f1 p1 cd nb made) (hB : BE f1 f) (hV : SV cd nb (vUp f (27 * s))) : ∃ w1 f2 cd2 nb2, fX2_addPlans 4 (nI s) w = some w1 ∧ xIsS w1 f2 p1 cd2 nb2 made ∧ BE f2 f ∧ SV cd2 nb2 (vUp f (27 * (s + 1))) ∧ (∀ k, 0 < k → k < 5 → nb2 k = nb k) ∧ xFr [6, 8, 9] w w1 := by
  have hpc := vPc_be hS.2.2.2.2.1 hcf hB (27 * s)
  have hS1 := hS.set6 (vPc_cn hS.2.2.2.2.1 (27 * s))
  unfold fX2_addPlans
  rw [if_pos hS.is, hS.g0]
  simp only [ob]
  rw [xl27, pk_mul, Nat.mul_comm s 27, s_takePlan hS.1 (by decide) hS.2.2.2.2.1 (by omega)]
  simp only [ob]
  rw [hpc] at hS1 ⊢
  rw [hS1.g0]
  simp only [ob]
  rw [xl0, xl1, xl2, s_bestActions hS1.1 (by omega)]
  simp only [ob]
  rw [hS1.g0]
  simp only [ob]
  rw [s_bestActions hS1.1 (by omega)]
  simp only [ob]
  rw [hS1.g0]
  simp only [ob]
  rw [s_bestActions hS1.1 (by omega)]
  simp only [ob]
  obtain ⟨w1, f2, cd2, nb2, r1, r2, r3, r4, r5, r6⟩ := s_add45 (made := made) (p1 := p1) hcf hs 27 1000 0 _ _ cd nb (by omega) (by omega) hS1 (vPc_b f _) hV
  exact ⟨w1, f2, cd2, nb2, r1, r2, r3, by rw [show 27 * (s + 1) = 27 * s + 27 by omega]; exact r4, r5, (xFr.st _ (by decide)).tr r6⟩
theorem s_look49 (hcf : Cn 72 f) : ∀ (d g s : Nat) (w : XW) (f1 cd nb : Nat → Int32), s + d = 27 → d < g → xIsS w f1 p1 cd nb made → BE f1 f → SV cd nb (vUp f (27 * s)) → ∃ w1 f2 cd2 nb2, fX2_look_49 g 4 (nI s) w = some w1 ∧ xIsS w1 f2 p1 cd2 nb2 made ∧ BE f2 f ∧ SV cd2 nb2 (vLs f) ∧ (∀ k, 0 < k → k < 5 → nb2 k = nb k) ∧ xFr [6, 8, 9] w w1 := by
  intro d
  induction d with
  | zero =>
    intro g s w f1 cd nb hj hg hS hB hV
    obtain ⟨g, rfl⟩ : ∃ q, g = q + 1 := ⟨g - 1, by omega⟩
    obtain rfl : s = 27 := by omega
    refine ⟨w, f1, cd, nb, ?_, hS, hB, hV, fun _ _ _ => rfl, xFr.rf⟩
    rw [fX2_look_49, if_pos (by decide +kernel)]
  | succ d ih =>
    intro g s w f1 cd nb hj hg hS hB hV
    obtain ⟨g, rfl⟩ : ∃ q, g = q + 1 := ⟨g - 1, by omega⟩
    obtain ⟨w1, f2, cd2, nb2, r1, r2, r3, r4, r5, r6⟩ := s_addPlans hcf (by omega) hS hB hV
    rw [fX2_look_49, if_neg (by rw [xl27]; exact nI_ge (by omega) (by omega)), r1]
    simp only [ob, nI_1]
    obtain ⟨w3, f3, cd3, nb3, q1, q2, q3, q4, q5, q6⟩ := ih g (s + 1) w1 f2 cd2 nb2 (by omega) (by omega) r2 r3 r4
    exact ⟨w3, f3, cd3, nb3, q1, q2, q3, q4, fun k h1 h2 => (q5 k h1 h2).trans (r5 k h1 h2), r6.tr q6⟩
end SUR
