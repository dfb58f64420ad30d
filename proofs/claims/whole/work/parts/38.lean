/-! THE CLASS: the place of the text's first fault -/
def eO (s : Nat → Nat) (i : Nat) : Nat := i + 1 + (shp (sK s i)).length
def fP (s : Nat → Nat) : Nat → Nat → Option Nat
  | 0, _ => none
  | d + 1, i => match fO s i with
    | some p => some p
    | none => if s (eO s i) = 0 then none else if s (eO s i) = 59 then fP s d (eO s i + 1) else some (eO s i)
theorem mis_none {s : Nat → Nat} {i : Nat} : ∀ (l : List Nat) (j : Nat), mis s i l j = none → ∀ q, q < l.length → fitB (s (i + 1 + (j + q))) (l.getD q 0) = true
  | [], _, _, q, hq => absurd hq (by simp)
  | p :: l, j, h, q, hq => by
    unfold mis at h
    cases hf : fitB (s (i + 1 + j)) p
    · rw [hf, if_neg Bool.false_ne_true] at h
      cases h
    · rw [hf, if_pos rfl] at h
      cases q with
      | zero => exact hf
      | succ q =>
        have := mis_none l (j + 1) h q (by simpa using hq)
        rw [show j + 1 + q = j + (q + 1) by omega] at this
        exact this
theorem t_sh : ∀ k : Fin 6, k.val ≠ 5 → 3 ≤ (shp k.val).length ∧ (shp k.val).length ≤ 6 ∧ ∀ q : Fin 6, q.val < (shp k.val).length → fitB 0 ((shp k.val).getD q.val 0) = false := by decide +kernel
theorem fO_none {s : Nat → Nat} {L i : Nat} (hs : TS s L) (h : fO s i = none) : eO s i ≤ L ∧ i + 4 ≤ eO s i ∧ sK s i ≠ 5 ∧ ∀ q, q < (shp (sK s i)).length → fitB (s (i + 1 + q)) ((shp (sK s i)).getD q 0) = true := by
  unfold fO at h
  by_cases h5 : sK s i = 5
  · rw [if_pos h5] at h; cases h
  · rw [if_neg h5] at h
    have hm := mis_none _ 0 h
    obtain ⟨t1, t2, t3⟩ := t_sh ⟨sK s i, sK_lt s i⟩ h5
    simp only at t1 t2 t3
    unfold eO
    refine ⟨?_, by omega, h5, fun q hq => by have := hm q hq; rw [Nat.zero_add] at this; exact this⟩
    have hl := hm ((shp (sK s i)).length - 1) (by omega)
    have hz := t3 ⟨(shp (sK s i)).length - 1, by omega⟩ (show (shp (sK s i)).length - 1 < _ by omega)
    simp only at hz
    by_cases hle : i + 1 + (shp (sK s i)).length ≤ L
    · exact hle
    · rw [hs.2.2 (i + 1 + (0 + ((shp (sK s i)).length - 1))) (by omega), hz] at hl
      cases hl
section TXF
variable {w : XW} {s : Nat → Nat} {L : Nat}
theorem c_fP4 (hs : TS s L) (hT : TC w s L) : ∀ (d g i c : Nat), L + 1 ≤ i + d → d < g → i ≤ L → 5 * c ≤ i → fX1_faultPlace_4 g 10 (nI i) (nI c) w = some (oI (fP s d i), w) := by
  have hL := hs.1
  intro d
  induction d with
  | zero =>
    intro g i c h1 h2 h3 h4
    omega
  | succ d ih =>
    intro g i c h1 h2 h3 h4
    obtain ⟨g, rfl⟩ : ∃ x, g = x + 1 := ⟨g - 1, by omega⟩
    rw [fX1_faultPlace_4, if_neg (by rw [show (80 : Int32) = nI 80 by decide +kernel]; exact nI_ge (by omega) (by omega)), c_fO hs hT (by omega)]
    simp only [ob]
    rw [c_end hs hT (by omega)]
    simp only [ob]
    unfold fP
    cases hf : fO s i with
    | some p =>
      have hp : ¬ oI (some p) = -6 := by
        show ¬ nI p = -6
        have : p < 1000 := by
          unfold fO at hf
          by_cases h5 : sK s i = 5
          · rw [if_pos h5] at hf; cases hf; omega
          · rw [if_neg h5] at hf
            have hm : ∀ (l : List Nat) (j : Nat), mis s i l j = some p → p < i + 1 + j + l.length := by
              intro l
              induction l with
              | nil => intro j h; cases h
              | cons q l ih2 =>
                intro j h
                unfold mis at h
                cases hq : fitB (s (i + 1 + j)) q
                · rw [hq, if_neg Bool.false_ne_true] at h
                  cases h
                  rw [List.length_cons]
                  omega
                · rw [hq, if_pos rfl] at h
                  have := ih2 (j + 1) h
                  rw [List.length_cons]
                  omega
            have := hm _ 0 hf
            have t2 := t_le ⟨sK s i, sK_lt s i⟩
            simp only at t2
            omega
        exact nI_m6 (by omega)
      rw [if_neg hp]
    | none =>
      obtain ⟨o1, o2, o3, o4⟩ := fO_none hs hf
      rw [if_pos (show oI none = -6 from rfl)]
      rw [show i + 1 + (shp (sK s i)).length = eO s i from rfl, c_sign hs hT (by omega)]
      simp only [ob]
      rw [c_sign hs hT (by omega)]
      simp only [ob]
      have hlt := s_lt hs (eO s i)
      by_cases h0 : s (eO s i) = 0
      · rw [if_pos (by rw [h0, ← xl0]), if_pos h0]
        rfl
      · have hn0 : ¬ nI (s (eO s i)) = 0 := by rw [nI_z (by omega)]; exact h0
        rw [if_neg hn0, if_neg h0]
        by_cases h59 : s (eO s i) = 59
        · have hl : eO s i < L := by
            by_cases z : eO s i < L
            · exact z
            · exact absurd (hs.2.2 _ (by omega)) h0
          rw [if_pos (show nI (s (eO s i)) = 59 by rw [h59]; decide +kernel), if_pos h59, nI_1, nI_1, ih g (eO s i + 1) (c + 1) (by omega) (by omega) (by omega) (by omega)]
        · have hn : ¬ nI (s (eO s i)) = 59 := by
            rw [show (59 : Int32) = nI 59 by decide +kernel]
            exact fun z => h59 ((nI_eq (by omega) (by omega)).mp z)
          rw [if_neg hn, if_neg h59]
          rfl
theorem c_fP (hs : TS s L) (hT : TC w s L) : fX1_faultPlace 10 w = some (oI (fP s (L + 1) 0), w) := by
  have hL := hs.1
  obtain ⟨sg, ⟨a, b⟩, h⟩ := id hT
  have := c_fP4 hs hT (L + 1) 1000 0 0 (by omega) (by omega) (by omega) (by omega)
  rw [← xl0] at this
  unfold fX1_faultPlace
  rw [if_pos (xis_ok a), this]
end TXF
