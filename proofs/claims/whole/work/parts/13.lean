/-! WHAT THE FUNCTIONS ANSWER. First the values that the document speaks of, over a game's 72 numbers f, in the class' order: weights 0 to 2, told beliefs from 3, payoffs from 12, messages from 66, answers from 69. -/
theorem xl0 : (0 : Int32) = nI 0 := by decide +kernel
theorem xl1 : (1 : Int32) = nI 1 := by decide +kernel
theorem xl2 : (2 : Int32) = nI 2 := by decide +kernel
theorem xl3 : (3 : Int32) = nI 3 := by decide +kernel
theorem xl12 : (12 : Int32) = nI 12 := by decide +kernel
theorem xl27 : (27 : Int32) = nI 27 := by decide +kernel
theorem xl66 : (66 : Int32) = nI 66 := by decide +kernel
theorem xl69 : (69 : Int32) = nI 69 := by decide +kernel
theorem xl72 : (72 : Int32) = nI 72 := by decide +kernel
def xbs (b0 b1 b2 : Bool) : Int32 := (if b0 then 1 else 0) + (if b1 then 2 else 0) + (if b2 then 4 else 0)
def vH (f : Nat → Int32) (t : Nat) : Bool := !decide (f t ≤ 0)
def vS (f : Nat → Int32) (m t : Nat) : Bool := vH f t && decide (f (66 + t) = nI m)
def vAny (f : Nat → Int32) (m : Nat) : Bool := vS f m 0 || vS f m 1 || vS f m 2
def vB (f : Nat → Int32) (m t : Nat) : Int32 := if vAny f m then (if vS f m t then f t else 0) else f (3 + 3 * m + t)
def vP (f : Nat → Int32) (s t m a : Nat) : Int32 := f (12 + 27 * s + 9 * t + 3 * m + a)
def vWo (f : Nat → Int32) (m a : Nat) (b0 b1 b2 : Int32) : Int32 := b0 * vP f 1 0 m a + b1 * vP f 1 1 m a + b2 * vP f 1 2 m a
def vIb (x0 x1 x2 : Int32) (a : Nat) : Bool := if a = 0 then decide (x1 ≤ x0) && decide (x2 ≤ x0) else if a = 1 then decide (x0 ≤ x1) && decide (x2 ≤ x1) else decide (x0 ≤ x2) && decide (x1 ≤ x2)
def vB3 (x0 x1 x2 : Int32) : Int32 := xbs (vIb x0 x1 x2 0) (vIb x0 x1 x2 1) (vIb x0 x1 x2 2)
def vBest (f : Nat → Int32) (m : Nat) (b0 b1 b2 : Int32) : Int32 := vB3 (vWo f m 0 b0 b1 b2) (vWo f m 1 b0 b1 b2) (vWo f m 2 b0 b1 b2)
def vBA (f : Nat → Int32) (m : Nat) : Int32 := vBest f m (vB f m 0) (vB f m 1) (vB f m 2)
def vM (f : Nat → Int32) (t : Nat) : Nat := (f (66 + t)).toNatClampNeg
def vA (f : Nat → Int32) (m : Nat) : Nat := (f (69 + m)).toNatClampNeg
def vPf (f : Nat → Int32) (t m : Nat) : Int32 := vP f 0 t m (vA f m)
def vOw (f : Nat → Int32) (t : Nat) : Int32 := vPf f t (vM f t)
def vD1 (f : Nat → Int32) (t : Nat) : Nat := if vPf f t 1 ≤ vPf f t 0 then 0 else 1
def vDe (f : Nat → Int32) (t : Nat) : Nat := if vPf f t 2 ≤ vPf f t (vD1 f t) then vD1 f t else 2
def vUn (f : Nat → Int32) (t : Nat) : Bool := vH f t && !decide (vPf f t (vDe f t) ≤ vOw f t)
def vLo (f : Nat → Int32) : Int32 := if vUn f 0 then 0 else if vUn f 1 then 1 else if vUn f 2 then 2 else (-6)
def vHas (s : Int32) (k : Nat) : Bool := decide (((s >>> (nI k &&& 31)) &&& 1) = 1)
def vWr (f : Nat → Int32) : Int32 := if vHas (vBA f 0) (vA f 0) then (if vHas (vBA f 1) (vA f 1) then (if vHas (vBA f 2) (vA f 2) then (-6) else 2) else 1) else 0
def vHo (f : Nat → Int32) : Bool := decide (vLo f = (-6)) && decide (vWr f = (-6))
def vCn (b0 b1 b2 : Bool) : Int32 := (if b0 then 1 else 0) + (if b1 then 1 else 0) + (if b2 then 1 else 0)
def vKi (f : Nat → Int32) : Int32 := if vCn (vAny f 0) (vAny f 1) (vAny f 2) = 1 then 0 else if vCn (vAny f 0) (vAny f 1) (vAny f 2) = vCn (vH f 0) (vH f 1) (vH f 2) then 1 else 2
def vR1 (f : Nat → Int32) (t : Nat) : Int32 := f t * vP f 1 t (vM f t) (vA f (vM f t))
def vRs (f : Nat → Int32) : Int32 := 0 + vR1 f 0 + vR1 f 1 + vR1 f 2
/-- is an action possible at a message among the types of a set -/
def vPb (f : Nat → Int32) (m : Nat) (T0 T1 T2 : Bool) (a : Nat) : Bool := (List.range 125).any (fun k => !decide (k = 0) && (decide (k % 5 = 0) || T0) && (decide (k / 5 % 5 = 0) || T1) && (decide (k / 25 = 0) || T2) && vIb (vWo f m 0 (nI (k % 5)) (nI (k / 5 % 5)) (nI (k / 25))) (vWo f m 1 (nI (k % 5)) (nI (k / 5 % 5)) (nI (k / 25))) (vWo f m 2 (nI (k % 5)) (nI (k / 5 % 5)) (nI (k / 25))) a)
def vPo (f : Nat → Int32) (m : Nat) (T0 T1 T2 : Bool) : Int32 := xbs (vPb f m T0 T1 T2 0) (vPb f m T0 T1 T2 1) (vPb f m T0 T1 T2 2)
def vN1 (f : Nat → Int32) (m t a : Nat) : Bool := !vPb f m (vH f 0) (vH f 1) (vH f 2) a || !decide (vOw f t ≤ vP f 0 t m a)
def vNv (f : Nat → Int32) (m t : Nat) : Bool := !vAny f m && (vH f t && (vN1 f m t 0 && vN1 f m t 1 && vN1 f m t 2))
def vWi (f : Nat → Int32) (m t : Nat) : Bool := vH f t && !vNv f m t
def vG1 (f : Nat → Int32) (m t a : Nat) : Bool := !vPb f m (vWi f m 0) (vWi f m 1) (vWi f m 2) a || !decide (vP f 0 t m a ≤ vOw f t)
def vGt (f : Nat → Int32) (m t : Nat) : Bool := vWi f m t && (vG1 f m t 0 && vG1 f m t 1 && vG1 f m t 2)
def vBr (f : Nat → Int32) (m : Nat) : Bool := !vAny f m && (vGt f m 0 || vGt f m 1 || vGt f m 2)
def vRe (f : Nat → Int32) : Bool := !vBr f 0 && !vBr f 1 && !vBr f 2
/-- the plan's cells hold places -/
def Vd (f : Nat → Int32) : Prop := ∀ i, i < 6 → ∃ n, n < 3 ∧ f (66 + i) = nI n
theorem Vd.M {f : Nat → Int32} (h : Vd f) {t : Nat} (ht : t < 3) : f (66 + t) = nI (vM f t) ∧ vM f t < 3 := by
  obtain ⟨n, hn, e⟩ := h t (by omega)
  have : vM f t = n := by unfold vM; rw [e, nI_clamp (by omega)]
  exact ⟨by rw [this]; exact e, by omega⟩
theorem Vd.A {f : Nat → Int32} (h : Vd f) {m : Nat} (hm : m < 3) : f (69 + m) = nI (vA f m) ∧ vA f m < 3 := by
  obtain ⟨n, hn, e⟩ := h (3 + m) (by omega)
  have e' : f (69 + m) = nI n := by rw [← e]; congr 1; omega
  have : vA f m = n := by unfold vA; rw [e', nI_clamp (by omega)]
  exact ⟨by rw [this]; exact e', by omega⟩
theorem vDe_lt (f : Nat → Int32) (t : Nat) : vDe f t < 3 := by unfold vDe vD1; split <;> (try split) <;> omega
theorem lt3 {k : Nat} (h : k < 3) : k = 0 ∨ k = 1 ∨ k = 2 := by omega
theorem vHas_bs : ∀ b0 b1 b2 : Bool, vHas (xbs b0 b1 b2) 0 = b0 ∧ vHas (xbs b0 b1 b2) 1 = b1 ∧ vHas (xbs b0 b1 b2) 2 = b2 := by decide +kernel
theorem xbs_0 : ∀ b0 b1 b2 : Bool, xbs b0 b1 b2 = 0 ↔ (b0 || b1 || b2) = false := by decide +kernel
/-- not by rfl: the kernel must not compare what is bound -/
theorem ob {α β : Type} (x : α) (f : α → Option β) : (some x).bind f = f x := by
  have h : ∀ o : Option α, o = some x → o.bind f = f x := by intro o ho; subst ho; rfl
  exact h _ rfl
/-! the world's steps -/
def xIsG (w : XW) (a ca pa : Nat) (f p : Nat → Int32) : Prop := xis w a 0 = true ∧ xgR w a 0 0 = some ca ∧ xgR w a 0 1 = some pa ∧ w[ca]? = some (.inl (0, 72, f)) ∧ w[pa]? = some (.inl (0, 24, p))
theorem xis_ok {w : XW} {a c : Nat} {fs : List Value} (h : w[a]? = some (.inr (c, fs))) : xis w a c = true := by
  unfold xis; rw [h]; exact beq_iff_eq.mpr rfl
theorem xgR_ok {w : XW} {a c k x : Nat} {fs : List Value} (h : w[a]? = some (.inr (c, fs))) (hk : fs[k]? = some (.ref x)) : xgR w a c k = some x := by
  unfold xgR; rw [h]; simp only [hk]; rfl
theorem xgI_ok {w : XW} {a c k : Nat} {x : Int32} {fs : List Value} (h : w[a]? = some (.inr (c, fs))) (hk : fs[k]? = some (.int x)) : xgI w a c k = some x := by
  unfold xgI; rw [h]; simp only [hk]; rfl
theorem xpI_ok {w : XW} {a c k : Nat} {x : Int32} {fs : List Value} (h : w[a]? = some (.inr (c, fs))) (hk : k < fs.length) : xpI w a c k x = some (w.set a (.inr (c, fs.set k (.int x)))) := by
  unfold xpI; rw [h]; simp [hk]
theorem xaI_ok {w : XW} {a n k : Nat} {f : Nat → Int32} (h : w[a]? = some (.inl (0, n, f))) (hk : k < n) (hn : n < 2 ^ 31) : xaI w a (nI k) = some (f k) := by
  unfold xaI; rw [h]
  have e : (nI k).toNatClampNeg = k := nI_clamp (by omega)
  simp only [e]
  rw [if_neg]
  intro z
  rcases z with z | z
  · exact nI_pos (by omega) z
  · omega
theorem xaZ_ok {w : XW} {a n k : Nat} {f : Nat → Int32} (h : w[a]? = some (.inl (1, n, f))) (hk : k < n) (hn : n < 2 ^ 31) : xaZ w a (nI k) = some (f k) := by
  unfold xaZ; rw [h]
  have e : (nI k).toNatClampNeg = k := nI_clamp (by omega)
  simp only [e]
  rw [if_neg]
  intro z
  rcases z with z | z
  · exact nI_pos (by omega) z
  · omega
theorem xsI_ok {w : XW} {a n k : Nat} {f : Nat → Int32} {x : Int32} (h : w[a]? = some (.inl (0, n, f))) (hk : k < n) (hn : n < 2 ^ 31) : xsI w a (nI k) x = some (w.set a (.inl (0, n, xct n (upd f k x)))) := by
  unfold xsI; rw [h]
  have e : (nI k).toNatClampNeg = k := nI_clamp (by omega)
  simp only [e]
  rw [if_neg]
  intro z
  rcases z with z | z
  · exact nI_pos (by omega) z
  · omega
theorem xsZ_ok {w : XW} {a n k : Nat} {f : Nat → Int32} {x : Int32} (h : w[a]? = some (.inl (1, n, f))) (hk : k < n) (hn : n < 2 ^ 31) (hx : x = 0 ∨ x = 1) : xsZ w a (nI k) x = some (w.set a (.inl (1, n, xct n (upd f k x)))) := by
  unfold xsZ; rw [h]
  have e : (nI k).toNatClampNeg = k := nI_clamp (by omega)
  simp only [e]
  rw [if_neg]
  intro z
  rcases z with z | z | z
  · exact nI_pos (by omega) z
  · omega
  · exact z hx
theorem xaL_ok {w : XW} {a n : Nat} {f : Nat → Int32} (h : w[a]? = some (.inl (0, n, f))) : xaL w a = some (nI n) := by
  unfold xaL; rw [h]; rfl
theorem xaL_ok1 {w : XW} {a n : Nat} {f : Nat → Int32} (h : w[a]? = some (.inl (1, n, f))) : xaL w a = some (nI n) := by
  unfold xaL; rw [h]; rfl
/-! the class' reads -/
theorem s_in (i j : Int32) (w : XW) : fX3_isWithin i j w = some (if i < 0 then 0 else if j ≤ i then 0 else 1, w) := by
  unfold fX3_isWithin
  split
  · rfl
  · split <;> rfl
theorem s_inN {k n : Nat} (h : k < n) (hn : n < 2 ^ 31) (w : XW) : fX3_isWithin (nI k) (nI n) w = some (1, w) := by
  rw [s_in, if_neg (nI_pos (by omega)), if_neg (nI_ge h hn)]
theorem s_has (s : Int32) (k : Nat) (w : XW) : fX3_has s (nI k) w = some (if vHas s k then 1 else 0, w) := by
  unfold fX3_has vHas
  by_cases h : ((s >>> (nI k &&& 31)) &&& 1) = 1
  · rw [if_pos h, decide_eq_true h]; rfl
  · rw [if_neg h, decide_eq_false h]; rfl
theorem s_cell {w : XW} {a ca pa : Nat} {f p : Nat → Int32} (h : xIsG w a ca pa f p) {k : Nat} (hk : k < 72) : fX0_cell a (nI k) w = some (f k, w) := by
  obtain ⟨h1, h2, h3, h4, h5⟩ := h
  unfold fX0_cell
  rw [if_pos h1, if_neg (nI_pos (by omega)), if_neg (by rw [xl72]; exact nI_ge hk (by omega)), h2]
  simp only [ob]
  rw [xaI_ok h4 hk (by omega)]
  rfl
theorem s_cellL {w : XW} {a ca pa : Nat} {f p : Nat → Int32} (h : xIsG w a ca pa f p) (k : Nat) {i : Int32} (hi : i = nI k) (hk : k < 72) : fX0_cell a i w = some (f k, w) := by
  rw [hi]; exact s_cell h hk
theorem s_weightSum {w : XW} {a ca pa : Nat} {f p : Nat → Int32} (h : xIsG w a ca pa f p) : fX0_weightSum a w = some (0 + f 0 + f 1 + f 2, w) := by
  have c0 := s_cellL h 0 xl0 (by omega)
  have c1 := s_cellL h 1 xl1 (by omega)
  have c2 := s_cellL h 2 xl2 (by omega)
  unfold fX0_weightSum
  rw [if_pos h.1]
  simp [fX0_weightSum_4, fX0_weightPlace, c0, c1, c2]
theorem s_toldPlace (m t : Nat) (w : XW) : fX0_toldPlace (nI m) (nI t) w = some (nI (3 + 3 * m + t), w) := by
  unfold fX0_toldPlace
  rw [xl3, pk_mul, nI_add, nI_add, Nat.mul_comm]
theorem s_payPlace (s t m a : Nat) (w : XW) : fX0_payPlace (nI s) (nI t) (nI m) (nI a) w = some (nI (12 + 27 * s + 9 * t + 3 * m + a), w) := by
  unfold fX0_payPlace
  rw [xl3, xl12, xl27]
  simp only [pk_mul, nI_add]
  rw [show 12 + s * 27 + (t * 3 + m) * 3 + a = 12 + 27 * s + 9 * t + 3 * m + a by omega]
theorem s_toldSum {w : XW} {a ca pa : Nat} {f p : Nat → Int32} (h : xIsG w a ca pa f p) {m : Nat} (hm : m < 3) : fX0_toldSum a (nI m) w = some (0 + f (3 + 3 * m) + f (3 + 3 * m + 1) + f (3 + 3 * m + 2), w) := by
  have c0 := s_cell h (k := 3 + 3 * m) (by omega)
  have c1 := s_cell h (k := 3 + 3 * m + 1) (by omega)
  have c2 := s_cell h (k := 3 + 3 * m + 2) (by omega)
  have t0 : ∀ w, fX0_toldPlace (nI m) 0 w = some (nI (3 + 3 * m), w) := s_toldPlace m 0
  have t1 : ∀ w, fX0_toldPlace (nI m) 1 w = _ := s_toldPlace m 1
  have t2 : ∀ w, fX0_toldPlace (nI m) 2 w = _ := s_toldPlace m 2
  unfold fX0_toldSum
  rw [if_pos h.1]
  simp [fX0_toldSum_4, t0, t1, t2, c0, c1, c2]
theorem s_sendersOf {w : XW} {a ca pa : Nat} {f p : Nat → Int32} (h : xIsG w a ca pa f p) (m : Nat) : fX0_sendersOf a (nI m) w = some (xbs (vS f m 0) (vS f m 1) (vS f m 2), w) := by
  have c0 := s_cellL h 0 xl0 (by omega)
  have c1 := s_cellL h 1 xl1 (by omega)
  have c2 := s_cellL h 2 xl2 (by omega)
  have d0 := s_cellL h 66 xl66 (by omega)
  have d1 := s_cellL (i := 67) h 67 (by decide +kernel) (by omega)
  have d2 := s_cellL (i := 68) h 68 (by decide +kernel) (by omega)
  unfold fX0_sendersOf
  rw [if_pos h.1]
  simp [fX0_sendersOf_4, fX0_weightPlace, fX0_messagePlace, c0, c1, c2, d0, d1, d2]
  by_cases h0 : f 0 ≤ 0 <;> by_cases h1 : f 1 ≤ 0 <;> by_cases h2 : f 2 ≤ 0 <;> by_cases g0 : f 66 = nI m <;> by_cases g1 : f 67 = nI m <;> by_cases g2 : f 68 = nI m <;> simp [vS, vH, h0, h1, h2, g0, g1, g2, xbs] <;> decide +kernel
theorem s_typesThere {w : XW} {a ca pa : Nat} {f p : Nat → Int32} (h : xIsG w a ca pa f p) : fX0_typesThere a w = some (xbs (vH f 0) (vH f 1) (vH f 2), w) := by
  have c0 := s_cellL h 0 xl0 (by omega)
  have c1 := s_cellL h 1 xl1 (by omega)
  have c2 := s_cellL h 2 xl2 (by omega)
  unfold fX0_typesThere
  rw [if_pos h.1]
  simp [fX0_typesThere_4, fX0_weightPlace, c0, c1, c2]
  by_cases h0 : f 0 ≤ 0 <;> by_cases h1 : f 1 ≤ 0 <;> by_cases h2 : f 2 ≤ 0 <;> simp [vH, h0, h1, h2, xbs] <;> decide +kernel
theorem s_messagesSent {w : XW} {a ca pa : Nat} {f p : Nat → Int32} (h : xIsG w a ca pa f p) : fX0_messagesSent a w = some (xbs (vAny f 0) (vAny f 1) (vAny f 2), w) := by
  have c0 : fX0_sendersOf a 0 w = _ := s_sendersOf h 0
  have c1 : fX0_sendersOf a 1 w = _ := s_sendersOf h 1
  have c2 : fX0_sendersOf a 2 w = _ := s_sendersOf h 2
  unfold fX0_messagesSent
  rw [if_pos h.1]
  have e : ∀ m, (xbs (vS f m 0) (vS f m 1) (vS f m 2) = 0) = (vAny f m = false) := fun m => propext (xbs_0 _ _ _)
  simp [fX0_messagesSent_4, c0, c1, c2, e]
  cases h0 : vAny f 0 <;> cases h1 : vAny f 1 <;> cases h2 : vAny f 2 <;> simp [xbs] <;> decide +kernel
theorem s_bitCount : ∀ b0 b1 b2 : Bool, ∀ w : XW, fJ6_bitCount_0f7a4 (xbs b0 b1 b2) w = some (vCn b0 b1 b2, w) := by
  intro b0 b1 b2 w
  unfold fJ6_bitCount_0f7a4
  congr 2
  cases b0 <;> cases b1 <;> cases b2 <;> decide +kernel
theorem s_kind {w : XW} {a ca pa : Nat} {f p : Nat → Int32} (h : xIsG w a ca pa f p) : fX0_kind a w = some (vKi f, w) := by
  unfold fX0_kind vKi
  rw [if_pos h.1, s_messagesSent h]
  simp only [ob]
  rw [s_bitCount]
  simp only [ob]
  rw [s_typesThere h]
  simp only [ob]
  rw [s_bitCount]
  simp only [ob]
  split
  · rfl
  · split <;> rfl
theorem s_beliefWeight {w : XW} {a ca pa : Nat} {f p : Nat → Int32} (h : xIsG w a ca pa f p) {m t : Nat} (hm : m < 3) (ht : t < 3) : fX0_beliefWeight a (nI m) (nI t) w = some (vB f m t, w) := by
  have e : (xbs (vS f m 0) (vS f m 1) (vS f m 2) = 0) = (vAny f m = false) := propext (xbs_0 _ _ _)
  have eh : vHas (xbs (vS f m 0) (vS f m 1) (vS f m 2)) t = vS f m t := by
    have := vHas_bs (vS f m 0) (vS f m 1) (vS f m 2)
    rcases lt3 ht with rfl | rfl | rfl
    · exact this.1
    · exact this.2.1
    · exact this.2.2
  unfold fX0_beliefWeight vB
  rw [if_pos h.1, s_sendersOf h m]
  simp only [ob, e]
  rw [s_toldPlace, s_has, eh]
  simp only [ob]
  rw [s_cell h (by omega)]
  unfold fX0_weightPlace
  simp only [ob]
  rw [s_cell h (by omega)]
  simp only [ob]
  cases vAny f m <;> cases vS f m t <;> simp
theorem s_beliefSum {w : XW} {a ca pa : Nat} {f p : Nat → Int32} (h : xIsG w a ca pa f p) {m : Nat} (hm : m < 3) : fX0_beliefSum a (nI m) w = some (0 + vB f m 0 + vB f m 1 + vB f m 2, w) := by
  have c0 : fX0_beliefWeight a (nI m) 0 w = _ := s_beliefWeight h (t := 0) hm (by omega)
  have c1 : fX0_beliefWeight a (nI m) 1 w = _ := s_beliefWeight h (t := 1) hm (by omega)
  have c2 : fX0_beliefWeight a (nI m) 2 w = _ := s_beliefWeight h (t := 2) hm (by omega)
  unfold fX0_beliefSum
  rw [if_pos h.1]
  simp [fX0_beliefSum_4, c0, c1, c2]
theorem s_worthBy {w : XW} {a ca pa : Nat} {f p : Nat → Int32} (h : xIsG w a ca pa f p) {m b : Nat} (hm : m < 3) (hb : b < 3) (x0 x1 x2 : Int32) : fX0_worthBy a (nI m) (nI b) x0 x1 x2 w = some (vWo f m b x0 x1 x2, w) := by
  have t0 : ∀ w, fX0_payPlace 1 0 (nI m) (nI b) w = _ := s_payPlace 1 0 m b
  have t1 : ∀ w, fX0_payPlace 1 1 (nI m) (nI b) w = _ := s_payPlace 1 1 m b
  have t2 : ∀ w, fX0_payPlace 1 2 (nI m) (nI b) w = _ := s_payPlace 1 2 m b
  unfold fX0_worthBy
  rw [if_pos h.1, t0]
  simp only [ob]
  rw [s_cell h (by omega)]
  simp only [ob]
  rw [t1]
  simp only [ob]
  rw [s_cell h (by omega)]
  simp only [ob]
  rw [t2]
  simp only [ob]
  rw [s_cell h (by omega)]
  rfl
/-- the three worths, read in order -/
theorem vB3_run (x0 x1 x2 : Int32) : (let s1 := if x1 ≤ x0 then (if x1 = x0 then (1 : Int32) ||| ((1 : Int32) <<< ((1 : Int32) &&& 31)) else 1) else (1 : Int32) <<< ((1 : Int32) &&& 31); let m1 := if x1 ≤ x0 then x0 else x1; if x2 ≤ m1 then (if x2 = m1 then s1 ||| ((1 : Int32) <<< ((2 : Int32) &&& 31)) else s1) else (1 : Int32) <<< ((2 : Int32) &&& 31)) = vB3 x0 x1 x2 := by
  simp only [vB3, vIb, xbs, Int32.le_iff_toInt_le, ← Int32.toInt_inj]
  by_cases a1 : x1.toInt ≤ x0.toInt <;> by_cases a2 : x1.toInt = x0.toInt <;> by_cases a3 : x2.toInt ≤ x0.toInt <;> by_cases a4 : x2.toInt = x0.toInt <;> by_cases a5 : x2.toInt ≤ x1.toInt <;> by_cases a6 : x2.toInt = x1.toInt <;> first
    | (exfalso; omega)
    | (simp [a1, a2, a3, a4, a5, a6, show (x0.toInt = x1.toInt) = (x1.toInt = x0.toInt) from propext eq_comm, show (x0.toInt ≤ x1.toInt) = (x1.toInt = x0.toInt ∨ ¬ x1.toInt ≤ x0.toInt) from propext (by omega), show (x0.toInt ≤ x2.toInt) = (x2.toInt = x0.toInt ∨ ¬ x2.toInt ≤ x0.toInt) from propext (by omega), show (x1.toInt ≤ x2.toInt) = (x2.toInt = x1.toInt ∨ ¬ x2.toInt ≤ x1.toInt) from propext (by omega)] <;> decide +kernel)
theorem s_bestBy {w : XW} {a ca pa : Nat} {f p : Nat → Int32} (h : xIsG w a ca pa f p) {m : Nat} (hm : m < 3) (x0 x1 x2 : Int32) : fX0_bestBy a (nI m) x0 x1 x2 w = some (vBest f m x0 x1 x2, w) := by
  have c0 : fX0_worthBy a (nI m) 0 x0 x1 x2 w = _ := s_worthBy h (b := 0) hm (by omega) x0 x1 x2
  have c1 : fX0_worthBy a (nI m) 1 x0 x1 x2 w = _ := s_worthBy h (b := 1) hm (by omega) x0 x1 x2
  have c2 : fX0_worthBy a (nI m) 2 x0 x1 x2 w = _ := s_worthBy h (b := 2) hm (by omega) x0 x1 x2
  unfold fX0_bestBy vBest
  rw [if_pos h.1]
  generalize vWo f m 0 x0 x1 x2 = y0 at c0 ⊢
  generalize vWo f m 1 x0 x1 x2 = y1 at c1 ⊢
  generalize vWo f m 2 x0 x1 x2 = y2 at c2 ⊢
  rw [← vB3_run]
  have z1 : (((1 : Int32) <<< ((1 : Int32) &&& 31)) = 0) = False := by decide +kernel
  have z2 : ((1 : Int32) = 0) = False := by decide +kernel
  have z3 : ((1 : Int32) ||| ((1 : Int32) <<< ((1 : Int32) &&& 31)) = 0) = False := by decide +kernel
  simp [fX0_bestBy_9, c0, c1, c2, z1, z3]
  by_cases a1 : y1 ≤ y0 <;> by_cases a2 : y1 = y0 <;> by_cases a3 : y2 ≤ y0 <;> by_cases a4 : y2 = y0 <;> by_cases a5 : y2 ≤ y1 <;> by_cases a6 : y2 = y1 <;> simp [a1, a2, a3, a4, a5, a6, z1, z3] <;> (split <;> (try split) <;> simp_all)
theorem s_worthOf {w : XW} {a ca pa : Nat} {f p : Nat → Int32} (h : xIsG w a ca pa f p) {m b : Nat} (hm : m < 3) (hb : b < 3) : fX0_worthOf a (nI m) (nI b) w = some (vWo f m b (vB f m 0) (vB f m 1) (vB f m 2), w) := by
  have c0 : fX0_beliefWeight a (nI m) 0 w = _ := s_beliefWeight h (t := 0) hm (by omega)
  have c1 : fX0_beliefWeight a (nI m) 1 w = _ := s_beliefWeight h (t := 1) hm (by omega)
  have c2 : fX0_beliefWeight a (nI m) 2 w = _ := s_beliefWeight h (t := 2) hm (by omega)
  unfold fX0_worthOf
  rw [if_pos h.1]
  simp [c0, c1, c2, s_worthBy h hm hb]
theorem s_bestActions {w : XW} {a ca pa : Nat} {f p : Nat → Int32} (h : xIsG w a ca pa f p) {m : Nat} (hm : m < 3) : fX0_bestActions a (nI m) w = some (vBA f m, w) := by
  have c0 : fX0_beliefWeight a (nI m) 0 w = _ := s_beliefWeight h (t := 0) hm (by omega)
  have c1 : fX0_beliefWeight a (nI m) 1 w = _ := s_beliefWeight h (t := 1) hm (by omega)
  have c2 : fX0_beliefWeight a (nI m) 2 w = _ := s_beliefWeight h (t := 2) hm (by omega)
  unfold fX0_bestActions vBA
  rw [if_pos h.1]
  simp [c0, c1, c2, s_bestBy h hm]
theorem s_answerPlace (m : Nat) (w : XW) : fX0_answerPlace (nI m) w = some (nI (69 + m), w) := by
  unfold fX0_answerPlace
  rw [xl69, nI_add]
theorem s_messagePlace (t : Nat) (w : XW) : fX0_messagePlace (nI t) w = some (nI (66 + t), w) := by
  unfold fX0_messagePlace
  rw [xl66, nI_add]
theorem s_ans {w : XW} {a ca pa : Nat} {f p : Nat → Int32} (h : xIsG w a ca pa f p) (hv : Vd f) {m : Nat} (hm : m < 3) : fX0_cell a (nI (69 + m)) w = some (nI (vA f m), w) := by
  rw [s_cell h (by omega), (hv.A hm).1]
theorem s_msg {w : XW} {a ca pa : Nat} {f p : Nat → Int32} (h : xIsG w a ca pa f p) (hv : Vd f) {t : Nat} (ht : t < 3) : fX0_cell a (nI (66 + t)) w = some (nI (vM f t), w) := by
  rw [s_cell h (by omega), (hv.M ht).1]
theorem s_wrong1 {w : XW} {a ca pa : Nat} {f p : Nat → Int32} (h : xIsG w a ca pa f p) (hv : Vd f) : fX0_lowestWrongMessage a w = some (vWr f, w) := by
  have c0 : fX0_bestActions a 0 w = _ := s_bestActions h (m := 0) (by omega)
  have c1 : fX0_bestActions a 1 w = _ := s_bestActions h (m := 1) (by omega)
  have c2 : fX0_bestActions a 2 w = _ := s_bestActions h (m := 2) (by omega)
  have p0 : ∀ w, fX0_answerPlace 0 w = _ := s_answerPlace 0
  have p1 : ∀ w, fX0_answerPlace 1 w = _ := s_answerPlace 1
  have p2 : ∀ w, fX0_answerPlace 2 w = _ := s_answerPlace 2
  have d0 := s_ans h hv (m := 0) (by omega)
  have d1 := s_ans h hv (m := 1) (by omega)
  have d2 := s_ans h hv (m := 2) (by omega)
  unfold fX0_lowestWrongMessage vWr
  rw [if_pos h.1]
  rw [show (1000 : Nat) = 999 + 1 from rfl, fX0_lowestWrongMessage_2, if_neg (by decide +kernel), c0]
  simp only [ob]
  rw [p0]
  simp only [ob]
  rw [d0]
  simp only [ob]
  rw [s_has]
  simp only [ob]
  cases vHas (vBA f 0) (vA f 0)
  · simp
  simp only [if_true]
  rw [if_neg (by decide +kernel), show (999 : Nat) = 998 + 1 from rfl, fX0_lowestWrongMessage_2, if_neg (by decide +kernel), show (0 : Int32) + 1 = 1 from by decide +kernel, c1]
  simp only [ob]
  rw [p1]
  simp only [ob]
  rw [d1]
  simp only [ob]
  rw [s_has]
  simp only [ob]
  cases vHas (vBA f 1) (vA f 1)
  · simp
  simp only [if_true]
  rw [if_neg (by decide +kernel), show (998 : Nat) = 997 + 1 from rfl, fX0_lowestWrongMessage_2, if_neg (by decide +kernel), show (1 : Int32) + 1 = 2 from by decide +kernel, c2]
  simp only [ob]
  rw [p2]
  simp only [ob]
  rw [d2]
  simp only [ob]
  rw [s_has]
  simp only [ob]
  cases vHas (vBA f 2) (vA f 2)
  · simp
  simp only [if_true]
  rw [if_neg (by decide +kernel), show (997 : Nat) = 996 + 1 from rfl, fX0_lowestWrongMessage_2, if_pos (by decide +kernel)]
theorem s_payoffBy {w : XW} {a ca pa : Nat} {f p : Nat → Int32} (h : xIsG w a ca pa f p) (hv : Vd f) {t m : Nat} (ht : t < 3) (hm : m < 3) : fX0_payoffBy a (nI t) (nI m) w = some (vPf f t m, w) := by
  have t0 : ∀ b w, fX0_payPlace 0 (nI t) (nI m) (nI b) w = _ := s_payPlace 0 t m
  have hA := (hv.A hm).2
  unfold fX0_payoffBy vPf vP
  rw [if_pos h.1, s_answerPlace]
  simp only [ob]
  rw [s_ans h hv hm]
  simp only [ob]
  rw [t0]
  simp only [ob]
  rw [s_cell h (by omega)]
  simp only [ob]
theorem s_ownPayoff {w : XW} {a ca pa : Nat} {f p : Nat → Int32} (h : xIsG w a ca pa f p) (hv : Vd f) {t : Nat} (ht : t < 3) : fX0_ownPayoff a (nI t) w = some (vOw f t, w) := by
  unfold fX0_ownPayoff vOw
  rw [if_pos h.1, s_messagePlace]
  simp only [ob]
  rw [s_msg h hv ht]
  simp only [ob]
  rw [s_payoffBy h hv ht (hv.M ht).2]
  rfl
theorem s_dearest {w : XW} {a ca pa : Nat} {f p : Nat → Int32} (h : xIsG w a ca pa f p) (hv : Vd f) {t : Nat} (ht : t < 3) : fX0_dearestMessage a (nI t) w = some (nI (vDe f t), w) := by
  have c0 : fX0_payoffBy a (nI t) 0 w = _ := s_payoffBy h hv (m := 0) ht (by omega)
  have c1 : fX0_payoffBy a (nI t) 1 w = _ := s_payoffBy h hv (m := 1) ht (by omega)
  have c2 : fX0_payoffBy a (nI t) 2 w = _ := s_payoffBy h hv (m := 2) ht (by omega)
  unfold fX0_dearestMessage vDe vD1
  rw [if_pos h.1]
  simp [fX0_dearestMessage_4, c0, c1, c2]
  by_cases a1 : vPf f t 1 ≤ vPf f t 0
  · by_cases a2 : vPf f t 2 ≤ vPf f t 0 <;> simp [a1, a2, c0, c1, c2] <;> rfl
  · by_cases a2 : vPf f t 2 ≤ vPf f t 1 <;> simp [a1, a2, c0, c1, c2] <;> rfl
theorem s_better {w : XW} {a ca pa : Nat} {f p : Nat → Int32} (h : xIsG w a ca pa f p) (hv : Vd f) : fX0_lowestBetterType a w = some (vLo f, w) := by
  have step : ∀ (g t : Nat), t < 3 → fX0_lowestBetterType_2 (g + 1) a (nI t) w = if vUn f t then some (nI t, w) else fX0_lowestBetterType_2 g a (nI (t + 1)) w := by
    intro g t ht
    rw [fX0_lowestBetterType_2, if_neg (by rw [xl3]; exact nI_ge ht (by omega))]
    unfold fX0_weightPlace
    simp only [ob]
    rw [s_cell h (by omega)]
    simp only [ob]
    rw [s_dearest h hv ht]
    simp only [ob]
    rw [s_payoffBy h hv ht (vDe_lt f t)]
    simp only [ob]
    rw [s_ownPayoff h hv ht]
    simp only [ob, nI_1]
    unfold vUn vH
    by_cases a1 : f t ≤ 0 <;> by_cases a2 : vPf f t (vDe f t) ≤ vOw f t <;> simp [a1, a2]
  unfold fX0_lowestBetterType vLo
  rw [if_pos h.1]
  show fX0_lowestBetterType_2 (999 + 1) a (nI 0) w = _
  rw [step 999 0 (by omega), step 998 1 (by omega), step 997 2 (by omega)]
  cases vUn f 0
  · cases vUn f 1
    · cases vUn f 2
      · simp only [Bool.false_eq_true, if_false]
        rw [fX0_lowestBetterType_2, if_pos (by decide +kernel)]
      · simp; rfl
    · simp; rfl
  · simp; rfl
theorem s_isHolding {w : XW} {a ca pa : Nat} {f p : Nat → Int32} (h : xIsG w a ca pa f p) (hv : Vd f) : fX0_isHolding a w = some (if vHo f then 1 else 0, w) := by
  unfold fX0_isHolding vHo
  rw [if_pos h.1, s_better h hv]
  simp only [ob]
  rw [s_wrong1 h hv]
  simp only [ob]
  by_cases a1 : vLo f = -6 <;> by_cases a2 : vWr f = -6 <;> simp [a1, a2]
theorem s_receiverSum {w : XW} {a ca pa : Nat} {f p : Nat → Int32} (h : xIsG w a ca pa f p) (hv : Vd f) : fX0_receiverSum a w = some (vRs f, w) := by
  have step : ∀ (g t : Nat) (x : Int32), t < 3 → fX0_receiverSum_4 (g + 1) a x (nI t) w = fX0_receiverSum_4 g a (x + vR1 f t) (nI (t + 1)) w := by
    intro g t x ht
    have hM := (hv.M ht).2
    have hA := (hv.A hM).2
    have t0 : ∀ w, fX0_payPlace 1 (nI t) (nI (vM f t)) (nI (vA f (vM f t))) w = _ := s_payPlace 1 t (vM f t) (vA f (vM f t))
    rw [fX0_receiverSum_4, if_neg (by rw [xl3]; exact nI_ge ht (by omega)), s_messagePlace]
    simp only [ob]
    rw [s_msg h hv ht]
    simp only [ob]
    rw [s_answerPlace]
    simp only [ob]
    rw [s_ans h hv hM]
    unfold fX0_weightPlace
    simp only [ob]
    rw [s_cell h (by omega)]
    simp only [ob]
    rw [t0]
    simp only [ob]
    rw [s_cell h (by omega), nI_1]
    simp only [ob, vR1, vP]
  unfold fX0_receiverSum vRs
  rw [if_pos h.1]
  show fX0_receiverSum_4 (999 + 1) a 0 (nI 0) w = _
  rw [step 999 0 0 (by omega), step 998 1 _ (by omega), step 997 2 _ (by omega), fX0_receiverSum_4, if_pos (by decide +kernel)]
