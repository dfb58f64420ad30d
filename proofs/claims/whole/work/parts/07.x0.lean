def fX0_weightPlace (i0 : Int32) (w : XW) : Option (Int32 × XW) :=
  some (i0, w)
theorem np_X0_weightPlace : (parseMethodDescriptor yX0_weightPlace.desc).map (fun d => d.parameters.length) = some 1 := by decide +kernel
theorem hy_X0_weightPlace : yX0_weightPlace.cls ≠ "java/lang/invoke/MethodHandle" ∧ yX0_weightPlace.cls ≠ "java/lang/invoke/VarHandle" := ⟨by decide +kernel, by decide +kernel⟩
set_option maxRecDepth 20000 in
theorem eX0_weightPlace {cx : CX} {i0 : Int32} {w : XW} {R9 : (Int32 × XW)} (h : fX0_weightPlace i0 w = some R9) : Ct yX0_weightPlace cX0_weightPlace 1 (some .int) 0 0 cx [.int i0] w (some (.int R9.1)) R9.2 := by
  refine Ct_of (by decide +kernel) (Nat.le_of_ble_eq_true rfl) (fun K B hR => ?_)
  rw [fX0_weightPlace] at h
  show Wx K cx 1 w.length 0 [(0, .int i0)] [] w
  refine x_iload_n (pc := 0) B 0 dX0_weightPlace_0 rfl rfl ?_
  exact x_iret (pc := 1) B hR dX0_weightPlace_1 (xzI _) h
def fX0_cell (a0 : Nat) (i1 : Int32) (w : XW) : Option (Int32 × XW) := if xis w a0 0 = true then
  if i1 < (0 : Int32) then
    some ((0 : Int32), w)
  else
  if (72 : Int32) ≤ i1 then
    some ((0 : Int32), w)
  else
  (xgR w a0 0 0).bind fun v1 =>
  (xaI w v1 i1).bind fun v2 =>
  some (v2, w)
  else none
theorem iX0_cell {a0 : Nat} {i1 : Int32} {w : XW} {R9 : (Int32 × XW)} (h : fX0_cell a0 i1 w = some R9) : xis w a0 0 = true := by
  unfold fX0_cell at h
  rcases xite h with ⟨hc, h⟩ | ⟨hc, h⟩
  · exact hc
  · exact absurd h (by simp)
theorem np_X0_cell : (parseMethodDescriptor yX0_cell.desc).map (fun d => d.parameters.length) = some 1 := by decide +kernel
theorem hy_X0_cell : yX0_cell.cls ≠ "java/lang/invoke/MethodHandle" ∧ yX0_cell.cls ≠ "java/lang/invoke/VarHandle" := ⟨by decide +kernel, by decide +kernel⟩
set_option maxRecDepth 20000 in
theorem eX0_cell {cx : CX} {a0 : Nat} {i1 : Int32} {w : XW} {R9 : (Int32 × XW)} (h : fX0_cell a0 i1 w = some R9) : Ct yX0_cell cX0_cell 2 (some .int) 0 0 cx [.ref a0, .int i1] w (some (.int R9.1)) R9.2 := by
  refine Ct_of (by decide +kernel) (Nat.le_of_ble_eq_true rfl) (fun K B hR => ?_)
  rw [fX0_cell] at h
  show Wx K cx 2 w.length 0 [(0, .ref a0), (1, .int i1)] [] w
  rcases xite h with ⟨hc, h⟩ | ⟨hc, h⟩
  · skip
    refine x_iload_n (pc := 0) B 1 dX0_cell_0 rfl rfl ?_
    rcases xite h with ⟨hc, h⟩ | ⟨hc, h⟩
    · refine x_if_lt_t (tgt := 19) (pc := 1) B dX0_cell_1 (by decide) hc ?_
      refine x_iconst (pc := 19) B dX0_cell_19 xk_iconst_0 ?_
      exact x_iret (pc := 20) B hR dX0_cell_20 (xzI _) h
    · refine x_if_lt_f (pc := 1) B 19 dX0_cell_1 (by decide) hc ?_
      refine x_iload_n (pc := 4) B 1 dX0_cell_4 rfl rfl ?_
      refine x_bipush (pc := 5) B dX0_cell_5 xk_bipush_72 ?_
      rcases xite h with ⟨hc, h⟩ | ⟨hc, h⟩
      · refine x_icmp_ge_t (tgt := 19) (pc := 7) B dX0_cell_7 (by decide) hc ?_
        refine x_iconst (pc := 19) B dX0_cell_19 xk_iconst_0 ?_
        exact x_iret (pc := 20) B hR dX0_cell_20 (xzI _) h
      · refine x_icmp_ge_f (pc := 7) B 19 dX0_cell_7 (by decide) hc ?_
        refine x_aload_n (pc := 10) B 0 dX0_cell_10 rfl rfl ?_
        obtain ⟨v1, hv, h⟩ := xbind h
        refine x_getR (k0 := 0) (pc := 11) B dX0_cell_11 rfl xi_0 (by decide) ⟨rfl, rfl, rfl⟩ xt_86 hv ?_
        refine x_iload_n (pc := 14) B 1 dX0_cell_14 rfl rfl ?_
        obtain ⟨v2, hv, h⟩ := xbind h
        refine x_iald (pc := 15) B dX0_cell_15 hv ?_
        refine x_goto (tgt := 20) (pc := 16) B dX0_cell_16 (by decide) ?_
        exact x_iret (pc := 20) B hR dX0_cell_20 (xzI _) h
  · exact absurd h (by simp)
def fX0_weightSum_4 : Nat → Nat → Int32 → Int32 → XW → Option (Int32 × XW)
  | 0, _, _, _, _ => none
  | g + 1, a0, i1, i2, w =>
    if (3 : Int32) ≤ i2 then
      some (i1, w)
    else
    (fX0_weightPlace i2 w).bind fun q1 =>
    (fX0_cell a0 q1.1 q1.2).bind fun q2 =>
    fX0_weightSum_4 g a0 (i1 + q2.1) (i2 + (1 : Int32)) q2.2
set_option maxRecDepth 20000 in
theorem pX0_weightSum_4 {K : KX} {cx : CX} {nn : Nat} {R9 : Int32 × XW} (B : XB K cx RX0 cX0_weightSum 3 nn 1 21) (hR : XR K cx nn (some .int) (some (.int R9.1)) R9.2) : ∀ (g : Nat) (a0 : Nat) (i1 : Int32) (i2 : Int32) (w : XW), fX0_weightSum_4 g a0 i1 i2 w = some R9 → Wx K cx 3 nn 4 [(0, .ref a0), (1, .int i1), (2, .int i2)] [] w := by
  intro g
  induction g with
  | zero =>
    intro a0 i1 i2 w h
    exact absurd (show (none : Option (Int32 × XW)) = some R9 from h) (by simp)
  | succ g ih =>
    intro a0 i1 i2 w h
    rw [fX0_weightSum_4] at h
    refine x_iload_n (pc := 4) B 2 dX0_weightSum_4 rfl rfl ?_
    refine x_iconst (pc := 5) B dX0_weightSum_5 xk_iconst_3 ?_
    rcases xite h with ⟨hc, h⟩ | ⟨hc, h⟩
    · refine x_icmp_ge_t (tgt := 26) (pc := 6) B dX0_weightSum_6 (by decide) hc ?_
      refine x_iload_n (pc := 26) B 1 dX0_weightSum_26 rfl rfl ?_
      exact x_iret (pc := 27) B hR dX0_weightSum_27 (xzI _) h
    · refine x_icmp_ge_f (pc := 6) B 26 dX0_weightSum_6 (by decide) hc ?_
      refine x_iload_n (pc := 9) B 1 dX0_weightSum_9 rfl rfl ?_
      refine x_aload_n (pc := 10) B 0 dX0_weightSum_10 rfl rfl ?_
      refine x_iload_n (pc := 11) B 2 dX0_weightSum_11 rfl rfl ?_
      obtain ⟨q1, hq, h⟩ := xbind h
      refine x_callS1 (st := [.ref a0, .int i1]) (pc := 12) B dX0_weightSum_12 (eX0_weightPlace hq) xt_149 xt_54 np_X0_weightPlace hy_X0_weightPlace (Nat.le_of_ble_eq_true rfl) (Nat.le_of_ble_eq_true rfl) (Nat.le_of_ble_eq_true rfl) xt_148 xt_147 rfl ?_
      obtain ⟨q2, hq, h⟩ := xbind h
      refine x_callV1 (st := [.int i1]) (pc := 15) B dX0_weightSum_15 (eX0_cell hq) xt_153 xt_54 np_X0_cell hy_X0_cell (Nat.le_of_ble_eq_true rfl) (Nat.le_of_ble_eq_true rfl) (Nat.le_of_ble_eq_true rfl) xt_151 xt_152 xt_150 rfl (iX0_cell hq) rfl ?_
      refine x_iadd (pc := 18) B dX0_weightSum_18 ?_
      refine x_istore_n (L1 := [(1, .int (i1 + q2.1)), (0, .ref a0), (2, .int i2)]) (pc := 19) B dX0_weightSum_19 rfl (by decide) rfl ?_
      refine x_iinc (L1 := [(2, .int (i2 + (1 : Int32))), (1, .int (i1 + q2.1)), (0, .ref a0)]) (pc := 20) B 2 dX0_weightSum_20 rfl (congrArg _ xk_iconst_1) (by decide) rfl ?_
      refine x_goto (tgt := 4) (pc := 23) B dX0_weightSum_23 (by decide) ?_
      refine x_sub (L1 := [(0, .ref a0), (1, .int (i1 + q2.1)), (2, .int (i2 + (1 : Int32)))]) [2, 1, 0] rfl ?_
      exact ih a0 (i1 + q2.1) (i2 + (1 : Int32)) q2.2 h
def fX0_weightSum (a0 : Nat) (w : XW) : Option (Int32 × XW) := if xis w a0 0 = true then
  fX0_weightSum_4 1000 a0 (0 : Int32) (0 : Int32) w
  else none
theorem iX0_weightSum {a0 : Nat} {w : XW} {R9 : (Int32 × XW)} (h : fX0_weightSum a0 w = some R9) : xis w a0 0 = true := by
  unfold fX0_weightSum at h
  rcases xite h with ⟨hc, h⟩ | ⟨hc, h⟩
  · exact hc
  · exact absurd h (by simp)
theorem np_X0_weightSum : (parseMethodDescriptor yX0_weightSum.desc).map (fun d => d.parameters.length) = some 0 := by decide +kernel
theorem hy_X0_weightSum : yX0_weightSum.cls ≠ "java/lang/invoke/MethodHandle" ∧ yX0_weightSum.cls ≠ "java/lang/invoke/VarHandle" := ⟨by decide +kernel, by decide +kernel⟩
set_option maxRecDepth 20000 in
theorem eX0_weightSum {cx : CX} {a0 : Nat} {w : XW} {R9 : (Int32 × XW)} (h : fX0_weightSum a0 w = some R9) : Ct yX0_weightSum cX0_weightSum 3 (some .int) 1 21 cx [.ref a0] w (some (.int R9.1)) R9.2 := by
  refine Ct_of (by decide +kernel) (Nat.le_of_ble_eq_true rfl) (fun K B hR => ?_)
  rw [fX0_weightSum] at h
  show Wx K cx 3 w.length 0 [(0, .ref a0)] [] w
  rcases xite h with ⟨hc, h⟩ | ⟨hc, h⟩
  · skip
    refine x_iconst (pc := 0) B dX0_weightSum_0 xk_iconst_0 ?_
    refine x_istore_n (L1 := [(1, .int (0 : Int32)), (0, .ref a0)]) (pc := 1) B dX0_weightSum_1 rfl (by decide) rfl ?_
    refine x_iconst (pc := 2) B dX0_weightSum_2 xk_iconst_0 ?_
    refine x_istore_n (L1 := [(2, .int (0 : Int32)), (1, .int (0 : Int32)), (0, .ref a0)]) (pc := 3) B dX0_weightSum_3 rfl (by decide) rfl ?_
    refine x_sub (L1 := [(0, .ref a0), (1, .int (0 : Int32)), (2, .int (0 : Int32))]) [2, 1, 0] rfl ?_
    exact pX0_weightSum_4 B hR 1000 a0 (0 : Int32) (0 : Int32) w h
  · exact absurd h (by simp)
def fX0_writeTo (a0 : Nat) (a1 : Nat) (i2 : Int32) (w : XW) : Option XW := if xis w a0 0 = true then
  if i2 < (0 : Int32) then
    some w
  else
  (xaL w a1).bind fun v1 =>
  if (v1 - (72 : Int32)) < i2 then
    some w
  else
  (xgR w a0 0 0).bind fun v2 =>
  (xcp w v2 (0 : Int32) a1 i2 (72 : Int32)).bind fun w3 =>
  some w3
  else none
theorem iX0_writeTo {a0 : Nat} {a1 : Nat} {i2 : Int32} {w : XW} {R9 : XW} (h : fX0_writeTo a0 a1 i2 w = some R9) : xis w a0 0 = true := by
  unfold fX0_writeTo at h
  rcases xite h with ⟨hc, h⟩ | ⟨hc, h⟩
  · exact hc
  · exact absurd h (by simp)
theorem np_X0_writeTo : (parseMethodDescriptor yX0_writeTo.desc).map (fun d => d.parameters.length) = some 2 := by decide +kernel
theorem hy_X0_writeTo : yX0_writeTo.cls ≠ "java/lang/invoke/MethodHandle" ∧ yX0_writeTo.cls ≠ "java/lang/invoke/VarHandle" := ⟨by decide +kernel, by decide +kernel⟩
set_option maxRecDepth 20000 in
theorem eX0_writeTo {cx : CX} {a0 : Nat} {a1 : Nat} {i2 : Int32} {w : XW} {R9 : XW} (h : fX0_writeTo a0 a1 i2 w = some R9) : Ct yX0_writeTo cX0_writeTo 3 none 1 40 cx [.ref a0, .ref a1, .int i2] w none R9 := by
  refine Ct_of (by decide +kernel) (Nat.le_of_ble_eq_true rfl) (fun K B hR => ?_)
  rw [fX0_writeTo] at h
  show Wx K cx 3 w.length 0 [(0, .ref a0), (1, .ref a1), (2, .int i2)] [] w
  rcases xite h with ⟨hc, h⟩ | ⟨hc, h⟩
  · skip
    refine x_iload_n (pc := 0) B 2 dX0_writeTo_0 rfl rfl ?_
    rcases xite h with ⟨hc, h⟩ | ⟨hc, h⟩
    · refine x_if_lt_t (tgt := 25) (pc := 1) B dX0_writeTo_1 (by decide) hc ?_
      exact x_vret (pc := 25) B hR dX0_writeTo_25 h
    · refine x_if_lt_f (pc := 1) B 25 dX0_writeTo_1 (by decide) hc ?_
      refine x_iload_n (pc := 4) B 2 dX0_writeTo_4 rfl rfl ?_
      refine x_aload_n (pc := 5) B 1 dX0_writeTo_5 rfl rfl ?_
      obtain ⟨v1, hv, h⟩ := xbind h
      refine x_alen (pc := 6) B dX0_writeTo_6 hv ?_
      refine x_bipush (pc := 7) B dX0_writeTo_7 xk_bipush_72 ?_
      refine x_isub (pc := 9) B dX0_writeTo_9 ?_
      rcases xite h with ⟨hc, h⟩ | ⟨hc, h⟩
      · refine x_icmp_gt_t (tgt := 25) (pc := 10) B dX0_writeTo_10 (by decide) hc ?_
        exact x_vret (pc := 25) B hR dX0_writeTo_25 h
      · refine x_icmp_gt_f (pc := 10) B 25 dX0_writeTo_10 (by decide) hc ?_
        refine x_aload_n (pc := 13) B 0 dX0_writeTo_13 rfl rfl ?_
        obtain ⟨v2, hv, h⟩ := xbind h
        refine x_getR (k0 := 0) (pc := 14) B dX0_writeTo_14 rfl xi_0 (by decide) ⟨rfl, rfl, rfl⟩ xt_86 hv ?_
        refine x_iconst (pc := 17) B dX0_writeTo_17 xk_iconst_0 ?_
        refine x_aload_n (pc := 18) B 1 dX0_writeTo_18 rfl rfl ?_
        refine x_iload_n (pc := 19) B 2 dX0_writeTo_19 rfl rfl ?_
        refine x_bipush (pc := 20) B dX0_writeTo_20 xk_bipush_72 ?_
        obtain ⟨w3, hv, h⟩ := xbind h
        refine x_copy (pc := 22) B dX0_writeTo_22 xt_167 (Nat.le_of_ble_eq_true rfl) (Nat.le_of_ble_eq_true rfl) hv ?_
        exact x_vret (pc := 25) B hR dX0_writeTo_25 h
  · exact absurd h (by simp)
def fX0_forgetPossible (a0 : Nat) (w : XW) : Option XW := if xis w a0 0 = true then
  (xgR w a0 0 1).bind fun v1 =>
  (fJ7_fill_53178 v1 (0 : Int32) w).bind fun q2 =>
  some q2
  else none
theorem iX0_forgetPossible {a0 : Nat} {w : XW} {R9 : XW} (h : fX0_forgetPossible a0 w = some R9) : xis w a0 0 = true := by
  unfold fX0_forgetPossible at h
  rcases xite h with ⟨hc, h⟩ | ⟨hc, h⟩
  · exact hc
  · exact absurd h (by simp)
theorem np_X0_forgetPossible : (parseMethodDescriptor yX0_forgetPossible.desc).map (fun d => d.parameters.length) = some 0 := by decide +kernel
theorem hy_X0_forgetPossible : yX0_forgetPossible.cls ≠ "java/lang/invoke/MethodHandle" ∧ yX0_forgetPossible.cls ≠ "java/lang/invoke/VarHandle" := ⟨by decide +kernel, by decide +kernel⟩
set_option maxRecDepth 20000 in
theorem eX0_forgetPossible {cx : CX} {a0 : Nat} {w : XW} {R9 : XW} (h : fX0_forgetPossible a0 w = some R9) : Ct yX0_forgetPossible cX0_forgetPossible 1 none 1 23 cx [.ref a0] w none R9 := by
  refine Ct_of (by decide +kernel) (Nat.le_of_ble_eq_true rfl) (fun K B hR => ?_)
  rw [fX0_forgetPossible] at h
  show Wx K cx 1 w.length 0 [(0, .ref a0)] [] w
  rcases xite h with ⟨hc, h⟩ | ⟨hc, h⟩
  · skip
    refine x_aload_n (pc := 0) B 0 dX0_forgetPossible_0 rfl rfl ?_
    obtain ⟨v1, hv, h⟩ := xbind h
    refine x_getR (k0 := 1) (pc := 1) B dX0_forgetPossible_1 rfl xi_0 (by decide) ⟨rfl, rfl, rfl⟩ xt_87 hv ?_
    refine x_iconst (pc := 4) B dX0_forgetPossible_4 xk_iconst_0 ?_
    obtain ⟨q2, hq, h⟩ := xbind h
    refine x_callS0 (st := []) (pc := 5) B dX0_forgetPossible_5 (eJ7_fill_53178 hq) xt_179 xt_55 np_J7_fill_53178 hy_J7_fill_53178 (Nat.le_of_ble_eq_true rfl) (Nat.le_of_ble_eq_true rfl) (Nat.le_of_ble_eq_true rfl) xt_178 xt_177 rfl ?_
    exact x_vret (pc := 8) B hR dX0_forgetPossible_8 h
  · exact absurd h (by simp)
def fX0_change (a0 : Nat) (i1 : Int32) (i2 : Int32) (w : XW) : Option (Int32 × XW) := if xis w a0 0 = true then
  (fX3_isWithin i1 (72 : Int32) w).bind fun q1 =>
  if q1.1 = (0 : Int32) then
    some ((0 : Int32), q1.2)
  else
  (xgR q1.2 a0 0 0).bind fun v2 =>
  (xaI q1.2 v2 i1).bind fun v3 =>
  (xgR q1.2 a0 0 0).bind fun v4 =>
  (xsI q1.2 v4 i1 i2).bind fun w5 =>
  if i1 < (12 : Int32) then
    some (v3, w5)
  else
  if (66 : Int32) ≤ i1 then
    some (v3, w5)
  else
  (fX0_forgetPossible a0 w5).bind fun q6 =>
  some (v3, q6)
  else none
theorem iX0_change {a0 : Nat} {i1 : Int32} {i2 : Int32} {w : XW} {R9 : (Int32 × XW)} (h : fX0_change a0 i1 i2 w = some R9) : xis w a0 0 = true := by
  unfold fX0_change at h
  rcases xite h with ⟨hc, h⟩ | ⟨hc, h⟩
  · exact hc
  · exact absurd h (by simp)
theorem np_X0_change : (parseMethodDescriptor yX0_change.desc).map (fun d => d.parameters.length) = some 2 := by decide +kernel
theorem hy_X0_change : yX0_change.cls ≠ "java/lang/invoke/MethodHandle" ∧ yX0_change.cls ≠ "java/lang/invoke/VarHandle" := ⟨by decide +kernel, by decide +kernel⟩
set_option maxRecDepth 20000 in
theorem eX0_change {cx : CX} {a0 : Nat} {i1 : Int32} {i2 : Int32} {w : XW} {R9 : (Int32 × XW)} (h : fX0_change a0 i1 i2 w = some R9) : Ct yX0_change cX0_change 4 (some .int) 2 43 cx [.ref a0, .int i1, .int i2] w (some (.int R9.1)) R9.2 := by
  refine Ct_of (by decide +kernel) (Nat.le_of_ble_eq_true rfl) (fun K B hR => ?_)
  rw [fX0_change] at h
  show Wx K cx 4 w.length 0 [(0, .ref a0), (1, .int i1), (2, .int i2)] [] w
  rcases xite h with ⟨hc, h⟩ | ⟨hc, h⟩
  · skip
    refine x_iload_n (pc := 0) B 1 dX0_change_0 rfl rfl ?_
    refine x_bipush (pc := 1) B dX0_change_1 xk_bipush_72 ?_
    obtain ⟨q1, hq, h⟩ := xbind h
    refine x_callSN1 (st := []) (pc := 3) B dX0_change_3 (eX3_isWithin hq) xt_142 xt_53 np_X3_isWithin hy_X3_isWithin (Nat.le_of_ble_eq_true rfl) (Nat.le_of_ble_eq_true rfl) (Nat.le_of_ble_eq_true rfl) xt_141 (List.mem_of_getElem? (i := 0) rfl) rfl ?_
    rcases xite h with ⟨hc, h⟩ | ⟨hc, h⟩
    · refine x_if_ne_f (pc := 6) B 11 dX0_change_6 (by decide) hc ?_
      refine x_iconst (pc := 9) B dX0_change_9 xk_iconst_0 ?_
      exact x_iret (pc := 10) B hR dX0_change_10 (xzI _) h
    · refine x_if_ne_t (tgt := 11) (pc := 6) B dX0_change_6 (by decide) hc ?_
      refine x_aload_n (pc := 11) B 0 dX0_change_11 rfl rfl ?_
      obtain ⟨v2, hv, h⟩ := xbind h
      refine x_getR (k0 := 0) (pc := 12) B dX0_change_12 rfl xi_0 (by decide) ⟨rfl, rfl, rfl⟩ xt_86 hv ?_
      refine x_iload_n (pc := 15) B 1 dX0_change_15 rfl rfl ?_
      obtain ⟨v3, hv, h⟩ := xbind h
      refine x_iald (pc := 16) B dX0_change_16 hv ?_
      refine x_istore_n (L1 := [(3, .int v3), (0, .ref a0), (1, .int i1), (2, .int i2)]) (pc := 17) B dX0_change_17 rfl (by decide) rfl ?_
      refine x_aload_n (pc := 18) B 1 dX0_change_18 rfl rfl ?_
      obtain ⟨v4, hv, h⟩ := xbind h
      refine x_getR (k0 := 0) (pc := 19) B dX0_change_19 rfl xi_0 (by decide) ⟨rfl, rfl, rfl⟩ xt_86 hv ?_
      refine x_iload_n (pc := 22) B 2 dX0_change_22 rfl rfl ?_
      refine x_iload_n (pc := 23) B 3 dX0_change_23 rfl rfl ?_
      obtain ⟨w5, hv, h⟩ := xbind h
      refine x_iast (pc := 24) B dX0_change_24 hv ?_
      refine x_iload_n (pc := 25) B 2 dX0_change_25 rfl rfl ?_
      refine x_bipush (pc := 26) B dX0_change_26 xk_bipush_12 ?_
      rcases xite h with ⟨hc, h⟩ | ⟨hc, h⟩
      · refine x_icmp_lt_t (tgt := 41) (pc := 28) B dX0_change_28 (by decide) hc ?_
        refine x_iload_n (pc := 41) B 0 dX0_change_41 rfl rfl ?_
        exact x_iret (pc := 42) B hR dX0_change_42 (xzI _) h
      · refine x_icmp_lt_f (pc := 28) B 41 dX0_change_28 (by decide) hc ?_
        refine x_iload_n (pc := 31) B 2 dX0_change_31 rfl rfl ?_
        refine x_bipush (pc := 32) B dX0_change_32 xk_bipush_66 ?_
        rcases xite h with ⟨hc, h⟩ | ⟨hc, h⟩
        · refine x_icmp_ge_t (tgt := 41) (pc := 34) B dX0_change_34 (by decide) hc ?_
          refine x_iload_n (pc := 41) B 0 dX0_change_41 rfl rfl ?_
          exact x_iret (pc := 42) B hR dX0_change_42 (xzI _) h
        · refine x_icmp_ge_f (pc := 34) B 41 dX0_change_34 (by decide) hc ?_
          refine x_aload_n (pc := 37) B 1 dX0_change_37 rfl rfl ?_
          obtain ⟨q6, hq, h⟩ := xbind h
          refine x_callV0 (st := []) (pc := 38) B dX0_change_38 (eX0_forgetPossible hq) xt_176 xt_54 np_X0_forgetPossible hy_X0_forgetPossible (Nat.le_of_ble_eq_true rfl) (Nat.le_of_ble_eq_true rfl) (Nat.le_of_ble_eq_true rfl) xt_175 xt_2 xt_173 rfl (iX0_forgetPossible hq) rfl ?_
          refine x_iload_n (pc := 41) B 0 dX0_change_41 rfl rfl ?_
          exact x_iret (pc := 42) B hR dX0_change_42 (xzI _) h
  · exact absurd h (by simp)
def fX0_payPlace (i0 : Int32) (i1 : Int32) (i2 : Int32) (i3 : Int32) (w : XW) : Option (Int32 × XW) :=
  some (((((12 : Int32) + (i0 * (27 : Int32))) + (((i1 * (3 : Int32)) + i2) * (3 : Int32))) + i3), w)
theorem np_X0_payPlace : (parseMethodDescriptor yX0_payPlace.desc).map (fun d => d.parameters.length) = some 4 := by decide +kernel
theorem hy_X0_payPlace : yX0_payPlace.cls ≠ "java/lang/invoke/MethodHandle" ∧ yX0_payPlace.cls ≠ "java/lang/invoke/VarHandle" := ⟨by decide +kernel, by decide +kernel⟩
set_option maxRecDepth 20000 in
theorem eX0_payPlace {cx : CX} {i0 : Int32} {i1 : Int32} {i2 : Int32} {i3 : Int32} {w : XW} {R9 : (Int32 × XW)} (h : fX0_payPlace i0 i1 i2 i3 w = some R9) : Ct yX0_payPlace cX0_payPlace 4 (some .int) 0 0 cx [.int i0, .int i1, .int i2, .int i3] w (some (.int R9.1)) R9.2 := by
  refine Ct_of (by decide +kernel) (Nat.le_of_ble_eq_true rfl) (fun K B hR => ?_)
  rw [fX0_payPlace] at h
  show Wx K cx 4 w.length 0 [(0, .int i0), (1, .int i1), (2, .int i2), (3, .int i3)] [] w
  refine x_bipush (pc := 0) B dX0_payPlace_0 xk_bipush_12 ?_
  refine x_iload_n (pc := 2) B 0 dX0_payPlace_2 rfl rfl ?_
  refine x_bipush (pc := 3) B dX0_payPlace_3 xk_bipush_27 ?_
  refine x_imul (pc := 5) B dX0_payPlace_5 ?_
  refine x_iadd (pc := 6) B dX0_payPlace_6 ?_
  refine x_iload_n (pc := 7) B 1 dX0_payPlace_7 rfl rfl ?_
  refine x_iconst (pc := 8) B dX0_payPlace_8 xk_iconst_3 ?_
  refine x_imul (pc := 9) B dX0_payPlace_9 ?_
  refine x_iload_n (pc := 10) B 2 dX0_payPlace_10 rfl rfl ?_
  refine x_iadd (pc := 11) B dX0_payPlace_11 ?_
  refine x_iconst (pc := 12) B dX0_payPlace_12 xk_iconst_3 ?_
  refine x_imul (pc := 13) B dX0_payPlace_13 ?_
  refine x_iadd (pc := 14) B dX0_payPlace_14 ?_
  refine x_iload_n (pc := 15) B 3 dX0_payPlace_15 rfl rfl ?_
  refine x_iadd (pc := 16) B dX0_payPlace_16 ?_
  exact x_iret (pc := 17) B hR dX0_payPlace_17 (xzI _) h
def fX0_toldPlace (i0 : Int32) (i1 : Int32) (w : XW) : Option (Int32 × XW) :=
  some ((((3 : Int32) + (i0 * (3 : Int32))) + i1), w)
theorem np_X0_toldPlace : (parseMethodDescriptor yX0_toldPlace.desc).map (fun d => d.parameters.length) = some 2 := by decide +kernel
theorem hy_X0_toldPlace : yX0_toldPlace.cls ≠ "java/lang/invoke/MethodHandle" ∧ yX0_toldPlace.cls ≠ "java/lang/invoke/VarHandle" := ⟨by decide +kernel, by decide +kernel⟩
set_option maxRecDepth 20000 in
theorem eX0_toldPlace {cx : CX} {i0 : Int32} {i1 : Int32} {w : XW} {R9 : (Int32 × XW)} (h : fX0_toldPlace i0 i1 w = some R9) : Ct yX0_toldPlace cX0_toldPlace 2 (some .int) 0 0 cx [.int i0, .int i1] w (some (.int R9.1)) R9.2 := by
  refine Ct_of (by decide +kernel) (Nat.le_of_ble_eq_true rfl) (fun K B hR => ?_)
  rw [fX0_toldPlace] at h
  show Wx K cx 2 w.length 0 [(0, .int i0), (1, .int i1)] [] w
  refine x_iconst (pc := 0) B dX0_toldPlace_0 xk_iconst_3 ?_
  refine x_iload_n (pc := 1) B 0 dX0_toldPlace_1 rfl rfl ?_
  refine x_iconst (pc := 2) B dX0_toldPlace_2 xk_iconst_3 ?_
  refine x_imul (pc := 3) B dX0_toldPlace_3 ?_
  refine x_iadd (pc := 4) B dX0_toldPlace_4 ?_
  refine x_iload_n (pc := 5) B 1 dX0_toldPlace_5 rfl rfl ?_
  refine x_iadd (pc := 6) B dX0_toldPlace_6 ?_
  exact x_iret (pc := 7) B hR dX0_toldPlace_7 (xzI _) h
def fX0_toldSum_4 : Nat → Nat → Int32 → Int32 → Int32 → XW → Option (Int32 × XW)
  | 0, _, _, _, _, _ => none
  | g + 1, a0, i1, i2, i3, w =>
    if (3 : Int32) ≤ i3 then
      some (i2, w)
    else
    (fX0_toldPlace i1 i3 w).bind fun q1 =>
    (fX0_cell a0 q1.1 q1.2).bind fun q2 =>
    fX0_toldSum_4 g a0 i1 (i2 + q2.1) (i3 + (1 : Int32)) q2.2
set_option maxRecDepth 20000 in
theorem pX0_toldSum_4 {K : KX} {cx : CX} {nn : Nat} {R9 : Int32 × XW} (B : XB K cx RX0 cX0_toldSum 4 nn 1 21) (hR : XR K cx nn (some .int) (some (.int R9.1)) R9.2) : ∀ (g : Nat) (a0 : Nat) (i1 : Int32) (i2 : Int32) (i3 : Int32) (w : XW), fX0_toldSum_4 g a0 i1 i2 i3 w = some R9 → Wx K cx 4 nn 4 [(0, .ref a0), (1, .int i1), (2, .int i2), (3, .int i3)] [] w := by
  intro g
  induction g with
  | zero =>
    intro a0 i1 i2 i3 w h
    exact absurd (show (none : Option (Int32 × XW)) = some R9 from h) (by simp)
  | succ g ih =>
    intro a0 i1 i2 i3 w h
    rw [fX0_toldSum_4] at h
    refine x_iload_n (pc := 4) B 3 dX0_toldSum_4 rfl rfl ?_
    refine x_iconst (pc := 5) B dX0_toldSum_5 xk_iconst_3 ?_
    rcases xite h with ⟨hc, h⟩ | ⟨hc, h⟩
    · refine x_icmp_ge_t (tgt := 27) (pc := 6) B dX0_toldSum_6 (by decide) hc ?_
      refine x_iload_n (pc := 27) B 2 dX0_toldSum_27 rfl rfl ?_
      exact x_iret (pc := 28) B hR dX0_toldSum_28 (xzI _) h
    · refine x_icmp_ge_f (pc := 6) B 27 dX0_toldSum_6 (by decide) hc ?_
      refine x_iload_n (pc := 9) B 2 dX0_toldSum_9 rfl rfl ?_
      refine x_aload_n (pc := 10) B 0 dX0_toldSum_10 rfl rfl ?_
      refine x_iload_n (pc := 11) B 1 dX0_toldSum_11 rfl rfl ?_
      refine x_iload_n (pc := 12) B 3 dX0_toldSum_12 rfl rfl ?_
      obtain ⟨q1, hq, h⟩ := xbind h
      refine x_callS1 (st := [.ref a0, .int i2]) (pc := 13) B dX0_toldSum_13 (eX0_toldPlace hq) xt_201 xt_54 np_X0_toldPlace hy_X0_toldPlace (Nat.le_of_ble_eq_true rfl) (Nat.le_of_ble_eq_true rfl) (Nat.le_of_ble_eq_true rfl) xt_200 xt_199 rfl ?_
      obtain ⟨q2, hq, h⟩ := xbind h
      refine x_callV1 (st := [.int i2]) (pc := 16) B dX0_toldSum_16 (eX0_cell hq) xt_153 xt_54 np_X0_cell hy_X0_cell (Nat.le_of_ble_eq_true rfl) (Nat.le_of_ble_eq_true rfl) (Nat.le_of_ble_eq_true rfl) xt_151 xt_152 xt_150 rfl (iX0_cell hq) rfl ?_
      refine x_iadd (pc := 19) B dX0_toldSum_19 ?_
      refine x_istore_n (L1 := [(2, .int (i2 + q2.1)), (0, .ref a0), (1, .int i1), (3, .int i3)]) (pc := 20) B dX0_toldSum_20 rfl (by decide) rfl ?_
      refine x_iinc (L1 := [(3, .int (i3 + (1 : Int32))), (2, .int (i2 + q2.1)), (0, .ref a0), (1, .int i1)]) (pc := 21) B 3 dX0_toldSum_21 rfl (congrArg _ xk_iconst_1) (by decide) rfl ?_
      refine x_goto (tgt := 4) (pc := 24) B dX0_toldSum_24 (by decide) ?_
      refine x_sub (L1 := [(0, .ref a0), (1, .int i1), (2, .int (i2 + q2.1)), (3, .int (i3 + (1 : Int32)))]) [2, 3, 1, 0] rfl ?_
      exact ih a0 i1 (i2 + q2.1) (i3 + (1 : Int32)) q2.2 h
def fX0_toldSum (a0 : Nat) (i1 : Int32) (w : XW) : Option (Int32 × XW) := if xis w a0 0 = true then
  fX0_toldSum_4 1000 a0 i1 (0 : Int32) (0 : Int32) w
  else none
theorem iX0_toldSum {a0 : Nat} {i1 : Int32} {w : XW} {R9 : (Int32 × XW)} (h : fX0_toldSum a0 i1 w = some R9) : xis w a0 0 = true := by
  unfold fX0_toldSum at h
  rcases xite h with ⟨hc, h⟩ | ⟨hc, h⟩
  · exact hc
  · exact absurd h (by simp)
theorem np_X0_toldSum : (parseMethodDescriptor yX0_toldSum.desc).map (fun d => d.parameters.length) = some 1 := by decide +kernel
theorem hy_X0_toldSum : yX0_toldSum.cls ≠ "java/lang/invoke/MethodHandle" ∧ yX0_toldSum.cls ≠ "java/lang/invoke/VarHandle" := ⟨by decide +kernel, by decide +kernel⟩
set_option maxRecDepth 20000 in
theorem eX0_toldSum {cx : CX} {a0 : Nat} {i1 : Int32} {w : XW} {R9 : (Int32 × XW)} (h : fX0_toldSum a0 i1 w = some R9) : Ct yX0_toldSum cX0_toldSum 4 (some .int) 1 21 cx [.ref a0, .int i1] w (some (.int R9.1)) R9.2 := by
  refine Ct_of (by decide +kernel) (Nat.le_of_ble_eq_true rfl) (fun K B hR => ?_)
  rw [fX0_toldSum] at h
  show Wx K cx 4 w.length 0 [(0, .ref a0), (1, .int i1)] [] w
  rcases xite h with ⟨hc, h⟩ | ⟨hc, h⟩
  · skip
    refine x_iconst (pc := 0) B dX0_toldSum_0 xk_iconst_0 ?_
    refine x_istore_n (L1 := [(2, .int (0 : Int32)), (0, .ref a0), (1, .int i1)]) (pc := 1) B dX0_toldSum_1 rfl (by decide) rfl ?_
    refine x_iconst (pc := 2) B dX0_toldSum_2 xk_iconst_0 ?_
    refine x_istore_n (L1 := [(3, .int (0 : Int32)), (2, .int (0 : Int32)), (0, .ref a0), (1, .int i1)]) (pc := 3) B dX0_toldSum_3 rfl (by decide) rfl ?_
    refine x_sub (L1 := [(0, .ref a0), (1, .int i1), (2, .int (0 : Int32)), (3, .int (0 : Int32))]) [2, 3, 1, 0] rfl ?_
    exact pX0_toldSum_4 B hR 1000 a0 i1 (0 : Int32) (0 : Int32) w h
  · exact absurd h (by simp)
def fX0_messagePlace (i0 : Int32) (w : XW) : Option (Int32 × XW) :=
  some (((66 : Int32) + i0), w)
theorem np_X0_messagePlace : (parseMethodDescriptor yX0_messagePlace.desc).map (fun d => d.parameters.length) = some 1 := by decide +kernel
theorem hy_X0_messagePlace : yX0_messagePlace.cls ≠ "java/lang/invoke/MethodHandle" ∧ yX0_messagePlace.cls ≠ "java/lang/invoke/VarHandle" := ⟨by decide +kernel, by decide +kernel⟩
set_option maxRecDepth 20000 in
theorem eX0_messagePlace {cx : CX} {i0 : Int32} {w : XW} {R9 : (Int32 × XW)} (h : fX0_messagePlace i0 w = some R9) : Ct yX0_messagePlace cX0_messagePlace 1 (some .int) 0 0 cx [.int i0] w (some (.int R9.1)) R9.2 := by
  refine Ct_of (by decide +kernel) (Nat.le_of_ble_eq_true rfl) (fun K B hR => ?_)
  rw [fX0_messagePlace] at h
  show Wx K cx 1 w.length 0 [(0, .int i0)] [] w
  refine x_bipush (pc := 0) B dX0_messagePlace_0 xk_bipush_66 ?_
  refine x_iload_n (pc := 2) B 0 dX0_messagePlace_2 rfl rfl ?_
  refine x_iadd (pc := 3) B dX0_messagePlace_3 ?_
  exact x_iret (pc := 4) B hR dX0_messagePlace_4 (xzI _) h
def fX0_answerPlace (i0 : Int32) (w : XW) : Option (Int32 × XW) :=
  some (((69 : Int32) + i0), w)
theorem np_X0_answerPlace : (parseMethodDescriptor yX0_answerPlace.desc).map (fun d => d.parameters.length) = some 1 := by decide +kernel
theorem hy_X0_answerPlace : yX0_answerPlace.cls ≠ "java/lang/invoke/MethodHandle" ∧ yX0_answerPlace.cls ≠ "java/lang/invoke/VarHandle" := ⟨by decide +kernel, by decide +kernel⟩
set_option maxRecDepth 20000 in
theorem eX0_answerPlace {cx : CX} {i0 : Int32} {w : XW} {R9 : (Int32 × XW)} (h : fX0_answerPlace i0 w = some R9) : Ct yX0_answerPlace cX0_answerPlace 1 (some .int) 0 0 cx [.int i0] w (some (.int R9.1)) R9.2 := by
  refine Ct_of (by decide +kernel) (Nat.le_of_ble_eq_true rfl) (fun K B hR => ?_)
  rw [fX0_answerPlace] at h
  show Wx K cx 1 w.length 0 [(0, .int i0)] [] w
  refine x_bipush (pc := 0) B dX0_answerPlace_0 xk_bipush_69 ?_
  refine x_iload_n (pc := 2) B 0 dX0_answerPlace_2 rfl rfl ?_
  refine x_iadd (pc := 3) B dX0_answerPlace_3 ?_
  exact x_iret (pc := 4) B hR dX0_answerPlace_4 (xzI _) h
def fX0_readFrom (a0 : Nat) (a1 : Nat) (i2 : Int32) (w : XW) : Option XW := if xis w a0 0 = true then
  if i2 < (0 : Int32) then
    some w
  else
  (xaL w a1).bind fun v1 =>
  if (v1 - (72 : Int32)) < i2 then
    some w
  else
  (xgR w a0 0 0).bind fun v2 =>
  (xcp w a1 i2 v2 (0 : Int32) (72 : Int32)).bind fun w3 =>
  (fX0_forgetPossible a0 w3).bind fun q4 =>
  some q4
  else none
theorem iX0_readFrom {a0 : Nat} {a1 : Nat} {i2 : Int32} {w : XW} {R9 : XW} (h : fX0_readFrom a0 a1 i2 w = some R9) : xis w a0 0 = true := by
  unfold fX0_readFrom at h
  rcases xite h with ⟨hc, h⟩ | ⟨hc, h⟩
  · exact hc
  · exact absurd h (by simp)
theorem np_X0_readFrom : (parseMethodDescriptor yX0_readFrom.desc).map (fun d => d.parameters.length) = some 2 := by decide +kernel
theorem hy_X0_readFrom : yX0_readFrom.cls ≠ "java/lang/invoke/MethodHandle" ∧ yX0_readFrom.cls ≠ "java/lang/invoke/VarHandle" := ⟨by decide +kernel, by decide +kernel⟩
set_option maxRecDepth 20000 in
theorem eX0_readFrom {cx : CX} {a0 : Nat} {a1 : Nat} {i2 : Int32} {w : XW} {R9 : XW} (h : fX0_readFrom a0 a1 i2 w = some R9) : Ct yX0_readFrom cX0_readFrom 3 none 2 43 cx [.ref a0, .ref a1, .int i2] w none R9 := by
  refine Ct_of (by decide +kernel) (Nat.le_of_ble_eq_true rfl) (fun K B hR => ?_)
  rw [fX0_readFrom] at h
  show Wx K cx 3 w.length 0 [(0, .ref a0), (1, .ref a1), (2, .int i2)] [] w
  rcases xite h with ⟨hc, h⟩ | ⟨hc, h⟩
  · skip
    refine x_iload_n (pc := 0) B 2 dX0_readFrom_0 rfl rfl ?_
    rcases xite h with ⟨hc, h⟩ | ⟨hc, h⟩
    · refine x_if_lt_t (tgt := 29) (pc := 1) B dX0_readFrom_1 (by decide) hc ?_
      exact x_vret (pc := 29) B hR dX0_readFrom_29 h
    · refine x_if_lt_f (pc := 1) B 29 dX0_readFrom_1 (by decide) hc ?_
      refine x_iload_n (pc := 4) B 2 dX0_readFrom_4 rfl rfl ?_
      refine x_aload_n (pc := 5) B 1 dX0_readFrom_5 rfl rfl ?_
      obtain ⟨v1, hv, h⟩ := xbind h
      refine x_alen (pc := 6) B dX0_readFrom_6 hv ?_
      refine x_bipush (pc := 7) B dX0_readFrom_7 xk_bipush_72 ?_
      refine x_isub (pc := 9) B dX0_readFrom_9 ?_
      rcases xite h with ⟨hc, h⟩ | ⟨hc, h⟩
      · refine x_icmp_gt_t (tgt := 29) (pc := 10) B dX0_readFrom_10 (by decide) hc ?_
        exact x_vret (pc := 29) B hR dX0_readFrom_29 h
      · refine x_icmp_gt_f (pc := 10) B 29 dX0_readFrom_10 (by decide) hc ?_
        refine x_aload_n (pc := 13) B 1 dX0_readFrom_13 rfl rfl ?_
        refine x_iload_n (pc := 14) B 2 dX0_readFrom_14 rfl rfl ?_
        refine x_aload_n (pc := 15) B 0 dX0_readFrom_15 rfl rfl ?_
        obtain ⟨v2, hv, h⟩ := xbind h
        refine x_getR (k0 := 0) (pc := 16) B dX0_readFrom_16 rfl xi_0 (by decide) ⟨rfl, rfl, rfl⟩ xt_86 hv ?_
        refine x_iconst (pc := 19) B dX0_readFrom_19 xk_iconst_0 ?_
        refine x_bipush (pc := 20) B dX0_readFrom_20 xk_bipush_72 ?_
        obtain ⟨w3, hv, h⟩ := xbind h
        refine x_copy (pc := 22) B dX0_readFrom_22 xt_167 (Nat.le_of_ble_eq_true rfl) (Nat.le_of_ble_eq_true rfl) hv ?_
        refine x_aload_n (pc := 25) B 0 dX0_readFrom_25 rfl rfl ?_
        obtain ⟨q4, hq, h⟩ := xbind h
        refine x_callV0 (st := []) (pc := 26) B dX0_readFrom_26 (eX0_forgetPossible hq) xt_176 xt_54 np_X0_forgetPossible hy_X0_forgetPossible (Nat.le_of_ble_eq_true rfl) (Nat.le_of_ble_eq_true rfl) (Nat.le_of_ble_eq_true rfl) xt_175 xt_2 xt_173 rfl (iX0_forgetPossible hq) rfl ?_
        exact x_vret (pc := 29) B hR dX0_readFrom_29 h
  · exact absurd h (by simp)
def fX0_copyFrom (a0 : Nat) (a1 : Nat) (w : XW) : Option XW := if xis w a0 0 = true then
  (xgR w a1 0 0).bind fun v1 =>
  (fX0_readFrom a0 v1 (0 : Int32) w).bind fun q2 =>
  some q2
  else none
theorem iX0_copyFrom {a0 : Nat} {a1 : Nat} {w : XW} {R9 : XW} (h : fX0_copyFrom a0 a1 w = some R9) : xis w a0 0 = true := by
  unfold fX0_copyFrom at h
  rcases xite h with ⟨hc, h⟩ | ⟨hc, h⟩
  · exact hc
  · exact absurd h (by simp)
theorem np_X0_copyFrom : (parseMethodDescriptor yX0_copyFrom.desc).map (fun d => d.parameters.length) = some 1 := by decide +kernel
theorem hy_X0_copyFrom : yX0_copyFrom.cls ≠ "java/lang/invoke/MethodHandle" ∧ yX0_copyFrom.cls ≠ "java/lang/invoke/VarHandle" := ⟨by decide +kernel, by decide +kernel⟩
set_option maxRecDepth 20000 in
theorem eX0_copyFrom {cx : CX} {a0 : Nat} {a1 : Nat} {w : XW} {R9 : XW} (h : fX0_copyFrom a0 a1 w = some R9) : Ct yX0_copyFrom cX0_copyFrom 2 none 3 65 cx [.ref a0, .ref a1] w none R9 := by
  refine Ct_of (by decide +kernel) (Nat.le_of_ble_eq_true rfl) (fun K B hR => ?_)
  rw [fX0_copyFrom] at h
  show Wx K cx 2 w.length 0 [(0, .ref a0), (1, .ref a1)] [] w
  rcases xite h with ⟨hc, h⟩ | ⟨hc, h⟩
  · skip
    refine x_aload_n (pc := 0) B 0 dX0_copyFrom_0 rfl rfl ?_
    refine x_aload_n (pc := 1) B 1 dX0_copyFrom_1 rfl rfl ?_
    obtain ⟨v1, hv, h⟩ := xbind h
    refine x_getR (k0 := 0) (pc := 2) B dX0_copyFrom_2 rfl xi_0 (by decide) ⟨rfl, rfl, rfl⟩ xt_86 hv ?_
    refine x_iconst (pc := 5) B dX0_copyFrom_5 xk_iconst_0 ?_
    obtain ⟨q2, hq, h⟩ := xbind h
    refine x_callV0 (st := []) (pc := 6) B dX0_copyFrom_6 (eX0_readFrom hq) xt_240 xt_54 np_X0_readFrom hy_X0_readFrom (Nat.le_of_ble_eq_true rfl) (Nat.le_of_ble_eq_true rfl) (Nat.le_of_ble_eq_true rfl) xt_238 xt_239 xt_237 rfl (iX0_readFrom hq) rfl ?_
    exact x_vret (pc := 9) B hR dX0_copyFrom_9 h
  · exact absurd h (by simp)
def fX0_takePlan_5 : Nat → Nat → Int32 → Int32 → XW → Option XW
  | 0, _, _, _, _ => none
  | g + 1, a0, i2, i3, w =>
    if i3 < (66 : Int32) then
      some w
    else
    (xgR w a0 0 0).bind fun v1 =>
    (xsI w v1 i3 (i2 - i2 / (3 : Int32) * (3 : Int32))).bind fun w2 =>
    fX0_takePlan_5 g a0 (i2 / (3 : Int32)) (i3 + (-1 : Int32)) w2
set_option maxRecDepth 20000 in
theorem pX0_takePlan_5 {K : KX} {cx : CX} {nn : Nat} {R9 : XW} (B : XB K cx RX0 cX0_takePlan 4 nn 0 0) (hR : XR K cx nn none none R9) : ∀ (g : Nat) (a0 : Nat) (i2 : Int32) (i3 : Int32) (w : XW), fX0_takePlan_5 g a0 i2 i3 w = some R9 → Wx K cx 4 nn 5 [(0, .ref a0), (2, .int i2), (3, .int i3)] [] w := by
  intro g
  induction g with
  | zero =>
    intro a0 i2 i3 w h
    exact absurd (show (none : Option XW) = some R9 from h) (by simp)
  | succ g ih =>
    intro a0 i2 i3 w h
    rw [fX0_takePlan_5] at h
    refine x_iload_n (pc := 5) B 2 dX0_takePlan_5 rfl rfl ?_
    refine x_bipush (pc := 6) B dX0_takePlan_6 xk_bipush_66 ?_
    rcases xite h with ⟨hc, h⟩ | ⟨hc, h⟩
    · refine x_icmp_lt_t (tgt := 30) (pc := 8) B dX0_takePlan_8 (by decide) hc ?_
      exact x_vret (pc := 30) B hR dX0_takePlan_30 h
    · refine x_icmp_lt_f (pc := 8) B 30 dX0_takePlan_8 (by decide) hc ?_
      refine x_aload_n (pc := 11) B 0 dX0_takePlan_11 rfl rfl ?_
      obtain ⟨v1, hv, h⟩ := xbind h
      refine x_getR (k0 := 0) (pc := 12) B dX0_takePlan_12 rfl xi_0 (by decide) ⟨rfl, rfl, rfl⟩ xt_86 hv ?_
      refine x_iload_n (pc := 15) B 2 dX0_takePlan_15 rfl rfl ?_
      refine x_iload_n (pc := 16) B 1 dX0_takePlan_16 rfl rfl ?_
      refine x_iconst (pc := 17) B dX0_takePlan_17 xk_iconst_3 ?_
      refine x_irem (pc := 18) B dX0_takePlan_18 (by decide) ?_
      obtain ⟨w2, hv, h⟩ := xbind h
      refine x_iast (pc := 19) B dX0_takePlan_19 hv ?_
      refine x_iload_n (pc := 20) B 1 dX0_takePlan_20 rfl rfl ?_
      refine x_iconst (pc := 21) B dX0_takePlan_21 xk_iconst_3 ?_
      refine x_idiv (pc := 22) B dX0_takePlan_22 (by decide) ?_
      refine x_istore_n (L1 := [(2, .int (i2 / (3 : Int32))), (0, .ref a0), (3, .int i3)]) (pc := 23) B dX0_takePlan_23 rfl (by decide) rfl ?_
      refine x_iinc (L1 := [(3, .int (i3 + (-1 : Int32))), (2, .int (i2 / (3 : Int32))), (0, .ref a0)]) (pc := 24) B 2 dX0_takePlan_24 rfl (congrArg _ xk_iconst_m1) (by decide) rfl ?_
      refine x_goto (tgt := 5) (pc := 27) B dX0_takePlan_27 (by decide) ?_
      refine x_sub (L1 := [(0, .ref a0), (2, .int (i2 / (3 : Int32))), (3, .int (i3 + (-1 : Int32)))]) [2, 1, 0] rfl ?_
      exact ih a0 (i2 / (3 : Int32)) (i3 + (-1 : Int32)) w2 h
def fX0_takePlan (a0 : Nat) (i1 : Int32) (w : XW) : Option XW := if xis w a0 0 = true then
  fX0_takePlan_5 1000 a0 i1 (71 : Int32) w
  else none
theorem iX0_takePlan {a0 : Nat} {i1 : Int32} {w : XW} {R9 : XW} (h : fX0_takePlan a0 i1 w = some R9) : xis w a0 0 = true := by
  unfold fX0_takePlan at h
  rcases xite h with ⟨hc, h⟩ | ⟨hc, h⟩
  · exact hc
  · exact absurd h (by simp)
theorem np_X0_takePlan : (parseMethodDescriptor yX0_takePlan.desc).map (fun d => d.parameters.length) = some 1 := by decide +kernel
theorem hy_X0_takePlan : yX0_takePlan.cls ≠ "java/lang/invoke/MethodHandle" ∧ yX0_takePlan.cls ≠ "java/lang/invoke/VarHandle" := ⟨by decide +kernel, by decide +kernel⟩
set_option maxRecDepth 20000 in
theorem eX0_takePlan {cx : CX} {a0 : Nat} {i1 : Int32} {w : XW} {R9 : XW} (h : fX0_takePlan a0 i1 w = some R9) : Ct yX0_takePlan cX0_takePlan 4 none 0 0 cx [.ref a0, .int i1] w none R9 := by
  refine Ct_of (by decide +kernel) (Nat.le_of_ble_eq_true rfl) (fun K B hR => ?_)
  rw [fX0_takePlan] at h
  show Wx K cx 4 w.length 0 [(0, .ref a0), (1, .int i1)] [] w
  rcases xite h with ⟨hc, h⟩ | ⟨hc, h⟩
  · skip
    refine x_iload_n (pc := 0) B 1 dX0_takePlan_0 rfl rfl ?_
    refine x_istore_n (L1 := [(2, .int i1), (0, .ref a0), (1, .int i1)]) (pc := 1) B dX0_takePlan_1 rfl (by decide) rfl ?_
    refine x_bipush (pc := 2) B dX0_takePlan_2 xk_bipush_71 ?_
    refine x_istore_n (L1 := [(3, .int (71 : Int32)), (2, .int i1), (0, .ref a0), (1, .int i1)]) (pc := 4) B dX0_takePlan_4 rfl (by decide) rfl ?_
    refine x_sub (L1 := [(0, .ref a0), (2, .int i1), (3, .int (71 : Int32))]) [2, 1, 0] rfl ?_
    exact pX0_takePlan_5 B hR 1000 a0 i1 (71 : Int32) w h
  · exact absurd h (by simp)
def fX0_sendersOf_4 : Nat → Nat → Int32 → Int32 → Int32 → XW → Option (Int32 × XW)
  | 0, _, _, _, _, _ => none
  | g + 1, a0, i1, i2, i3, w =>
    if (3 : Int32) ≤ i3 then
      some (i2, w)
    else
    (fX0_weightPlace i3 w).bind fun q1 =>
    (fX0_cell a0 q1.1 q1.2).bind fun q2 =>
    if q2.1 ≤ (0 : Int32) then
      fX0_sendersOf_4 g a0 i1 i2 (i3 + (1 : Int32)) q2.2
    else
    (fX0_messagePlace i3 q2.2).bind fun q3 =>
    (fX0_cell a0 q3.1 q3.2).bind fun q4 =>
    if q4.1 = i1 then
      fX0_sendersOf_4 g a0 i1 (i2 ||| ((1 : Int32) <<< (i3 &&& 31))) (i3 + (1 : Int32)) q4.2
    else
    fX0_sendersOf_4 g a0 i1 i2 (i3 + (1 : Int32)) q4.2
set_option maxRecDepth 20000 in
theorem pX0_sendersOf_4 {K : KX} {cx : CX} {nn : Nat} {R9 : Int32 × XW} (B : XB K cx RX0 cX0_sendersOf 4 nn 1 21) (hR : XR K cx nn (some .int) (some (.int R9.1)) R9.2) : ∀ (g : Nat) (a0 : Nat) (i1 : Int32) (i2 : Int32) (i3 : Int32) (w : XW), fX0_sendersOf_4 g a0 i1 i2 i3 w = some R9 → Wx K cx 4 nn 4 [(0, .ref a0), (1, .int i1), (2, .int i2), (3, .int i3)] [] w := by
  intro g
  induction g with
  | zero =>
    intro a0 i1 i2 i3 w h
    exact absurd (show (none : Option (Int32 × XW)) = some R9 from h) (by simp)
  | succ g ih =>
    intro a0 i1 i2 i3 w h
    rw [fX0_sendersOf_4] at h
    refine x_iload_n (pc := 4) B 3 dX0_sendersOf_4 rfl rfl ?_
    refine x_iconst (pc := 5) B dX0_sendersOf_5 xk_iconst_3 ?_
    rcases xite h with ⟨hc, h⟩ | ⟨hc, h⟩
    · refine x_icmp_ge_t (tgt := 44) (pc := 6) B dX0_sendersOf_6 (by decide) hc ?_
      refine x_iload_n (pc := 44) B 2 dX0_sendersOf_44 rfl rfl ?_
      exact x_iret (pc := 45) B hR dX0_sendersOf_45 (xzI _) h
    · refine x_icmp_ge_f (pc := 6) B 44 dX0_sendersOf_6 (by decide) hc ?_
      refine x_aload_n (pc := 9) B 0 dX0_sendersOf_9 rfl rfl ?_
      refine x_iload_n (pc := 10) B 3 dX0_sendersOf_10 rfl rfl ?_
      obtain ⟨q1, hq, h⟩ := xbind h
      refine x_callS1 (st := [.ref a0]) (pc := 11) B dX0_sendersOf_11 (eX0_weightPlace hq) xt_149 xt_54 np_X0_weightPlace hy_X0_weightPlace (Nat.le_of_ble_eq_true rfl) (Nat.le_of_ble_eq_true rfl) (Nat.le_of_ble_eq_true rfl) xt_148 xt_147 rfl ?_
      obtain ⟨q2, hq, h⟩ := xbind h
      refine x_callV1 (st := []) (pc := 14) B dX0_sendersOf_14 (eX0_cell hq) xt_153 xt_54 np_X0_cell hy_X0_cell (Nat.le_of_ble_eq_true rfl) (Nat.le_of_ble_eq_true rfl) (Nat.le_of_ble_eq_true rfl) xt_151 xt_152 xt_150 rfl (iX0_cell hq) rfl ?_
      rcases xite h with ⟨hc, h⟩ | ⟨hc, h⟩
      · refine x_if_le_t (tgt := 38) (pc := 17) B dX0_sendersOf_17 (by decide) hc ?_
        refine x_iinc (L1 := [(3, .int (i3 + (1 : Int32))), (0, .ref a0), (1, .int i1), (2, .int i2)]) (pc := 38) B 3 dX0_sendersOf_38 rfl (congrArg _ xk_iconst_1) (by decide) rfl ?_
        refine x_goto (tgt := 4) (pc := 41) B dX0_sendersOf_41 (by decide) ?_
        refine x_sub (L1 := [(0, .ref a0), (1, .int i1), (2, .int i2), (3, .int (i3 + (1 : Int32)))]) [1, 2, 3, 0] rfl ?_
        exact ih a0 i1 i2 (i3 + (1 : Int32)) q2.2 h
      · refine x_if_le_f (pc := 17) B 38 dX0_sendersOf_17 (by decide) hc ?_
        refine x_aload_n (pc := 20) B 0 dX0_sendersOf_20 rfl rfl ?_
        refine x_iload_n (pc := 21) B 3 dX0_sendersOf_21 rfl rfl ?_
        obtain ⟨q3, hq, h⟩ := xbind h
        refine x_callS1 (st := [.ref a0]) (pc := 22) B dX0_sendersOf_22 (eX0_messagePlace hq) xt_209 xt_54 np_X0_messagePlace hy_X0_messagePlace (Nat.le_of_ble_eq_true rfl) (Nat.le_of_ble_eq_true rfl) (Nat.le_of_ble_eq_true rfl) xt_208 xt_262 rfl ?_
        obtain ⟨q4, hq, h⟩ := xbind h
        refine x_callV1 (st := []) (pc := 25) B dX0_sendersOf_25 (eX0_cell hq) xt_153 xt_54 np_X0_cell hy_X0_cell (Nat.le_of_ble_eq_true rfl) (Nat.le_of_ble_eq_true rfl) (Nat.le_of_ble_eq_true rfl) xt_151 xt_152 xt_150 rfl (iX0_cell hq) rfl ?_
        refine x_iload_n (pc := 28) B 1 dX0_sendersOf_28 rfl rfl ?_
        rcases xite h with ⟨hc, h⟩ | ⟨hc, h⟩
        · refine x_icmp_ne_f (pc := 29) B 38 dX0_sendersOf_29 (by decide) hc ?_
          refine x_iload_n (pc := 32) B 2 dX0_sendersOf_32 rfl rfl ?_
          refine x_iconst (pc := 33) B dX0_sendersOf_33 xk_iconst_1 ?_
          refine x_iload_n (pc := 34) B 3 dX0_sendersOf_34 rfl rfl ?_
          refine x_ishl (pc := 35) B dX0_sendersOf_35 ?_
          refine x_ior (pc := 36) B dX0_sendersOf_36 ?_
          refine x_istore_n (L1 := [(2, .int (i2 ||| ((1 : Int32) <<< (i3 &&& 31)))), (0, .ref a0), (1, .int i1), (3, .int i3)]) (pc := 37) B dX0_sendersOf_37 rfl (by decide) rfl ?_
          refine x_iinc (L1 := [(3, .int (i3 + (1 : Int32))), (2, .int (i2 ||| ((1 : Int32) <<< (i3 &&& 31)))), (0, .ref a0), (1, .int i1)]) (pc := 38) B 3 dX0_sendersOf_38 rfl (congrArg _ xk_iconst_1) (by decide) rfl ?_
          refine x_goto (tgt := 4) (pc := 41) B dX0_sendersOf_41 (by decide) ?_
          refine x_sub (L1 := [(0, .ref a0), (1, .int i1), (2, .int (i2 ||| ((1 : Int32) <<< (i3 &&& 31)))), (3, .int (i3 + (1 : Int32)))]) [2, 3, 1, 0] rfl ?_
          exact ih a0 i1 (i2 ||| ((1 : Int32) <<< (i3 &&& 31))) (i3 + (1 : Int32)) q4.2 h
        · refine x_icmp_ne_t (tgt := 38) (pc := 29) B dX0_sendersOf_29 (by decide) hc ?_
          refine x_iinc (L1 := [(3, .int (i3 + (1 : Int32))), (0, .ref a0), (1, .int i1), (2, .int i2)]) (pc := 38) B 3 dX0_sendersOf_38 rfl (congrArg _ xk_iconst_1) (by decide) rfl ?_
          refine x_goto (tgt := 4) (pc := 41) B dX0_sendersOf_41 (by decide) ?_
          refine x_sub (L1 := [(0, .ref a0), (1, .int i1), (2, .int i2), (3, .int (i3 + (1 : Int32)))]) [1, 2, 3, 0] rfl ?_
          exact ih a0 i1 i2 (i3 + (1 : Int32)) q4.2 h
def fX0_sendersOf (a0 : Nat) (i1 : Int32) (w : XW) : Option (Int32 × XW) := if xis w a0 0 = true then
  fX0_sendersOf_4 1000 a0 i1 (0 : Int32) (0 : Int32) w
  else none
theorem iX0_sendersOf {a0 : Nat} {i1 : Int32} {w : XW} {R9 : (Int32 × XW)} (h : fX0_sendersOf a0 i1 w = some R9) : xis w a0 0 = true := by
  unfold fX0_sendersOf at h
  rcases xite h with ⟨hc, h⟩ | ⟨hc, h⟩
  · exact hc
  · exact absurd h (by simp)
theorem np_X0_sendersOf : (parseMethodDescriptor yX0_sendersOf.desc).map (fun d => d.parameters.length) = some 1 := by decide +kernel
theorem hy_X0_sendersOf : yX0_sendersOf.cls ≠ "java/lang/invoke/MethodHandle" ∧ yX0_sendersOf.cls ≠ "java/lang/invoke/VarHandle" := ⟨by decide +kernel, by decide +kernel⟩
set_option maxRecDepth 20000 in
theorem eX0_sendersOf {cx : CX} {a0 : Nat} {i1 : Int32} {w : XW} {R9 : (Int32 × XW)} (h : fX0_sendersOf a0 i1 w = some R9) : Ct yX0_sendersOf cX0_sendersOf 4 (some .int) 1 21 cx [.ref a0, .int i1] w (some (.int R9.1)) R9.2 := by
  refine Ct_of (by decide +kernel) (Nat.le_of_ble_eq_true rfl) (fun K B hR => ?_)
  rw [fX0_sendersOf] at h
  show Wx K cx 4 w.length 0 [(0, .ref a0), (1, .int i1)] [] w
  rcases xite h with ⟨hc, h⟩ | ⟨hc, h⟩
  · skip
    refine x_iconst (pc := 0) B dX0_sendersOf_0 xk_iconst_0 ?_
    refine x_istore_n (L1 := [(2, .int (0 : Int32)), (0, .ref a0), (1, .int i1)]) (pc := 1) B dX0_sendersOf_1 rfl (by decide) rfl ?_
    refine x_iconst (pc := 2) B dX0_sendersOf_2 xk_iconst_0 ?_
    refine x_istore_n (L1 := [(3, .int (0 : Int32)), (2, .int (0 : Int32)), (0, .ref a0), (1, .int i1)]) (pc := 3) B dX0_sendersOf_3 rfl (by decide) rfl ?_
    refine x_sub (L1 := [(0, .ref a0), (1, .int i1), (2, .int (0 : Int32)), (3, .int (0 : Int32))]) [2, 3, 1, 0] rfl ?_
    exact pX0_sendersOf_4 B hR 1000 a0 i1 (0 : Int32) (0 : Int32) w h
  · exact absurd h (by simp)
def fX0_beliefWeight (a0 : Nat) (i1 : Int32) (i2 : Int32) (w : XW) : Option (Int32 × XW) := if xis w a0 0 = true then
  (fX0_sendersOf a0 i1 w).bind fun q1 =>
  if q1.1 = (0 : Int32) then
    (fX0_toldPlace i1 i2 q1.2).bind fun q2 =>
    (fX0_cell a0 q2.1 q2.2).bind fun q3 =>
    some (q3.1, q3.2)
  else
  (fX3_has q1.1 i2 q1.2).bind fun q4 =>
  if q4.1 = (0 : Int32) then
    some ((0 : Int32), q4.2)
  else
  (fX0_weightPlace i2 q4.2).bind fun q5 =>
  (fX0_cell a0 q5.1 q5.2).bind fun q6 =>
  some (q6.1, q6.2)
  else none
theorem iX0_beliefWeight {a0 : Nat} {i1 : Int32} {i2 : Int32} {w : XW} {R9 : (Int32 × XW)} (h : fX0_beliefWeight a0 i1 i2 w = some R9) : xis w a0 0 = true := by
  unfold fX0_beliefWeight at h
  rcases xite h with ⟨hc, h⟩ | ⟨hc, h⟩
  · exact hc
  · exact absurd h (by simp)
theorem np_X0_beliefWeight : (parseMethodDescriptor yX0_beliefWeight.desc).map (fun d => d.parameters.length) = some 2 := by decide +kernel
theorem hy_X0_beliefWeight : yX0_beliefWeight.cls ≠ "java/lang/invoke/MethodHandle" ∧ yX0_beliefWeight.cls ≠ "java/lang/invoke/VarHandle" := ⟨by decide +kernel, by decide +kernel⟩
set_option maxRecDepth 20000 in
theorem eX0_beliefWeight {cx : CX} {a0 : Nat} {i1 : Int32} {i2 : Int32} {w : XW} {R9 : (Int32 × XW)} (h : fX0_beliefWeight a0 i1 i2 w = some R9) : Ct yX0_beliefWeight cX0_beliefWeight 4 (some .int) 2 44 cx [.ref a0, .int i1, .int i2] w (some (.int R9.1)) R9.2 := by
  refine Ct_of (by decide +kernel) (Nat.le_of_ble_eq_true rfl) (fun K B hR => ?_)
  rw [fX0_beliefWeight] at h
  show Wx K cx 4 w.length 0 [(0, .ref a0), (1, .int i1), (2, .int i2)] [] w
  rcases xite h with ⟨hc, h⟩ | ⟨hc, h⟩
  · skip
    refine x_aload_n (pc := 0) B 0 dX0_beliefWeight_0 rfl rfl ?_
    refine x_iload_n (pc := 1) B 1 dX0_beliefWeight_1 rfl rfl ?_
    obtain ⟨q1, hq, h⟩ := xbind h
    refine x_callV1 (st := []) (pc := 2) B dX0_beliefWeight_2 (eX0_sendersOf hq) xt_261 xt_54 np_X0_sendersOf hy_X0_sendersOf (Nat.le_of_ble_eq_true rfl) (Nat.le_of_ble_eq_true rfl) (Nat.le_of_ble_eq_true rfl) xt_259 xt_260 xt_258 rfl (iX0_sendersOf hq) rfl ?_
    refine x_istore_n (L1 := [(3, .int q1.1), (0, .ref a0), (1, .int i1), (2, .int i2)]) (pc := 5) B dX0_beliefWeight_5 rfl (by decide) rfl ?_
    refine x_iload_n (pc := 6) B 0 dX0_beliefWeight_6 rfl rfl ?_
    rcases xite h with ⟨hc, h⟩ | ⟨hc, h⟩
    · refine x_if_ne_f (pc := 7) B 20 dX0_beliefWeight_7 (by decide) hc ?_
      refine x_aload_n (pc := 10) B 1 dX0_beliefWeight_10 rfl rfl ?_
      refine x_iload_n (pc := 11) B 2 dX0_beliefWeight_11 rfl rfl ?_
      refine x_iload_n (pc := 12) B 3 dX0_beliefWeight_12 rfl rfl ?_
      obtain ⟨q2, hq, h⟩ := xbind h
      refine x_callS1 (st := [.ref a0]) (pc := 13) B dX0_beliefWeight_13 (eX0_toldPlace hq) xt_201 xt_54 np_X0_toldPlace hy_X0_toldPlace (Nat.le_of_ble_eq_true rfl) (Nat.le_of_ble_eq_true rfl) (Nat.le_of_ble_eq_true rfl) xt_200 xt_199 rfl ?_
      obtain ⟨q3, hq, h⟩ := xbind h
      refine x_callV1 (st := []) (pc := 16) B dX0_beliefWeight_16 (eX0_cell hq) xt_153 xt_54 np_X0_cell hy_X0_cell (Nat.le_of_ble_eq_true rfl) (Nat.le_of_ble_eq_true rfl) (Nat.le_of_ble_eq_true rfl) xt_151 xt_152 xt_150 rfl (iX0_cell hq) rfl ?_
      exact x_iret (pc := 19) B hR dX0_beliefWeight_19 (xzI _) h
    · refine x_if_ne_t (tgt := 20) (pc := 7) B dX0_beliefWeight_7 (by decide) hc ?_
      refine x_iload_n (pc := 20) B 0 dX0_beliefWeight_20 rfl rfl ?_
      refine x_iload_n (pc := 21) B 3 dX0_beliefWeight_21 rfl rfl ?_
      obtain ⟨q4, hq, h⟩ := xbind h
      refine x_callSN1 (st := []) (pc := 22) B dX0_beliefWeight_22 (eX3_has hq) xt_265 xt_53 np_X3_has hy_X3_has (Nat.le_of_ble_eq_true rfl) (Nat.le_of_ble_eq_true rfl) (Nat.le_of_ble_eq_true rfl) xt_264 (List.mem_of_getElem? (i := 1) rfl) rfl ?_
      rcases xite h with ⟨hc, h⟩ | ⟨hc, h⟩
      · refine x_if_eq_t (tgt := 39) (pc := 25) B dX0_beliefWeight_25 (by decide) hc ?_
        refine x_iconst (pc := 39) B dX0_beliefWeight_39 xk_iconst_0 ?_
        exact x_iret (pc := 40) B hR dX0_beliefWeight_40 (xzI _) h
      · refine x_if_eq_f (pc := 25) B 39 dX0_beliefWeight_25 (by decide) hc ?_
        refine x_aload_n (pc := 28) B 1 dX0_beliefWeight_28 rfl rfl ?_
        refine x_iload_n (pc := 29) B 3 dX0_beliefWeight_29 rfl rfl ?_
        obtain ⟨q5, hq, h⟩ := xbind h
        refine x_callS1 (st := [.ref a0]) (pc := 30) B dX0_beliefWeight_30 (eX0_weightPlace hq) xt_149 xt_54 np_X0_weightPlace hy_X0_weightPlace (Nat.le_of_ble_eq_true rfl) (Nat.le_of_ble_eq_true rfl) (Nat.le_of_ble_eq_true rfl) xt_148 xt_147 rfl ?_
        obtain ⟨q6, hq, h⟩ := xbind h
        refine x_callV1 (st := []) (pc := 33) B dX0_beliefWeight_33 (eX0_cell hq) xt_153 xt_54 np_X0_cell hy_X0_cell (Nat.le_of_ble_eq_true rfl) (Nat.le_of_ble_eq_true rfl) (Nat.le_of_ble_eq_true rfl) xt_151 xt_152 xt_150 rfl (iX0_cell hq) rfl ?_
        refine x_goto (tgt := 40) (pc := 36) B dX0_beliefWeight_36 (by decide) ?_
        exact x_iret (pc := 40) B hR dX0_beliefWeight_40 (xzI _) h
  · exact absurd h (by simp)
def fX0_worthBy (a0 : Nat) (i1 : Int32) (i2 : Int32) (i3 : Int32) (i4 : Int32) (i5 : Int32) (w : XW) : Option (Int32 × XW) := if xis w a0 0 = true then
  (fX0_payPlace (1 : Int32) (0 : Int32) i1 i2 w).bind fun q1 =>
  (fX0_cell a0 q1.1 q1.2).bind fun q2 =>
  (fX0_payPlace (1 : Int32) (1 : Int32) i1 i2 q2.2).bind fun q3 =>
  (fX0_cell a0 q3.1 q3.2).bind fun q4 =>
  (fX0_payPlace (1 : Int32) (2 : Int32) i1 i2 q4.2).bind fun q5 =>
  (fX0_cell a0 q5.1 q5.2).bind fun q6 =>
  some ((((i3 * q2.1) + (i4 * q4.1)) + (i5 * q6.1)), q6.2)
  else none
theorem iX0_worthBy {a0 : Nat} {i1 : Int32} {i2 : Int32} {i3 : Int32} {i4 : Int32} {i5 : Int32} {w : XW} {R9 : (Int32 × XW)} (h : fX0_worthBy a0 i1 i2 i3 i4 i5 w = some R9) : xis w a0 0 = true := by
  unfold fX0_worthBy at h
  rcases xite h with ⟨hc, h⟩ | ⟨hc, h⟩
  · exact hc
  · exact absurd h (by simp)
theorem np_X0_worthBy : (parseMethodDescriptor yX0_worthBy.desc).map (fun d => d.parameters.length) = some 5 := by decide +kernel
theorem hy_X0_worthBy : yX0_worthBy.cls ≠ "java/lang/invoke/MethodHandle" ∧ yX0_worthBy.cls ≠ "java/lang/invoke/VarHandle" := ⟨by decide +kernel, by decide +kernel⟩
set_option maxRecDepth 20000 in
theorem eX0_worthBy {cx : CX} {a0 : Nat} {i1 : Int32} {i2 : Int32} {i3 : Int32} {i4 : Int32} {i5 : Int32} {w : XW} {R9 : (Int32 × XW)} (h : fX0_worthBy a0 i1 i2 i3 i4 i5 w = some R9) : Ct yX0_worthBy cX0_worthBy 6 (some .int) 1 23 cx [.ref a0, .int i1, .int i2, .int i3, .int i4, .int i5] w (some (.int R9.1)) R9.2 := by
  refine Ct_of (by decide +kernel) (Nat.le_of_ble_eq_true rfl) (fun K B hR => ?_)
  rw [fX0_worthBy] at h
  show Wx K cx 6 w.length 0 [(0, .ref a0), (1, .int i1), (2, .int i2), (3, .int i3), (4, .int i4), (5, .int i5)] [] w
  rcases xite h with ⟨hc, h⟩ | ⟨hc, h⟩
  · skip
    refine x_iload_n (pc := 0) B 3 dX0_worthBy_0 rfl rfl ?_
    refine x_aload_n (pc := 1) B 0 dX0_worthBy_1 rfl rfl ?_
    refine x_iconst (pc := 2) B dX0_worthBy_2 xk_iconst_1 ?_
    refine x_iconst (pc := 3) B dX0_worthBy_3 xk_iconst_0 ?_
    refine x_iload_n (pc := 4) B 1 dX0_worthBy_4 rfl rfl ?_
    refine x_iload_n (pc := 5) B 2 dX0_worthBy_5 rfl rfl ?_
    obtain ⟨q1, hq, h⟩ := xbind h
    refine x_callS1 (st := [.ref a0, .int i3]) (pc := 6) B dX0_worthBy_6 (eX0_payPlace hq) xt_186 xt_54 np_X0_payPlace hy_X0_payPlace (Nat.le_of_ble_eq_true rfl) (Nat.le_of_ble_eq_true rfl) (Nat.le_of_ble_eq_true rfl) xt_185 xt_274 rfl ?_
    obtain ⟨q2, hq, h⟩ := xbind h
    refine x_callV1 (st := [.int i3]) (pc := 9) B dX0_worthBy_9 (eX0_cell hq) xt_153 xt_54 np_X0_cell hy_X0_cell (Nat.le_of_ble_eq_true rfl) (Nat.le_of_ble_eq_true rfl) (Nat.le_of_ble_eq_true rfl) xt_151 xt_152 xt_150 rfl (iX0_cell hq) rfl ?_
    refine x_imul (pc := 12) B dX0_worthBy_12 ?_
    refine x_iload (pc := 13) B 4 dX0_worthBy_13 rfl ?_
    refine x_aload_n (pc := 15) B 0 dX0_worthBy_15 rfl rfl ?_
    refine x_iconst (pc := 16) B dX0_worthBy_16 xk_iconst_1 ?_
    refine x_iconst (pc := 17) B dX0_worthBy_17 xk_iconst_1 ?_
    refine x_iload_n (pc := 18) B 1 dX0_worthBy_18 rfl rfl ?_
    refine x_iload_n (pc := 19) B 2 dX0_worthBy_19 rfl rfl ?_
    obtain ⟨q3, hq, h⟩ := xbind h
    refine x_callS1 (st := [.ref a0, .int i4, .int (i3 * q2.1)]) (pc := 20) B dX0_worthBy_20 (eX0_payPlace hq) xt_186 xt_54 np_X0_payPlace hy_X0_payPlace (Nat.le_of_ble_eq_true rfl) (Nat.le_of_ble_eq_true rfl) (Nat.le_of_ble_eq_true rfl) xt_185 xt_274 rfl ?_
    obtain ⟨q4, hq, h⟩ := xbind h
    refine x_callV1 (st := [.int i4, .int (i3 * q2.1)]) (pc := 23) B dX0_worthBy_23 (eX0_cell hq) xt_153 xt_54 np_X0_cell hy_X0_cell (Nat.le_of_ble_eq_true rfl) (Nat.le_of_ble_eq_true rfl) (Nat.le_of_ble_eq_true rfl) xt_151 xt_152 xt_150 rfl (iX0_cell hq) rfl ?_
    refine x_imul (pc := 26) B dX0_worthBy_26 ?_
    refine x_iadd (pc := 27) B dX0_worthBy_27 ?_
    refine x_iload (pc := 28) B 5 dX0_worthBy_28 rfl ?_
    refine x_aload_n (pc := 30) B 0 dX0_worthBy_30 rfl rfl ?_
    refine x_iconst (pc := 31) B dX0_worthBy_31 xk_iconst_1 ?_
    refine x_iconst (pc := 32) B dX0_worthBy_32 xk_iconst_2 ?_
    refine x_iload_n (pc := 33) B 1 dX0_worthBy_33 rfl rfl ?_
    refine x_iload_n (pc := 34) B 2 dX0_worthBy_34 rfl rfl ?_
    obtain ⟨q5, hq, h⟩ := xbind h
    refine x_callS1 (st := [.ref a0, .int i5, .int ((i3 * q2.1) + (i4 * q4.1))]) (pc := 35) B dX0_worthBy_35 (eX0_payPlace hq) xt_186 xt_54 np_X0_payPlace hy_X0_payPlace (Nat.le_of_ble_eq_true rfl) (Nat.le_of_ble_eq_true rfl) (Nat.le_of_ble_eq_true rfl) xt_185 xt_274 rfl ?_
    obtain ⟨q6, hq, h⟩ := xbind h
    refine x_callV1 (st := [.int i5, .int ((i3 * q2.1) + (i4 * q4.1))]) (pc := 38) B dX0_worthBy_38 (eX0_cell hq) xt_153 xt_54 np_X0_cell hy_X0_cell (Nat.le_of_ble_eq_true rfl) (Nat.le_of_ble_eq_true rfl) (Nat.le_of_ble_eq_true rfl) xt_151 xt_152 xt_150 rfl (iX0_cell hq) rfl ?_
    refine x_imul (pc := 41) B dX0_worthBy_41 ?_
    refine x_iadd (pc := 42) B dX0_worthBy_42 ?_
    exact x_iret (pc := 43) B hR dX0_worthBy_43 (xzI _) h
  · exact absurd h (by simp)
def fX0_bestBy_9 : Nat → Nat → Int32 → Int32 → Int32 → Int32 → Int32 → Int32 → Int32 → XW → Option (Int32 × XW)
  | 0, _, _, _, _, _, _, _, _, _ => none
  | g + 1, a0, i1, i2, i3, i4, i5, i6, i7, w =>
    if (3 : Int32) ≤ i7 then
      some (i5, w)
    else
    (fX0_worthBy a0 i1 i7 i2 i3 i4 w).bind fun q1 =>
    if i5 = (0 : Int32) then
      fX0_bestBy_9 g a0 i1 i2 i3 i4 ((1 : Int32) <<< (i7 &&& 31)) q1.1 (i7 + (1 : Int32)) q1.2
    else
    if q1.1 ≤ i6 then
      if q1.1 = i6 then
        fX0_bestBy_9 g a0 i1 i2 i3 i4 (i5 ||| ((1 : Int32) <<< (i7 &&& 31))) i6 (i7 + (1 : Int32)) q1.2
      else
      fX0_bestBy_9 g a0 i1 i2 i3 i4 i5 i6 (i7 + (1 : Int32)) q1.2
    else
    fX0_bestBy_9 g a0 i1 i2 i3 i4 ((1 : Int32) <<< (i7 &&& 31)) q1.1 (i7 + (1 : Int32)) q1.2
set_option maxRecDepth 20000 in
theorem pX0_bestBy_9 {K : KX} {cx : CX} {nn : Nat} {R9 : Int32 × XW} (B : XB K cx RX0 cX0_bestBy 9 nn 2 48) (hR : XR K cx nn (some .int) (some (.int R9.1)) R9.2) : ∀ (g : Nat) (a0 : Nat) (i1 : Int32) (i2 : Int32) (i3 : Int32) (i4 : Int32) (i5 : Int32) (i6 : Int32) (i7 : Int32) (w : XW), fX0_bestBy_9 g a0 i1 i2 i3 i4 i5 i6 i7 w = some R9 → Wx K cx 9 nn 9 [(0, .ref a0), (1, .int i1), (2, .int i2), (3, .int i3), (4, .int i4), (5, .int i5), (6, .int i6), (7, .int i7)] [] w := by
  intro g
  induction g with
  | zero =>
    intro a0 i1 i2 i3 i4 i5 i6 i7 w h
    exact absurd (show (none : Option (Int32 × XW)) = some R9 from h) (by simp)
  | succ g ih =>
    intro a0 i1 i2 i3 i4 i5 i6 i7 w h
    rw [fX0_bestBy_9] at h
    refine x_iload (pc := 9) B 7 dX0_bestBy_9 rfl ?_
    refine x_iconst (pc := 11) B dX0_bestBy_11 xk_iconst_3 ?_
    rcases xite h with ⟨hc, h⟩ | ⟨hc, h⟩
    · refine x_icmp_ge_t (tgt := 75) (pc := 12) B dX0_bestBy_12 (by decide) hc ?_
      refine x_iload (pc := 75) B 5 dX0_bestBy_75 rfl ?_
      exact x_iret (pc := 77) B hR dX0_bestBy_77 (xzI _) h
    · refine x_icmp_ge_f (pc := 12) B 75 dX0_bestBy_12 (by decide) hc ?_
      refine x_aload_n (pc := 15) B 0 dX0_bestBy_15 rfl rfl ?_
      refine x_iload_n (pc := 16) B 1 dX0_bestBy_16 rfl rfl ?_
      refine x_iload (pc := 17) B 7 dX0_bestBy_17 rfl ?_
      refine x_iload_n (pc := 19) B 2 dX0_bestBy_19 rfl rfl ?_
      refine x_iload_n (pc := 20) B 3 dX0_bestBy_20 rfl rfl ?_
      refine x_iload (pc := 21) B 4 dX0_bestBy_21 rfl ?_
      obtain ⟨q1, hq, h⟩ := xbind h
      refine x_callV1 (st := []) (pc := 23) B dX0_bestBy_23 (eX0_worthBy hq) xt_273 xt_54 np_X0_worthBy hy_X0_worthBy (Nat.le_of_ble_eq_true rfl) (Nat.le_of_ble_eq_true rfl) (Nat.le_of_ble_eq_true rfl) xt_272 xt_7 xt_270 rfl (iX0_worthBy hq) rfl ?_
      refine x_istore (L1 := [(8, .int q1.1), (0, .ref a0), (1, .int i1), (2, .int i2), (3, .int i3), (4, .int i4), (5, .int i5), (6, .int i6), (7, .int i7)]) (pc := 26) B dX0_bestBy_26 (by decide) rfl ?_
      refine x_iload (pc := 28) B 6 dX0_bestBy_28 rfl ?_
      rcases xite h with ⟨hc, h⟩ | ⟨hc, h⟩
      · refine x_if_eq_t (tgt := 40) (pc := 30) B dX0_bestBy_30 (by decide) hc ?_
        refine x_iconst (pc := 40) B dX0_bestBy_40 xk_iconst_1 ?_
        refine x_iload (pc := 41) B 8 dX0_bestBy_41 rfl ?_
        refine x_ishl (pc := 43) B dX0_bestBy_43 ?_
        refine x_istore (L1 := [(5, .int ((1 : Int32) <<< (i7 &&& 31))), (8, .int q1.1), (0, .ref a0), (1, .int i1), (2, .int i2), (3, .int i3), (4, .int i4), (6, .int i6), (7, .int i7)]) (pc := 44) B dX0_bestBy_44 (by decide) rfl ?_
        refine x_iload (pc := 46) B 1 dX0_bestBy_46 rfl ?_
        refine x_istore (L1 := [(6, .int q1.1), (5, .int ((1 : Int32) <<< (i7 &&& 31))), (8, .int q1.1), (0, .ref a0), (1, .int i1), (2, .int i2), (3, .int i3), (4, .int i4), (7, .int i7)]) (pc := 48) B dX0_bestBy_48 (by decide) rfl ?_
        refine x_goto (tgt := 69) (pc := 50) B dX0_bestBy_50 (by decide) ?_
        refine x_iinc (L1 := [(7, .int (i7 + (1 : Int32))), (6, .int q1.1), (5, .int ((1 : Int32) <<< (i7 &&& 31))), (8, .int q1.1), (0, .ref a0), (1, .int i1), (2, .int i2), (3, .int i3), (4, .int i4)]) (pc := 69) B 8 dX0_bestBy_69 rfl (congrArg _ xk_iconst_1) (by decide) rfl ?_
        refine x_goto (tgt := 9) (pc := 72) B dX0_bestBy_72 (by decide) ?_
        refine x_sub (L1 := [(0, .ref a0), (1, .int i1), (2, .int i2), (3, .int i3), (4, .int i4), (5, .int ((1 : Int32) <<< (i7 &&& 31))), (6, .int q1.1), (7, .int (i7 + (1 : Int32)))]) [4, 5, 6, 7, 8, 2, 1, 0] rfl ?_
        exact ih a0 i1 i2 i3 i4 ((1 : Int32) <<< (i7 &&& 31)) q1.1 (i7 + (1 : Int32)) q1.2 h
      · refine x_if_eq_f (pc := 30) B 40 dX0_bestBy_30 (by decide) hc ?_
        refine x_iload (pc := 33) B 0 dX0_bestBy_33 rfl ?_
        refine x_iload (pc := 35) B 7 dX0_bestBy_35 rfl ?_
        rcases xite h with ⟨hc, h⟩ | ⟨hc, h⟩
        · refine x_icmp_le_t (tgt := 53) (pc := 37) B dX0_bestBy_37 (by decide) hc ?_
          refine x_iload (pc := 53) B 0 dX0_bestBy_53 rfl ?_
          refine x_iload (pc := 55) B 7 dX0_bestBy_55 rfl ?_
          rcases xite h with ⟨hc, h⟩ | ⟨hc, h⟩
          · refine x_icmp_ne_f (pc := 57) B 69 dX0_bestBy_57 (by decide) hc ?_
            refine x_iload (pc := 60) B 6 dX0_bestBy_60 rfl ?_
            refine x_iconst (pc := 62) B dX0_bestBy_62 xk_iconst_1 ?_
            refine x_iload (pc := 63) B 8 dX0_bestBy_63 rfl ?_
            refine x_ishl (pc := 65) B dX0_bestBy_65 ?_
            refine x_ior (pc := 66) B dX0_bestBy_66 ?_
            refine x_istore (L1 := [(5, .int (i5 ||| ((1 : Int32) <<< (i7 &&& 31)))), (8, .int q1.1), (0, .ref a0), (1, .int i1), (2, .int i2), (3, .int i3), (4, .int i4), (6, .int i6), (7, .int i7)]) (pc := 67) B dX0_bestBy_67 (by decide) rfl ?_
            refine x_iinc (L1 := [(7, .int (i7 + (1 : Int32))), (5, .int (i5 ||| ((1 : Int32) <<< (i7 &&& 31)))), (8, .int q1.1), (0, .ref a0), (1, .int i1), (2, .int i2), (3, .int i3), (4, .int i4), (6, .int i6)]) (pc := 69) B 8 dX0_bestBy_69 rfl (congrArg _ xk_iconst_1) (by decide) rfl ?_
            refine x_goto (tgt := 9) (pc := 72) B dX0_bestBy_72 (by decide) ?_
            refine x_sub (L1 := [(0, .ref a0), (1, .int i1), (2, .int i2), (3, .int i3), (4, .int i4), (5, .int (i5 ||| ((1 : Int32) <<< (i7 &&& 31)))), (6, .int i6), (7, .int (i7 + (1 : Int32)))]) [3, 4, 5, 6, 7, 1, 8, 0] rfl ?_
            exact ih a0 i1 i2 i3 i4 (i5 ||| ((1 : Int32) <<< (i7 &&& 31))) i6 (i7 + (1 : Int32)) q1.2 h
          · refine x_icmp_ne_t (tgt := 69) (pc := 57) B dX0_bestBy_57 (by decide) hc ?_
            refine x_iinc (L1 := [(7, .int (i7 + (1 : Int32))), (8, .int q1.1), (0, .ref a0), (1, .int i1), (2, .int i2), (3, .int i3), (4, .int i4), (5, .int i5), (6, .int i6)]) (pc := 69) B 8 dX0_bestBy_69 rfl (congrArg _ xk_iconst_1) (by decide) rfl ?_
            refine x_goto (tgt := 9) (pc := 72) B dX0_bestBy_72 (by decide) ?_
            refine x_sub (L1 := [(0, .ref a0), (1, .int i1), (2, .int i2), (3, .int i3), (4, .int i4), (5, .int i5), (6, .int i6), (7, .int (i7 + (1 : Int32)))]) [2, 3, 4, 5, 6, 7, 8, 0] rfl ?_
            exact ih a0 i1 i2 i3 i4 i5 i6 (i7 + (1 : Int32)) q1.2 h
        · refine x_icmp_le_f (pc := 37) B 53 dX0_bestBy_37 (by decide) hc ?_
          refine x_iconst (pc := 40) B dX0_bestBy_40 xk_iconst_1 ?_
          refine x_iload (pc := 41) B 8 dX0_bestBy_41 rfl ?_
          refine x_ishl (pc := 43) B dX0_bestBy_43 ?_
          refine x_istore (L1 := [(5, .int ((1 : Int32) <<< (i7 &&& 31))), (8, .int q1.1), (0, .ref a0), (1, .int i1), (2, .int i2), (3, .int i3), (4, .int i4), (6, .int i6), (7, .int i7)]) (pc := 44) B dX0_bestBy_44 (by decide) rfl ?_
          refine x_iload (pc := 46) B 1 dX0_bestBy_46 rfl ?_
          refine x_istore (L1 := [(6, .int q1.1), (5, .int ((1 : Int32) <<< (i7 &&& 31))), (8, .int q1.1), (0, .ref a0), (1, .int i1), (2, .int i2), (3, .int i3), (4, .int i4), (7, .int i7)]) (pc := 48) B dX0_bestBy_48 (by decide) rfl ?_
          refine x_goto (tgt := 69) (pc := 50) B dX0_bestBy_50 (by decide) ?_
          refine x_iinc (L1 := [(7, .int (i7 + (1 : Int32))), (6, .int q1.1), (5, .int ((1 : Int32) <<< (i7 &&& 31))), (8, .int q1.1), (0, .ref a0), (1, .int i1), (2, .int i2), (3, .int i3), (4, .int i4)]) (pc := 69) B 8 dX0_bestBy_69 rfl (congrArg _ xk_iconst_1) (by decide) rfl ?_
          refine x_goto (tgt := 9) (pc := 72) B dX0_bestBy_72 (by decide) ?_
          refine x_sub (L1 := [(0, .ref a0), (1, .int i1), (2, .int i2), (3, .int i3), (4, .int i4), (5, .int ((1 : Int32) <<< (i7 &&& 31))), (6, .int q1.1), (7, .int (i7 + (1 : Int32)))]) [4, 5, 6, 7, 8, 2, 1, 0] rfl ?_
          exact ih a0 i1 i2 i3 i4 ((1 : Int32) <<< (i7 &&& 31)) q1.1 (i7 + (1 : Int32)) q1.2 h
def fX0_bestBy (a0 : Nat) (i1 : Int32) (i2 : Int32) (i3 : Int32) (i4 : Int32) (w : XW) : Option (Int32 × XW) := if xis w a0 0 = true then
  fX0_bestBy_9 1000 a0 i1 i2 i3 i4 (0 : Int32) (0 : Int32) (0 : Int32) w
  else none
theorem iX0_bestBy {a0 : Nat} {i1 : Int32} {i2 : Int32} {i3 : Int32} {i4 : Int32} {w : XW} {R9 : (Int32 × XW)} (h : fX0_bestBy a0 i1 i2 i3 i4 w = some R9) : xis w a0 0 = true := by
  unfold fX0_bestBy at h
  rcases xite h with ⟨hc, h⟩ | ⟨hc, h⟩
  · exact hc
  · exact absurd h (by simp)
theorem np_X0_bestBy : (parseMethodDescriptor yX0_bestBy.desc).map (fun d => d.parameters.length) = some 4 := by decide +kernel
theorem hy_X0_bestBy : yX0_bestBy.cls ≠ "java/lang/invoke/MethodHandle" ∧ yX0_bestBy.cls ≠ "java/lang/invoke/VarHandle" := ⟨by decide +kernel, by decide +kernel⟩
set_option maxRecDepth 20000 in
theorem eX0_bestBy {cx : CX} {a0 : Nat} {i1 : Int32} {i2 : Int32} {i3 : Int32} {i4 : Int32} {w : XW} {R9 : (Int32 × XW)} (h : fX0_bestBy a0 i1 i2 i3 i4 w = some R9) : Ct yX0_bestBy cX0_bestBy 9 (some .int) 2 48 cx [.ref a0, .int i1, .int i2, .int i3, .int i4] w (some (.int R9.1)) R9.2 := by
  refine Ct_of (by decide +kernel) (Nat.le_of_ble_eq_true rfl) (fun K B hR => ?_)
  rw [fX0_bestBy] at h
  show Wx K cx 9 w.length 0 [(0, .ref a0), (1, .int i1), (2, .int i2), (3, .int i3), (4, .int i4)] [] w
  rcases xite h with ⟨hc, h⟩ | ⟨hc, h⟩
  · skip
    refine x_iconst (pc := 0) B dX0_bestBy_0 xk_iconst_0 ?_
    refine x_istore (L1 := [(5, .int (0 : Int32)), (0, .ref a0), (1, .int i1), (2, .int i2), (3, .int i3), (4, .int i4)]) (pc := 1) B dX0_bestBy_1 (by decide) rfl ?_
    refine x_iconst (pc := 3) B dX0_bestBy_3 xk_iconst_0 ?_
    refine x_istore (L1 := [(6, .int (0 : Int32)), (5, .int (0 : Int32)), (0, .ref a0), (1, .int i1), (2, .int i2), (3, .int i3), (4, .int i4)]) (pc := 4) B dX0_bestBy_4 (by decide) rfl ?_
    refine x_iconst (pc := 6) B dX0_bestBy_6 xk_iconst_0 ?_
    refine x_istore (L1 := [(7, .int (0 : Int32)), (6, .int (0 : Int32)), (5, .int (0 : Int32)), (0, .ref a0), (1, .int i1), (2, .int i2), (3, .int i3), (4, .int i4)]) (pc := 7) B dX0_bestBy_7 (by decide) rfl ?_
    refine x_sub (L1 := [(0, .ref a0), (1, .int i1), (2, .int i2), (3, .int i3), (4, .int i4), (5, .int (0 : Int32)), (6, .int (0 : Int32)), (7, .int (0 : Int32))]) [3, 4, 5, 6, 7, 2, 1, 0] rfl ?_
    exact pX0_bestBy_9 B hR 1000 a0 i1 i2 i3 i4 (0 : Int32) (0 : Int32) (0 : Int32) w h
  · exact absurd h (by simp)
def fX0_bestActions (a0 : Nat) (i1 : Int32) (w : XW) : Option (Int32 × XW) := if xis w a0 0 = true then
  (fX0_beliefWeight a0 i1 (0 : Int32) w).bind fun q1 =>
  (fX0_beliefWeight a0 i1 (1 : Int32) q1.2).bind fun q2 =>
  (fX0_beliefWeight a0 i1 (2 : Int32) q2.2).bind fun q3 =>
  (fX0_bestBy a0 i1 q1.1 q2.1 q3.1 q3.2).bind fun q4 =>
  some (q4.1, q4.2)
  else none
theorem iX0_bestActions {a0 : Nat} {i1 : Int32} {w : XW} {R9 : (Int32 × XW)} (h : fX0_bestActions a0 i1 w = some R9) : xis w a0 0 = true := by
  unfold fX0_bestActions at h
  rcases xite h with ⟨hc, h⟩ | ⟨hc, h⟩
  · exact hc
  · exact absurd h (by simp)
theorem np_X0_bestActions : (parseMethodDescriptor yX0_bestActions.desc).map (fun d => d.parameters.length) = some 1 := by decide +kernel
theorem hy_X0_bestActions : yX0_bestActions.cls ≠ "java/lang/invoke/MethodHandle" ∧ yX0_bestActions.cls ≠ "java/lang/invoke/VarHandle" := ⟨by decide +kernel, by decide +kernel⟩
set_option maxRecDepth 20000 in
theorem eX0_bestActions {cx : CX} {a0 : Nat} {i1 : Int32} {w : XW} {R9 : (Int32 × XW)} (h : fX0_bestActions a0 i1 w = some R9) : Ct yX0_bestActions cX0_bestActions 5 (some .int) 3 76 cx [.ref a0, .int i1] w (some (.int R9.1)) R9.2 := by
  refine Ct_of (by decide +kernel) (Nat.le_of_ble_eq_true rfl) (fun K B hR => ?_)
  rw [fX0_bestActions] at h
  show Wx K cx 5 w.length 0 [(0, .ref a0), (1, .int i1)] [] w
  rcases xite h with ⟨hc, h⟩ | ⟨hc, h⟩
  · skip
    refine x_aload_n (pc := 0) B 0 dX0_bestActions_0 rfl rfl ?_
    refine x_iload_n (pc := 1) B 1 dX0_bestActions_1 rfl rfl ?_
    refine x_iconst (pc := 2) B dX0_bestActions_2 xk_iconst_0 ?_
    obtain ⟨q1, hq, h⟩ := xbind h
    refine x_callV1 (st := []) (pc := 3) B dX0_bestActions_3 (eX0_beliefWeight hq) xt_257 xt_54 np_X0_beliefWeight hy_X0_beliefWeight (Nat.le_of_ble_eq_true rfl) (Nat.le_of_ble_eq_true rfl) (Nat.le_of_ble_eq_true rfl) xt_255 xt_256 xt_254 rfl (iX0_beliefWeight hq) rfl ?_
    refine x_istore_n (L1 := [(2, .int q1.1), (0, .ref a0), (1, .int i1)]) (pc := 6) B dX0_bestActions_6 rfl (by decide) rfl ?_
    refine x_aload_n (pc := 7) B 1 dX0_bestActions_7 rfl rfl ?_
    refine x_iload_n (pc := 8) B 2 dX0_bestActions_8 rfl rfl ?_
    refine x_iconst (pc := 9) B dX0_bestActions_9 xk_iconst_1 ?_
    obtain ⟨q2, hq, h⟩ := xbind h
    refine x_callV1 (st := []) (pc := 10) B dX0_bestActions_10 (eX0_beliefWeight hq) xt_257 xt_54 np_X0_beliefWeight hy_X0_beliefWeight (Nat.le_of_ble_eq_true rfl) (Nat.le_of_ble_eq_true rfl) (Nat.le_of_ble_eq_true rfl) xt_255 xt_256 xt_254 rfl (iX0_beliefWeight hq) rfl ?_
    refine x_istore_n (L1 := [(3, .int q2.1), (2, .int q1.1), (0, .ref a0), (1, .int i1)]) (pc := 13) B dX0_bestActions_13 rfl (by decide) rfl ?_
    refine x_aload_n (pc := 14) B 2 dX0_bestActions_14 rfl rfl ?_
    refine x_iload_n (pc := 15) B 3 dX0_bestActions_15 rfl rfl ?_
    refine x_iconst (pc := 16) B dX0_bestActions_16 xk_iconst_2 ?_
    obtain ⟨q3, hq, h⟩ := xbind h
    refine x_callV1 (st := []) (pc := 17) B dX0_bestActions_17 (eX0_beliefWeight hq) xt_257 xt_54 np_X0_beliefWeight hy_X0_beliefWeight (Nat.le_of_ble_eq_true rfl) (Nat.le_of_ble_eq_true rfl) (Nat.le_of_ble_eq_true rfl) xt_255 xt_256 xt_254 rfl (iX0_beliefWeight hq) rfl ?_
    refine x_istore (L1 := [(4, .int q3.1), (3, .int q2.1), (2, .int q1.1), (0, .ref a0), (1, .int i1)]) (pc := 20) B dX0_bestActions_20 (by decide) rfl ?_
    refine x_aload_n (pc := 22) B 3 dX0_bestActions_22 rfl rfl ?_
    refine x_iload_n (pc := 23) B 4 dX0_bestActions_23 rfl rfl ?_
    refine x_iload_n (pc := 24) B 2 dX0_bestActions_24 rfl rfl ?_
    refine x_iload_n (pc := 25) B 1 dX0_bestActions_25 rfl rfl ?_
    refine x_iload (pc := 26) B 0 dX0_bestActions_26 rfl ?_
    obtain ⟨q4, hq, h⟩ := xbind h
    refine x_callV1 (st := []) (pc := 28) B dX0_bestActions_28 (eX0_bestBy hq) xt_269 xt_54 np_X0_bestBy hy_X0_bestBy (Nat.le_of_ble_eq_true rfl) (Nat.le_of_ble_eq_true rfl) (Nat.le_of_ble_eq_true rfl) xt_268 xt_6 xt_266 rfl (iX0_bestBy hq) rfl ?_
    exact x_iret (pc := 31) B hR dX0_bestActions_31 (xzI _) h
  · exact absurd h (by simp)
def fX0_payoffBy (a0 : Nat) (i1 : Int32) (i2 : Int32) (w : XW) : Option (Int32 × XW) := if xis w a0 0 = true then
  (fX0_answerPlace i2 w).bind fun q1 =>
  (fX0_cell a0 q1.1 q1.2).bind fun q2 =>
  (fX0_payPlace (0 : Int32) i1 i2 q2.1 q2.2).bind fun q3 =>
  (fX0_cell a0 q3.1 q3.2).bind fun q4 =>
  some (q4.1, q4.2)
  else none
theorem iX0_payoffBy {a0 : Nat} {i1 : Int32} {i2 : Int32} {w : XW} {R9 : (Int32 × XW)} (h : fX0_payoffBy a0 i1 i2 w = some R9) : xis w a0 0 = true := by
  unfold fX0_payoffBy at h
  rcases xite h with ⟨hc, h⟩ | ⟨hc, h⟩
  · exact hc
  · exact absurd h (by simp)
theorem np_X0_payoffBy : (parseMethodDescriptor yX0_payoffBy.desc).map (fun d => d.parameters.length) = some 2 := by decide +kernel
theorem hy_X0_payoffBy : yX0_payoffBy.cls ≠ "java/lang/invoke/MethodHandle" ∧ yX0_payoffBy.cls ≠ "java/lang/invoke/VarHandle" := ⟨by decide +kernel, by decide +kernel⟩
set_option maxRecDepth 20000 in
theorem eX0_payoffBy {cx : CX} {a0 : Nat} {i1 : Int32} {i2 : Int32} {w : XW} {R9 : (Int32 × XW)} (h : fX0_payoffBy a0 i1 i2 w = some R9) : Ct yX0_payoffBy cX0_payoffBy 3 (some .int) 1 23 cx [.ref a0, .int i1, .int i2] w (some (.int R9.1)) R9.2 := by
  refine Ct_of (by decide +kernel) (Nat.le_of_ble_eq_true rfl) (fun K B hR => ?_)
  rw [fX0_payoffBy] at h
  show Wx K cx 3 w.length 0 [(0, .ref a0), (1, .int i1), (2, .int i2)] [] w
  rcases xite h with ⟨hc, h⟩ | ⟨hc, h⟩
  · skip
    refine x_aload_n (pc := 0) B 0 dX0_payoffBy_0 rfl rfl ?_
    refine x_iconst (pc := 1) B dX0_payoffBy_1 xk_iconst_0 ?_
    refine x_iload_n (pc := 2) B 1 dX0_payoffBy_2 rfl rfl ?_
    refine x_iload_n (pc := 3) B 2 dX0_payoffBy_3 rfl rfl ?_
    refine x_aload_n (pc := 4) B 0 dX0_payoffBy_4 rfl rfl ?_
    refine x_iload_n (pc := 5) B 2 dX0_payoffBy_5 rfl rfl ?_
    obtain ⟨q1, hq, h⟩ := xbind h
    refine x_callS1 (st := [.ref a0, .int i2, .int i1, .int (0 : Int32), .ref a0]) (pc := 6) B dX0_payoffBy_6 (eX0_answerPlace hq) xt_216 xt_54 np_X0_answerPlace hy_X0_answerPlace (Nat.le_of_ble_eq_true rfl) (Nat.le_of_ble_eq_true rfl) (Nat.le_of_ble_eq_true rfl) xt_215 xt_288 rfl ?_
    obtain ⟨q2, hq, h⟩ := xbind h
    refine x_callV1 (st := [.int i2, .int i1, .int (0 : Int32), .ref a0]) (pc := 9) B dX0_payoffBy_9 (eX0_cell hq) xt_153 xt_54 np_X0_cell hy_X0_cell (Nat.le_of_ble_eq_true rfl) (Nat.le_of_ble_eq_true rfl) (Nat.le_of_ble_eq_true rfl) xt_151 xt_152 xt_150 rfl (iX0_cell hq) rfl ?_
    obtain ⟨q3, hq, h⟩ := xbind h
    refine x_callS1 (st := [.ref a0]) (pc := 12) B dX0_payoffBy_12 (eX0_payPlace hq) xt_186 xt_54 np_X0_payPlace hy_X0_payPlace (Nat.le_of_ble_eq_true rfl) (Nat.le_of_ble_eq_true rfl) (Nat.le_of_ble_eq_true rfl) xt_185 xt_274 rfl ?_
    obtain ⟨q4, hq, h⟩ := xbind h
    refine x_callV1 (st := []) (pc := 15) B dX0_payoffBy_15 (eX0_cell hq) xt_153 xt_54 np_X0_cell hy_X0_cell (Nat.le_of_ble_eq_true rfl) (Nat.le_of_ble_eq_true rfl) (Nat.le_of_ble_eq_true rfl) xt_151 xt_152 xt_150 rfl (iX0_cell hq) rfl ?_
    exact x_iret (pc := 18) B hR dX0_payoffBy_18 (xzI _) h
  · exact absurd h (by simp)
def fX0_dearestMessage_4 : Nat → Nat → Int32 → Int32 → Int32 → XW → Option (Int32 × XW)
  | 0, _, _, _, _, _ => none
  | g + 1, a0, i1, i2, i3, w =>
    if (3 : Int32) ≤ i3 then
      some (i2, w)
    else
    (fX0_payoffBy a0 i1 i3 w).bind fun q1 =>
    (fX0_payoffBy a0 i1 i2 q1.2).bind fun q2 =>
    if q1.1 ≤ q2.1 then
      fX0_dearestMessage_4 g a0 i1 i2 (i3 + (1 : Int32)) q2.2
    else
    fX0_dearestMessage_4 g a0 i1 i3 (i3 + (1 : Int32)) q2.2
set_option maxRecDepth 20000 in
theorem pX0_dearestMessage_4 {K : KX} {cx : CX} {nn : Nat} {R9 : Int32 × XW} (B : XB K cx RX0 cX0_dearestMessage 4 nn 2 45) (hR : XR K cx nn (some .int) (some (.int R9.1)) R9.2) : ∀ (g : Nat) (a0 : Nat) (i1 : Int32) (i2 : Int32) (i3 : Int32) (w : XW), fX0_dearestMessage_4 g a0 i1 i2 i3 w = some R9 → Wx K cx 4 nn 4 [(0, .ref a0), (1, .int i1), (2, .int i2), (3, .int i3)] [] w := by
  intro g
  induction g with
  | zero =>
    intro a0 i1 i2 i3 w h
    exact absurd (show (none : Option (Int32 × XW)) = some R9 from h) (by simp)
  | succ g ih =>
    intro a0 i1 i2 i3 w h
    rw [fX0_dearestMessage_4] at h
    refine x_iload_n (pc := 4) B 3 dX0_dearestMessage_4 rfl rfl ?_
    refine x_iconst (pc := 5) B dX0_dearestMessage_5 xk_iconst_3 ?_
    rcases xite h with ⟨hc, h⟩ | ⟨hc, h⟩
    · refine x_icmp_ge_t (tgt := 32) (pc := 6) B dX0_dearestMessage_6 (by decide) hc ?_
      refine x_iload_n (pc := 32) B 2 dX0_dearestMessage_32 rfl rfl ?_
      exact x_iret (pc := 33) B hR dX0_dearestMessage_33 (xzI _) h
    · refine x_icmp_ge_f (pc := 6) B 32 dX0_dearestMessage_6 (by decide) hc ?_
      refine x_aload_n (pc := 9) B 0 dX0_dearestMessage_9 rfl rfl ?_
      refine x_iload_n (pc := 10) B 1 dX0_dearestMessage_10 rfl rfl ?_
      refine x_iload_n (pc := 11) B 3 dX0_dearestMessage_11 rfl rfl ?_
      obtain ⟨q1, hq, h⟩ := xbind h
      refine x_callV1 (st := []) (pc := 12) B dX0_dearestMessage_12 (eX0_payoffBy hq) xt_287 xt_54 np_X0_payoffBy hy_X0_payoffBy (Nat.le_of_ble_eq_true rfl) (Nat.le_of_ble_eq_true rfl) (Nat.le_of_ble_eq_true rfl) xt_285 xt_286 xt_284 rfl (iX0_payoffBy hq) rfl ?_
      refine x_aload_n (pc := 15) B 0 dX0_dearestMessage_15 rfl rfl ?_
      refine x_iload_n (pc := 16) B 1 dX0_dearestMessage_16 rfl rfl ?_
      refine x_iload_n (pc := 17) B 2 dX0_dearestMessage_17 rfl rfl ?_
      obtain ⟨q2, hq, h⟩ := xbind h
      refine x_callV1 (st := [.int q1.1]) (pc := 18) B dX0_dearestMessage_18 (eX0_payoffBy hq) xt_287 xt_54 np_X0_payoffBy hy_X0_payoffBy (Nat.le_of_ble_eq_true rfl) (Nat.le_of_ble_eq_true rfl) (Nat.le_of_ble_eq_true rfl) xt_285 xt_286 xt_284 rfl (iX0_payoffBy hq) rfl ?_
      rcases xite h with ⟨hc, h⟩ | ⟨hc, h⟩
      · refine x_icmp_le_t (tgt := 26) (pc := 21) B dX0_dearestMessage_21 (by decide) hc ?_
        refine x_iinc (L1 := [(3, .int (i3 + (1 : Int32))), (0, .ref a0), (1, .int i1), (2, .int i2)]) (pc := 26) B 3 dX0_dearestMessage_26 rfl (congrArg _ xk_iconst_1) (by decide) rfl ?_
        refine x_goto (tgt := 4) (pc := 29) B dX0_dearestMessage_29 (by decide) ?_
        refine x_sub (L1 := [(0, .ref a0), (1, .int i1), (2, .int i2), (3, .int (i3 + (1 : Int32)))]) [1, 2, 3, 0] rfl ?_
        exact ih a0 i1 i2 (i3 + (1 : Int32)) q2.2 h
      · refine x_icmp_le_f (pc := 21) B 26 dX0_dearestMessage_21 (by decide) hc ?_
        refine x_iload_n (pc := 24) B 3 dX0_dearestMessage_24 rfl rfl ?_
        refine x_istore_n (L1 := [(2, .int i3), (0, .ref a0), (1, .int i1), (3, .int i3)]) (pc := 25) B dX0_dearestMessage_25 rfl (by decide) rfl ?_
        refine x_iinc (L1 := [(3, .int (i3 + (1 : Int32))), (2, .int i3), (0, .ref a0), (1, .int i1)]) (pc := 26) B 3 dX0_dearestMessage_26 rfl (congrArg _ xk_iconst_1) (by decide) rfl ?_
        refine x_goto (tgt := 4) (pc := 29) B dX0_dearestMessage_29 (by decide) ?_
        refine x_sub (L1 := [(0, .ref a0), (1, .int i1), (2, .int i3), (3, .int (i3 + (1 : Int32)))]) [2, 3, 1, 0] rfl ?_
        exact ih a0 i1 i3 (i3 + (1 : Int32)) q2.2 h
def fX0_dearestMessage (a0 : Nat) (i1 : Int32) (w : XW) : Option (Int32 × XW) := if xis w a0 0 = true then
  fX0_dearestMessage_4 1000 a0 i1 (0 : Int32) (1 : Int32) w
  else none
theorem iX0_dearestMessage {a0 : Nat} {i1 : Int32} {w : XW} {R9 : (Int32 × XW)} (h : fX0_dearestMessage a0 i1 w = some R9) : xis w a0 0 = true := by
  unfold fX0_dearestMessage at h
  rcases xite h with ⟨hc, h⟩ | ⟨hc, h⟩
  · exact hc
  · exact absurd h (by simp)
theorem np_X0_dearestMessage : (parseMethodDescriptor yX0_dearestMessage.desc).map (fun d => d.parameters.length) = some 1 := by decide +kernel
theorem hy_X0_dearestMessage : yX0_dearestMessage.cls ≠ "java/lang/invoke/MethodHandle" ∧ yX0_dearestMessage.cls ≠ "java/lang/invoke/VarHandle" := ⟨by decide +kernel, by decide +kernel⟩
set_option maxRecDepth 20000 in
theorem eX0_dearestMessage {cx : CX} {a0 : Nat} {i1 : Int32} {w : XW} {R9 : (Int32 × XW)} (h : fX0_dearestMessage a0 i1 w = some R9) : Ct yX0_dearestMessage cX0_dearestMessage 4 (some .int) 2 45 cx [.ref a0, .int i1] w (some (.int R9.1)) R9.2 := by
  refine Ct_of (by decide +kernel) (Nat.le_of_ble_eq_true rfl) (fun K B hR => ?_)
  rw [fX0_dearestMessage] at h
  show Wx K cx 4 w.length 0 [(0, .ref a0), (1, .int i1)] [] w
  rcases xite h with ⟨hc, h⟩ | ⟨hc, h⟩
  · skip
    refine x_iconst (pc := 0) B dX0_dearestMessage_0 xk_iconst_0 ?_
    refine x_istore_n (L1 := [(2, .int (0 : Int32)), (0, .ref a0), (1, .int i1)]) (pc := 1) B dX0_dearestMessage_1 rfl (by decide) rfl ?_
    refine x_iconst (pc := 2) B dX0_dearestMessage_2 xk_iconst_1 ?_
    refine x_istore_n (L1 := [(3, .int (1 : Int32)), (2, .int (0 : Int32)), (0, .ref a0), (1, .int i1)]) (pc := 3) B dX0_dearestMessage_3 rfl (by decide) rfl ?_
    refine x_sub (L1 := [(0, .ref a0), (1, .int i1), (2, .int (0 : Int32)), (3, .int (1 : Int32))]) [2, 3, 1, 0] rfl ?_
    exact pX0_dearestMessage_4 B hR 1000 a0 i1 (0 : Int32) (1 : Int32) w h
  · exact absurd h (by simp)
def fX0_ownPayoff (a0 : Nat) (i1 : Int32) (w : XW) : Option (Int32 × XW) := if xis w a0 0 = true then
  (fX0_messagePlace i1 w).bind fun q1 =>
  (fX0_cell a0 q1.1 q1.2).bind fun q2 =>
  (fX0_payoffBy a0 i1 q2.1 q2.2).bind fun q3 =>
  some (q3.1, q3.2)
  else none
theorem iX0_ownPayoff {a0 : Nat} {i1 : Int32} {w : XW} {R9 : (Int32 × XW)} (h : fX0_ownPayoff a0 i1 w = some R9) : xis w a0 0 = true := by
  unfold fX0_ownPayoff at h
  rcases xite h with ⟨hc, h⟩ | ⟨hc, h⟩
  · exact hc
  · exact absurd h (by simp)
theorem np_X0_ownPayoff : (parseMethodDescriptor yX0_ownPayoff.desc).map (fun d => d.parameters.length) = some 1 := by decide +kernel
theorem hy_X0_ownPayoff : yX0_ownPayoff.cls ≠ "java/lang/invoke/MethodHandle" ∧ yX0_ownPayoff.cls ≠ "java/lang/invoke/VarHandle" := ⟨by decide +kernel, by decide +kernel⟩
set_option maxRecDepth 20000 in
theorem eX0_ownPayoff {cx : CX} {a0 : Nat} {i1 : Int32} {w : XW} {R9 : (Int32 × XW)} (h : fX0_ownPayoff a0 i1 w = some R9) : Ct yX0_ownPayoff cX0_ownPayoff 2 (some .int) 2 45 cx [.ref a0, .int i1] w (some (.int R9.1)) R9.2 := by
  refine Ct_of (by decide +kernel) (Nat.le_of_ble_eq_true rfl) (fun K B hR => ?_)
  rw [fX0_ownPayoff] at h
  show Wx K cx 2 w.length 0 [(0, .ref a0), (1, .int i1)] [] w
  rcases xite h with ⟨hc, h⟩ | ⟨hc, h⟩
  · skip
    refine x_aload_n (pc := 0) B 0 dX0_ownPayoff_0 rfl rfl ?_
    refine x_iload_n (pc := 1) B 1 dX0_ownPayoff_1 rfl rfl ?_
    refine x_aload_n (pc := 2) B 0 dX0_ownPayoff_2 rfl rfl ?_
    refine x_iload_n (pc := 3) B 1 dX0_ownPayoff_3 rfl rfl ?_
    obtain ⟨q1, hq, h⟩ := xbind h
    refine x_callS1 (st := [.ref a0, .int i1, .ref a0]) (pc := 4) B dX0_ownPayoff_4 (eX0_messagePlace hq) xt_209 xt_54 np_X0_messagePlace hy_X0_messagePlace (Nat.le_of_ble_eq_true rfl) (Nat.le_of_ble_eq_true rfl) (Nat.le_of_ble_eq_true rfl) xt_208 xt_262 rfl ?_
    obtain ⟨q2, hq, h⟩ := xbind h
    refine x_callV1 (st := [.int i1, .ref a0]) (pc := 7) B dX0_ownPayoff_7 (eX0_cell hq) xt_153 xt_54 np_X0_cell hy_X0_cell (Nat.le_of_ble_eq_true rfl) (Nat.le_of_ble_eq_true rfl) (Nat.le_of_ble_eq_true rfl) xt_151 xt_152 xt_150 rfl (iX0_cell hq) rfl ?_
    obtain ⟨q3, hq, h⟩ := xbind h
    refine x_callV1 (st := []) (pc := 10) B dX0_ownPayoff_10 (eX0_payoffBy hq) xt_287 xt_54 np_X0_payoffBy hy_X0_payoffBy (Nat.le_of_ble_eq_true rfl) (Nat.le_of_ble_eq_true rfl) (Nat.le_of_ble_eq_true rfl) xt_285 xt_286 xt_284 rfl (iX0_payoffBy hq) rfl ?_
    exact x_iret (pc := 13) B hR dX0_ownPayoff_13 (xzI _) h
  · exact absurd h (by simp)
def fX0_lowestBetterType_2 : Nat → Nat → Int32 → XW → Option (Int32 × XW)
  | 0, _, _, _ => none
  | g + 1, a0, i1, w =>
    if (3 : Int32) ≤ i1 then
      some ((-6 : Int32), w)
    else
    (fX0_weightPlace i1 w).bind fun q1 =>
    (fX0_cell a0 q1.1 q1.2).bind fun q2 =>
    if q2.1 ≤ (0 : Int32) then
      fX0_lowestBetterType_2 g a0 (i1 + (1 : Int32)) q2.2
    else
    (fX0_dearestMessage a0 i1 q2.2).bind fun q3 =>
    (fX0_payoffBy a0 i1 q3.1 q3.2).bind fun q4 =>
    (fX0_ownPayoff a0 i1 q4.2).bind fun q5 =>
    if q4.1 ≤ q5.1 then
      fX0_lowestBetterType_2 g a0 (i1 + (1 : Int32)) q5.2
    else
    some (i1, q5.2)
set_option maxRecDepth 20000 in
theorem pX0_lowestBetterType_2 {K : KX} {cx : CX} {nn : Nat} {R9 : Int32 × XW} (B : XB K cx RX0 cX0_lowestBetterType 3 nn 3 68) (hR : XR K cx nn (some .int) (some (.int R9.1)) R9.2) : ∀ (g : Nat) (a0 : Nat) (i1 : Int32) (w : XW), fX0_lowestBetterType_2 g a0 i1 w = some R9 → Wx K cx 3 nn 2 [(0, .ref a0), (1, .int i1)] [] w := by
  intro g
  induction g with
  | zero =>
    intro a0 i1 w h
    exact absurd (show (none : Option (Int32 × XW)) = some R9 from h) (by simp)
  | succ g ih =>
    intro a0 i1 w h
    rw [fX0_lowestBetterType_2] at h
    refine x_iload_n (pc := 2) B 1 dX0_lowestBetterType_2 rfl rfl ?_
    refine x_iconst (pc := 3) B dX0_lowestBetterType_3 xk_iconst_3 ?_
    rcases xite h with ⟨hc, h⟩ | ⟨hc, h⟩
    · refine x_icmp_ge_t (tgt := 54) (pc := 4) B dX0_lowestBetterType_4 (by decide) hc ?_
      refine x_bipush (pc := 54) B dX0_lowestBetterType_54 xk_bipush_m6 ?_
      exact x_iret (pc := 56) B hR dX0_lowestBetterType_56 (xzI _) h
    · refine x_icmp_ge_f (pc := 4) B 54 dX0_lowestBetterType_4 (by decide) hc ?_
      refine x_aload_n (pc := 7) B 0 dX0_lowestBetterType_7 rfl rfl ?_
      refine x_iload_n (pc := 8) B 1 dX0_lowestBetterType_8 rfl rfl ?_
      obtain ⟨q1, hq, h⟩ := xbind h
      refine x_callS1 (st := [.ref a0]) (pc := 9) B dX0_lowestBetterType_9 (eX0_weightPlace hq) xt_149 xt_54 np_X0_weightPlace hy_X0_weightPlace (Nat.le_of_ble_eq_true rfl) (Nat.le_of_ble_eq_true rfl) (Nat.le_of_ble_eq_true rfl) xt_148 xt_147 rfl ?_
      obtain ⟨q2, hq, h⟩ := xbind h
      refine x_callV1 (st := []) (pc := 12) B dX0_lowestBetterType_12 (eX0_cell hq) xt_153 xt_54 np_X0_cell hy_X0_cell (Nat.le_of_ble_eq_true rfl) (Nat.le_of_ble_eq_true rfl) (Nat.le_of_ble_eq_true rfl) xt_151 xt_152 xt_150 rfl (iX0_cell hq) rfl ?_
      rcases xite h with ⟨hc, h⟩ | ⟨hc, h⟩
      · refine x_if_le_t (tgt := 22) (pc := 15) B dX0_lowestBetterType_15 (by decide) hc ?_
        refine x_iconst (pc := 22) B dX0_lowestBetterType_22 xk_iconst_0 ?_
        refine x_istore_n (L1 := [(2, .int (0 : Int32)), (0, .ref a0), (1, .int i1)]) (pc := 23) B dX0_lowestBetterType_23 rfl (by decide) rfl ?_
        refine x_iload_n (pc := 24) B 0 dX0_lowestBetterType_24 rfl rfl ?_
        refine x_if_eq_t (tgt := 48) (pc := 25) B dX0_lowestBetterType_25 (by decide) (by decide) ?_
        refine x_iinc (L1 := [(1, .int (i1 + (1 : Int32))), (2, .int (0 : Int32)), (0, .ref a0)]) (pc := 48) B 2 dX0_lowestBetterType_48 rfl (congrArg _ xk_iconst_1) (by decide) rfl ?_
        refine x_goto (tgt := 2) (pc := 51) B dX0_lowestBetterType_51 (by decide) ?_
        refine x_sub (L1 := [(0, .ref a0), (1, .int (i1 + (1 : Int32)))]) [2, 0] rfl ?_
        exact ih a0 (i1 + (1 : Int32)) q2.2 h
      · refine x_if_le_f (pc := 15) B 22 dX0_lowestBetterType_15 (by decide) hc ?_
        refine x_iconst (pc := 18) B dX0_lowestBetterType_18 xk_iconst_1 ?_
        refine x_goto (tgt := 23) (pc := 19) B dX0_lowestBetterType_19 (by decide) ?_
        refine x_istore_n (L1 := [(2, .int (1 : Int32)), (0, .ref a0), (1, .int i1)]) (pc := 23) B dX0_lowestBetterType_23 rfl (by decide) rfl ?_
        refine x_iload_n (pc := 24) B 0 dX0_lowestBetterType_24 rfl rfl ?_
        refine x_if_eq_f (pc := 25) B 48 dX0_lowestBetterType_25 (by decide) (by decide) ?_
        refine x_aload_n (pc := 28) B 1 dX0_lowestBetterType_28 rfl rfl ?_
        refine x_iload_n (pc := 29) B 2 dX0_lowestBetterType_29 rfl rfl ?_
        refine x_aload_n (pc := 30) B 1 dX0_lowestBetterType_30 rfl rfl ?_
        refine x_iload_n (pc := 31) B 2 dX0_lowestBetterType_31 rfl rfl ?_
        obtain ⟨q3, hq, h⟩ := xbind h
        refine x_callV1 (st := [.int i1, .ref a0]) (pc := 32) B dX0_lowestBetterType_32 (eX0_dearestMessage hq) xt_283 xt_54 np_X0_dearestMessage hy_X0_dearestMessage (Nat.le_of_ble_eq_true rfl) (Nat.le_of_ble_eq_true rfl) (Nat.le_of_ble_eq_true rfl) xt_281 xt_282 xt_280 rfl (iX0_dearestMessage hq) rfl ?_
        obtain ⟨q4, hq, h⟩ := xbind h
        refine x_callV1 (st := []) (pc := 35) B dX0_lowestBetterType_35 (eX0_payoffBy hq) xt_287 xt_54 np_X0_payoffBy hy_X0_payoffBy (Nat.le_of_ble_eq_true rfl) (Nat.le_of_ble_eq_true rfl) (Nat.le_of_ble_eq_true rfl) xt_285 xt_286 xt_284 rfl (iX0_payoffBy hq) rfl ?_
        refine x_aload_n (pc := 38) B 1 dX0_lowestBetterType_38 rfl rfl ?_
        refine x_iload_n (pc := 39) B 2 dX0_lowestBetterType_39 rfl rfl ?_
        obtain ⟨q5, hq, h⟩ := xbind h
        refine x_callV1 (st := [.int q4.1]) (pc := 40) B dX0_lowestBetterType_40 (eX0_ownPayoff hq) xt_292 xt_54 np_X0_ownPayoff hy_X0_ownPayoff (Nat.le_of_ble_eq_true rfl) (Nat.le_of_ble_eq_true rfl) (Nat.le_of_ble_eq_true rfl) xt_290 xt_291 xt_289 rfl (iX0_ownPayoff hq) rfl ?_
        rcases xite h with ⟨hc, h⟩ | ⟨hc, h⟩
        · refine x_icmp_le_t (tgt := 48) (pc := 43) B dX0_lowestBetterType_43 (by decide) hc ?_
          refine x_iinc (L1 := [(1, .int (i1 + (1 : Int32))), (2, .int (1 : Int32)), (0, .ref a0)]) (pc := 48) B 2 dX0_lowestBetterType_48 rfl (congrArg _ xk_iconst_1) (by decide) rfl ?_
          refine x_goto (tgt := 2) (pc := 51) B dX0_lowestBetterType_51 (by decide) ?_
          refine x_sub (L1 := [(0, .ref a0), (1, .int (i1 + (1 : Int32)))]) [2, 0] rfl ?_
          exact ih a0 (i1 + (1 : Int32)) q5.2 h
        · refine x_icmp_le_f (pc := 43) B 48 dX0_lowestBetterType_43 (by decide) hc ?_
          refine x_iload_n (pc := 46) B 2 dX0_lowestBetterType_46 rfl rfl ?_
          exact x_iret (pc := 47) B hR dX0_lowestBetterType_47 (xzI _) h
def fX0_lowestBetterType (a0 : Nat) (w : XW) : Option (Int32 × XW) := if xis w a0 0 = true then
  fX0_lowestBetterType_2 1000 a0 (0 : Int32) w
  else none
theorem iX0_lowestBetterType {a0 : Nat} {w : XW} {R9 : (Int32 × XW)} (h : fX0_lowestBetterType a0 w = some R9) : xis w a0 0 = true := by
  unfold fX0_lowestBetterType at h
  rcases xite h with ⟨hc, h⟩ | ⟨hc, h⟩
  · exact hc
  · exact absurd h (by simp)
theorem np_X0_lowestBetterType : (parseMethodDescriptor yX0_lowestBetterType.desc).map (fun d => d.parameters.length) = some 0 := by decide +kernel
theorem hy_X0_lowestBetterType : yX0_lowestBetterType.cls ≠ "java/lang/invoke/MethodHandle" ∧ yX0_lowestBetterType.cls ≠ "java/lang/invoke/VarHandle" := ⟨by decide +kernel, by decide +kernel⟩
set_option maxRecDepth 20000 in
theorem eX0_lowestBetterType {cx : CX} {a0 : Nat} {w : XW} {R9 : (Int32 × XW)} (h : fX0_lowestBetterType a0 w = some R9) : Ct yX0_lowestBetterType cX0_lowestBetterType 3 (some .int) 3 68 cx [.ref a0] w (some (.int R9.1)) R9.2 := by
  refine Ct_of (by decide +kernel) (Nat.le_of_ble_eq_true rfl) (fun K B hR => ?_)
  rw [fX0_lowestBetterType] at h
  show Wx K cx 3 w.length 0 [(0, .ref a0)] [] w
  rcases xite h with ⟨hc, h⟩ | ⟨hc, h⟩
  · skip
    refine x_iconst (pc := 0) B dX0_lowestBetterType_0 xk_iconst_0 ?_
    refine x_istore_n (L1 := [(1, .int (0 : Int32)), (0, .ref a0)]) (pc := 1) B dX0_lowestBetterType_1 rfl (by decide) rfl ?_
    refine x_sub (L1 := [(0, .ref a0), (1, .int (0 : Int32))]) [1, 0] rfl ?_
    exact pX0_lowestBetterType_2 B hR 1000 a0 (0 : Int32) w h
  · exact absurd h (by simp)
def fX0_differsOnlyInPlan_2 : Nat → Nat → Nat → Int32 → XW → Option (Int32 × XW)
  | 0, _, _, _, _ => none
  | g + 1, a0, a1, i2, w =>
    if (66 : Int32) ≤ i2 then
      some ((1 : Int32), w)
    else
    (xgR w a0 0 0).bind fun v1 =>
    (xaI w v1 i2).bind fun v2 =>
    (xgR w a1 0 0).bind fun v3 =>
    (xaI w v3 i2).bind fun v4 =>
    if v2 = v4 then
      fX0_differsOnlyInPlan_2 g a0 a1 (i2 + (1 : Int32)) w
    else
    some ((0 : Int32), w)
set_option maxRecDepth 20000 in
theorem pX0_differsOnlyInPlan_2 {K : KX} {cx : CX} {nn : Nat} {R9 : Int32 × XW} (B : XB K cx RX0 cX0_differsOnlyInPlan 3 nn 0 0) (hR : XR K cx nn (some .boolean) (some (.int R9.1)) R9.2) : ∀ (g : Nat) (a0 : Nat) (a1 : Nat) (i2 : Int32) (w : XW), fX0_differsOnlyInPlan_2 g a0 a1 i2 w = some R9 → Wx K cx 3 nn 2 [(0, .ref a0), (1, .ref a1), (2, .int i2)] [] w := by
  intro g
  induction g with
  | zero =>
    intro a0 a1 i2 w h
    exact absurd (show (none : Option (Int32 × XW)) = some R9 from h) (by simp)
  | succ g ih =>
    intro a0 a1 i2 w h
    rw [fX0_differsOnlyInPlan_2] at h
    refine x_iload_n (pc := 2) B 2 dX0_differsOnlyInPlan_2 rfl rfl ?_
    refine x_bipush (pc := 3) B dX0_differsOnlyInPlan_3 xk_bipush_66 ?_
    rcases xite h with ⟨hc, h⟩ | ⟨hc, h⟩
    · refine x_icmp_ge_t (tgt := 31) (pc := 5) B dX0_differsOnlyInPlan_5 (by decide) hc ?_
      refine x_iconst (pc := 31) B dX0_differsOnlyInPlan_31 xk_iconst_1 ?_
      exact x_iret (pc := 32) B hR dX0_differsOnlyInPlan_32 xz1 h
    · refine x_icmp_ge_f (pc := 5) B 31 dX0_differsOnlyInPlan_5 (by decide) hc ?_
      refine x_aload_n (pc := 8) B 0 dX0_differsOnlyInPlan_8 rfl rfl ?_
      obtain ⟨v1, hv, h⟩ := xbind h
      refine x_getR (k0 := 0) (pc := 9) B dX0_differsOnlyInPlan_9 rfl xi_0 (by decide) ⟨rfl, rfl, rfl⟩ xt_86 hv ?_
      refine x_iload_n (pc := 12) B 2 dX0_differsOnlyInPlan_12 rfl rfl ?_
      obtain ⟨v2, hv, h⟩ := xbind h
      refine x_iald (pc := 13) B dX0_differsOnlyInPlan_13 hv ?_
      refine x_aload_n (pc := 14) B 1 dX0_differsOnlyInPlan_14 rfl rfl ?_
      obtain ⟨v3, hv, h⟩ := xbind h
      refine x_getR (k0 := 0) (pc := 15) B dX0_differsOnlyInPlan_15 rfl xi_0 (by decide) ⟨rfl, rfl, rfl⟩ xt_86 hv ?_
      refine x_iload_n (pc := 18) B 2 dX0_differsOnlyInPlan_18 rfl rfl ?_
      obtain ⟨v4, hv, h⟩ := xbind h
      refine x_iald (pc := 19) B dX0_differsOnlyInPlan_19 hv ?_
      rcases xite h with ⟨hc, h⟩ | ⟨hc, h⟩
      · refine x_icmp_eq_t (tgt := 25) (pc := 20) B dX0_differsOnlyInPlan_20 (by decide) hc ?_
        refine x_iinc (L1 := [(2, .int (i2 + (1 : Int32))), (0, .ref a0), (1, .ref a1)]) (pc := 25) B 2 dX0_differsOnlyInPlan_25 rfl (congrArg _ xk_iconst_1) (by decide) rfl ?_
        refine x_goto (tgt := 2) (pc := 28) B dX0_differsOnlyInPlan_28 (by decide) ?_
        refine x_sub (L1 := [(0, .ref a0), (1, .ref a1), (2, .int (i2 + (1 : Int32)))]) [1, 2, 0] rfl ?_
        exact ih a0 a1 (i2 + (1 : Int32)) w h
      · refine x_icmp_eq_f (pc := 20) B 25 dX0_differsOnlyInPlan_20 (by decide) hc ?_
        refine x_iconst (pc := 23) B dX0_differsOnlyInPlan_23 xk_iconst_0 ?_
        exact x_iret (pc := 24) B hR dX0_differsOnlyInPlan_24 xz0 h
def fX0_differsOnlyInPlan (a0 : Nat) (a1 : Nat) (w : XW) : Option (Int32 × XW) := if xis w a0 0 = true then
  fX0_differsOnlyInPlan_2 1000 a0 a1 (0 : Int32) w
  else none
theorem iX0_differsOnlyInPlan {a0 : Nat} {a1 : Nat} {w : XW} {R9 : (Int32 × XW)} (h : fX0_differsOnlyInPlan a0 a1 w = some R9) : xis w a0 0 = true := by
  unfold fX0_differsOnlyInPlan at h
  rcases xite h with ⟨hc, h⟩ | ⟨hc, h⟩
  · exact hc
  · exact absurd h (by simp)
theorem np_X0_differsOnlyInPlan : (parseMethodDescriptor yX0_differsOnlyInPlan.desc).map (fun d => d.parameters.length) = some 1 := by decide +kernel
theorem hy_X0_differsOnlyInPlan : yX0_differsOnlyInPlan.cls ≠ "java/lang/invoke/MethodHandle" ∧ yX0_differsOnlyInPlan.cls ≠ "java/lang/invoke/VarHandle" := ⟨by decide +kernel, by decide +kernel⟩
set_option maxRecDepth 20000 in
theorem eX0_differsOnlyInPlan {cx : CX} {a0 : Nat} {a1 : Nat} {w : XW} {R9 : (Int32 × XW)} (h : fX0_differsOnlyInPlan a0 a1 w = some R9) : Ct yX0_differsOnlyInPlan cX0_differsOnlyInPlan 3 (some .boolean) 0 0 cx [.ref a0, .ref a1] w (some (.int R9.1)) R9.2 := by
  refine Ct_of (by decide +kernel) (Nat.le_of_ble_eq_true rfl) (fun K B hR => ?_)
  rw [fX0_differsOnlyInPlan] at h
  show Wx K cx 3 w.length 0 [(0, .ref a0), (1, .ref a1)] [] w
  rcases xite h with ⟨hc, h⟩ | ⟨hc, h⟩
  · skip
    refine x_iconst (pc := 0) B dX0_differsOnlyInPlan_0 xk_iconst_0 ?_
    refine x_istore_n (L1 := [(2, .int (0 : Int32)), (0, .ref a0), (1, .ref a1)]) (pc := 1) B dX0_differsOnlyInPlan_1 rfl (by decide) rfl ?_
    refine x_sub (L1 := [(0, .ref a0), (1, .ref a1), (2, .int (0 : Int32))]) [1, 2, 0] rfl ?_
    exact pX0_differsOnlyInPlan_2 B hR 1000 a0 a1 (0 : Int32) w h
  · exact absurd h (by simp)
def fX0_typesThere_4 : Nat → Nat → Int32 → Int32 → XW → Option (Int32 × XW)
  | 0, _, _, _, _ => none
  | g + 1, a0, i1, i2, w =>
    if (3 : Int32) ≤ i2 then
      some (i1, w)
    else
    (fX0_weightPlace i2 w).bind fun q1 =>
    (fX0_cell a0 q1.1 q1.2).bind fun q2 =>
    if q2.1 ≤ (0 : Int32) then
      fX0_typesThere_4 g a0 i1 (i2 + (1 : Int32)) q2.2
    else
    fX0_typesThere_4 g a0 (i1 ||| ((1 : Int32) <<< (i2 &&& 31))) (i2 + (1 : Int32)) q2.2
set_option maxRecDepth 20000 in
theorem pX0_typesThere_4 {K : KX} {cx : CX} {nn : Nat} {R9 : Int32 × XW} (B : XB K cx RX0 cX0_typesThere 3 nn 1 21) (hR : XR K cx nn (some .int) (some (.int R9.1)) R9.2) : ∀ (g : Nat) (a0 : Nat) (i1 : Int32) (i2 : Int32) (w : XW), fX0_typesThere_4 g a0 i1 i2 w = some R9 → Wx K cx 3 nn 4 [(0, .ref a0), (1, .int i1), (2, .int i2)] [] w := by
  intro g
  induction g with
  | zero =>
    intro a0 i1 i2 w h
    exact absurd (show (none : Option (Int32 × XW)) = some R9 from h) (by simp)
  | succ g ih =>
    intro a0 i1 i2 w h
    rw [fX0_typesThere_4] at h
    refine x_iload_n (pc := 4) B 2 dX0_typesThere_4 rfl rfl ?_
    refine x_iconst (pc := 5) B dX0_typesThere_5 xk_iconst_3 ?_
    rcases xite h with ⟨hc, h⟩ | ⟨hc, h⟩
    · refine x_icmp_ge_t (tgt := 32) (pc := 6) B dX0_typesThere_6 (by decide) hc ?_
      refine x_iload_n (pc := 32) B 1 dX0_typesThere_32 rfl rfl ?_
      exact x_iret (pc := 33) B hR dX0_typesThere_33 (xzI _) h
    · refine x_icmp_ge_f (pc := 6) B 32 dX0_typesThere_6 (by decide) hc ?_
      refine x_aload_n (pc := 9) B 0 dX0_typesThere_9 rfl rfl ?_
      refine x_iload_n (pc := 10) B 2 dX0_typesThere_10 rfl rfl ?_
      obtain ⟨q1, hq, h⟩ := xbind h
      refine x_callS1 (st := [.ref a0]) (pc := 11) B dX0_typesThere_11 (eX0_weightPlace hq) xt_149 xt_54 np_X0_weightPlace hy_X0_weightPlace (Nat.le_of_ble_eq_true rfl) (Nat.le_of_ble_eq_true rfl) (Nat.le_of_ble_eq_true rfl) xt_148 xt_147 rfl ?_
      obtain ⟨q2, hq, h⟩ := xbind h
      refine x_callV1 (st := []) (pc := 14) B dX0_typesThere_14 (eX0_cell hq) xt_153 xt_54 np_X0_cell hy_X0_cell (Nat.le_of_ble_eq_true rfl) (Nat.le_of_ble_eq_true rfl) (Nat.le_of_ble_eq_true rfl) xt_151 xt_152 xt_150 rfl (iX0_cell hq) rfl ?_
      rcases xite h with ⟨hc, h⟩ | ⟨hc, h⟩
      · refine x_if_le_t (tgt := 26) (pc := 17) B dX0_typesThere_17 (by decide) hc ?_
        refine x_iinc (L1 := [(2, .int (i2 + (1 : Int32))), (0, .ref a0), (1, .int i1)]) (pc := 26) B 2 dX0_typesThere_26 rfl (congrArg _ xk_iconst_1) (by decide) rfl ?_
        refine x_goto (tgt := 4) (pc := 29) B dX0_typesThere_29 (by decide) ?_
        refine x_sub (L1 := [(0, .ref a0), (1, .int i1), (2, .int (i2 + (1 : Int32)))]) [1, 2, 0] rfl ?_
        exact ih a0 i1 (i2 + (1 : Int32)) q2.2 h
      · refine x_if_le_f (pc := 17) B 26 dX0_typesThere_17 (by decide) hc ?_
        refine x_iload_n (pc := 20) B 1 dX0_typesThere_20 rfl rfl ?_
        refine x_iconst (pc := 21) B dX0_typesThere_21 xk_iconst_1 ?_
        refine x_iload_n (pc := 22) B 2 dX0_typesThere_22 rfl rfl ?_
        refine x_ishl (pc := 23) B dX0_typesThere_23 ?_
        refine x_ior (pc := 24) B dX0_typesThere_24 ?_
        refine x_istore_n (L1 := [(1, .int (i1 ||| ((1 : Int32) <<< (i2 &&& 31)))), (0, .ref a0), (2, .int i2)]) (pc := 25) B dX0_typesThere_25 rfl (by decide) rfl ?_
        refine x_iinc (L1 := [(2, .int (i2 + (1 : Int32))), (1, .int (i1 ||| ((1 : Int32) <<< (i2 &&& 31)))), (0, .ref a0)]) (pc := 26) B 2 dX0_typesThere_26 rfl (congrArg _ xk_iconst_1) (by decide) rfl ?_
        refine x_goto (tgt := 4) (pc := 29) B dX0_typesThere_29 (by decide) ?_
        refine x_sub (L1 := [(0, .ref a0), (1, .int (i1 ||| ((1 : Int32) <<< (i2 &&& 31)))), (2, .int (i2 + (1 : Int32)))]) [2, 1, 0] rfl ?_
        exact ih a0 (i1 ||| ((1 : Int32) <<< (i2 &&& 31))) (i2 + (1 : Int32)) q2.2 h
def fX0_typesThere (a0 : Nat) (w : XW) : Option (Int32 × XW) := if xis w a0 0 = true then
  fX0_typesThere_4 1000 a0 (0 : Int32) (0 : Int32) w
  else none
theorem iX0_typesThere {a0 : Nat} {w : XW} {R9 : (Int32 × XW)} (h : fX0_typesThere a0 w = some R9) : xis w a0 0 = true := by
  unfold fX0_typesThere at h
  rcases xite h with ⟨hc, h⟩ | ⟨hc, h⟩
  · exact hc
  · exact absurd h (by simp)
theorem np_X0_typesThere : (parseMethodDescriptor yX0_typesThere.desc).map (fun d => d.parameters.length) = some 0 := by decide +kernel
theorem hy_X0_typesThere : yX0_typesThere.cls ≠ "java/lang/invoke/MethodHandle" ∧ yX0_typesThere.cls ≠ "java/lang/invoke/VarHandle" := ⟨by decide +kernel, by decide +kernel⟩
set_option maxRecDepth 20000 in
theorem eX0_typesThere {cx : CX} {a0 : Nat} {w : XW} {R9 : (Int32 × XW)} (h : fX0_typesThere a0 w = some R9) : Ct yX0_typesThere cX0_typesThere 3 (some .int) 1 21 cx [.ref a0] w (some (.int R9.1)) R9.2 := by
  refine Ct_of (by decide +kernel) (Nat.le_of_ble_eq_true rfl) (fun K B hR => ?_)
  rw [fX0_typesThere] at h
  show Wx K cx 3 w.length 0 [(0, .ref a0)] [] w
  rcases xite h with ⟨hc, h⟩ | ⟨hc, h⟩
  · skip
    refine x_iconst (pc := 0) B dX0_typesThere_0 xk_iconst_0 ?_
    refine x_istore_n (L1 := [(1, .int (0 : Int32)), (0, .ref a0)]) (pc := 1) B dX0_typesThere_1 rfl (by decide) rfl ?_
    refine x_iconst (pc := 2) B dX0_typesThere_2 xk_iconst_0 ?_
    refine x_istore_n (L1 := [(2, .int (0 : Int32)), (1, .int (0 : Int32)), (0, .ref a0)]) (pc := 3) B dX0_typesThere_3 rfl (by decide) rfl ?_
    refine x_sub (L1 := [(0, .ref a0), (1, .int (0 : Int32)), (2, .int (0 : Int32))]) [2, 1, 0] rfl ?_
    exact pX0_typesThere_4 B hR 1000 a0 (0 : Int32) (0 : Int32) w h
  · exact absurd h (by simp)
def fX0_possibleActions_108 (k148 : Nat → Int32 → Int32 → Int32 → Int32 → Int32 → Int32 → Int32 → Int32 → XW → Option (Int32 × XW)) : Nat → Nat → Int32 → Int32 → Int32 → Int32 → Int32 → Int32 → Int32 → Int32 → Int32 → XW → Option (Int32 × XW)
  | 0, _, _, _, _, _, _, _, _, _, _, _ => none
  | g + 1, a0, i1, i3, i4, i5, i6, i7, i8, i9, i10, w =>
    if i6 < i10 then
      k148 a0 i1 i3 i4 i5 i6 i7 i8 i9 w
    else
    if ((i8 + i9) + i10) ≤ (0 : Int32) then
      fX0_possibleActions_108 k148 g a0 i1 i3 i4 i5 i6 i7 i8 i9 (i10 + (1 : Int32)) w
    else
    (fX0_bestBy a0 i1 i8 i9 i10 w).bind fun q11 =>
    fX0_possibleActions_108 k148 g a0 i1 i3 i4 i5 i6 (i7 ||| q11.1) i8 i9 (i10 + (1 : Int32)) q11.2
set_option maxRecDepth 20000 in
theorem pX0_possibleActions_108 {K : KX} {cx : CX} {nn : Nat} {R9 : Int32 × XW} (B : XB K cx RX0 cX0_possibleActions 11 nn 3 76) (hR : XR K cx nn (some .int) (some (.int R9.1)) R9.2) {k148 : Nat → Int32 → Int32 → Int32 → Int32 → Int32 → Int32 → Int32 → Int32 → XW → Option (Int32 × XW)} (hk148 : ∀ (a0 : Nat) (i1 : Int32) (i3 : Int32) (i4 : Int32) (i5 : Int32) (i6 : Int32) (i7 : Int32) (i8 : Int32) (i9 : Int32) (w : XW), k148 a0 i1 i3 i4 i5 i6 i7 i8 i9 w = some R9 → Wx K cx 11 nn 148 [(0, .ref a0), (1, .int i1), (3, .int i3), (4, .int i4), (5, .int i5), (6, .int i6), (7, .int i7), (8, .int i8), (9, .int i9)] [] w) : ∀ (g : Nat) (a0 : Nat) (i1 : Int32) (i3 : Int32) (i4 : Int32) (i5 : Int32) (i6 : Int32) (i7 : Int32) (i8 : Int32) (i9 : Int32) (i10 : Int32) (w : XW), fX0_possibleActions_108 k148 g a0 i1 i3 i4 i5 i6 i7 i8 i9 i10 w = some R9 → Wx K cx 11 nn 108 [(0, .ref a0), (1, .int i1), (3, .int i3), (4, .int i4), (5, .int i5), (6, .int i6), (7, .int i7), (8, .int i8), (9, .int i9), (10, .int i10)] [] w := by
  intro g
  induction g with
  | zero =>
    intro a0 i1 i3 i4 i5 i6 i7 i8 i9 i10 w h
    exact absurd (show (none : Option (Int32 × XW)) = some R9 from h) (by simp)
  | succ g ih =>
    intro a0 i1 i3 i4 i5 i6 i7 i8 i9 i10 w h
    rw [fX0_possibleActions_108] at h
    refine x_iload (pc := 108) B 9 dX0_possibleActions_108 rfl ?_
    refine x_iload (pc := 110) B 5 dX0_possibleActions_110 rfl ?_
    rcases xite h with ⟨hc, h⟩ | ⟨hc, h⟩
    · refine x_icmp_gt_t (tgt := 148) (pc := 112) B dX0_possibleActions_112 (by decide) hc ?_
      refine x_sub (L1 := [(0, .ref a0), (1, .int i1), (3, .int i3), (4, .int i4), (5, .int i5), (6, .int i6), (7, .int i7), (8, .int i8), (9, .int i9)]) [0, 1, 2, 3, 4, 5, 6, 7, 8] rfl ?_
      exact hk148 a0 i1 i3 i4 i5 i6 i7 i8 i9 w h
    · refine x_icmp_gt_f (pc := 112) B 148 dX0_possibleActions_112 (by decide) hc ?_
      refine x_iload (pc := 115) B 7 dX0_possibleActions_115 rfl ?_
      refine x_iload (pc := 117) B 8 dX0_possibleActions_117 rfl ?_
      refine x_iadd (pc := 119) B dX0_possibleActions_119 ?_
      refine x_iload (pc := 120) B 9 dX0_possibleActions_120 rfl ?_
      refine x_iadd (pc := 122) B dX0_possibleActions_122 ?_
      rcases xite h with ⟨hc, h⟩ | ⟨hc, h⟩
      · refine x_if_le_t (tgt := 142) (pc := 123) B dX0_possibleActions_123 (by decide) hc ?_
        refine x_iinc (L1 := [(10, .int (i10 + (1 : Int32))), (0, .ref a0), (1, .int i1), (3, .int i3), (4, .int i4), (5, .int i5), (6, .int i6), (7, .int i7), (8, .int i8), (9, .int i9)]) (pc := 142) B 9 dX0_possibleActions_142 rfl (congrArg _ xk_iconst_1) (by decide) rfl ?_
        refine x_goto (tgt := 108) (pc := 145) B dX0_possibleActions_145 (by decide) ?_
        refine x_sub (L1 := [(0, .ref a0), (1, .int i1), (3, .int i3), (4, .int i4), (5, .int i5), (6, .int i6), (7, .int i7), (8, .int i8), (9, .int i9), (10, .int (i10 + (1 : Int32)))]) [1, 2, 3, 4, 5, 6, 7, 8, 9, 0] rfl ?_
        exact ih a0 i1 i3 i4 i5 i6 i7 i8 i9 (i10 + (1 : Int32)) w h
      · refine x_if_le_f (pc := 123) B 142 dX0_possibleActions_123 (by decide) hc ?_
        refine x_iload (pc := 126) B 6 dX0_possibleActions_126 rfl ?_
        refine x_aload_n (pc := 128) B 0 dX0_possibleActions_128 rfl rfl ?_
        refine x_iload_n (pc := 129) B 1 dX0_possibleActions_129 rfl rfl ?_
        refine x_iload (pc := 130) B 7 dX0_possibleActions_130 rfl ?_
        refine x_iload (pc := 132) B 8 dX0_possibleActions_132 rfl ?_
        refine x_iload (pc := 134) B 9 dX0_possibleActions_134 rfl ?_
        obtain ⟨q11, hq, h⟩ := xbind h
        refine x_callV1 (st := [.int i7]) (pc := 136) B dX0_possibleActions_136 (eX0_bestBy hq) xt_269 xt_54 np_X0_bestBy hy_X0_bestBy (Nat.le_of_ble_eq_true rfl) (Nat.le_of_ble_eq_true rfl) (Nat.le_of_ble_eq_true rfl) xt_268 xt_6 xt_266 rfl (iX0_bestBy hq) rfl ?_
        refine x_ior (pc := 139) B dX0_possibleActions_139 ?_
        refine x_istore (L1 := [(7, .int (i7 ||| q11.1)), (0, .ref a0), (1, .int i1), (3, .int i3), (4, .int i4), (5, .int i5), (6, .int i6), (8, .int i8), (9, .int i9), (10, .int i10)]) (pc := 140) B dX0_possibleActions_140 (by decide) rfl ?_
        refine x_iinc (L1 := [(10, .int (i10 + (1 : Int32))), (7, .int (i7 ||| q11.1)), (0, .ref a0), (1, .int i1), (3, .int i3), (4, .int i4), (5, .int i5), (6, .int i6), (8, .int i8), (9, .int i9)]) (pc := 142) B 9 dX0_possibleActions_142 rfl (congrArg _ xk_iconst_1) (by decide) rfl ?_
        refine x_goto (tgt := 108) (pc := 145) B dX0_possibleActions_145 (by decide) ?_
        refine x_sub (L1 := [(0, .ref a0), (1, .int i1), (3, .int i3), (4, .int i4), (5, .int i5), (6, .int i6), (7, .int (i7 ||| q11.1)), (8, .int i8), (9, .int i9), (10, .int (i10 + (1 : Int32)))]) [2, 3, 4, 5, 6, 7, 1, 8, 9, 0] rfl ?_
        exact ih a0 i1 i3 i4 i5 i6 (i7 ||| q11.1) i8 i9 (i10 + (1 : Int32)) q11.2 h
def fX0_possibleActions_98 (k154 : Nat → Int32 → Int32 → Int32 → Int32 → Int32 → Int32 → Int32 → XW → Option (Int32 × XW)) : Nat → Nat → Int32 → Int32 → Int32 → Int32 → Int32 → Int32 → Int32 → Int32 → XW → Option (Int32 × XW)
  | 0, _, _, _, _, _, _, _, _, _, _ => none
  | g + 1, a0, i1, i3, i4, i5, i6, i7, i8, i9, w =>
    if i5 < i9 then
      k154 a0 i1 i3 i4 i5 i6 i7 i8 w
    else
    fX0_possibleActions_108 (fun a0_12 i1_12 i3_12 i4_12 i5_12 i6_12 i7_12 i8_12 i9_12 w_12 =>
      fX0_possibleActions_98 k154 g a0_12 i1_12 i3_12 i4_12 i5_12 i6_12 i7_12 i8_12 (i9_12 + (1 : Int32)) w_12) 1000 a0 i1 i3 i4 i5 i6 i7 i8 i9 (0 : Int32) w
set_option maxRecDepth 20000 in
theorem pX0_possibleActions_98 {K : KX} {cx : CX} {nn : Nat} {R9 : Int32 × XW} (B : XB K cx RX0 cX0_possibleActions 11 nn 3 76) (hR : XR K cx nn (some .int) (some (.int R9.1)) R9.2) {k154 : Nat → Int32 → Int32 → Int32 → Int32 → Int32 → Int32 → Int32 → XW → Option (Int32 × XW)} (hk154 : ∀ (a0 : Nat) (i1 : Int32) (i3 : Int32) (i4 : Int32) (i5 : Int32) (i6 : Int32) (i7 : Int32) (i8 : Int32) (w : XW), k154 a0 i1 i3 i4 i5 i6 i7 i8 w = some R9 → Wx K cx 11 nn 154 [(0, .ref a0), (1, .int i1), (3, .int i3), (4, .int i4), (5, .int i5), (6, .int i6), (7, .int i7), (8, .int i8)] [] w) : ∀ (g : Nat) (a0 : Nat) (i1 : Int32) (i3 : Int32) (i4 : Int32) (i5 : Int32) (i6 : Int32) (i7 : Int32) (i8 : Int32) (i9 : Int32) (w : XW), fX0_possibleActions_98 k154 g a0 i1 i3 i4 i5 i6 i7 i8 i9 w = some R9 → Wx K cx 11 nn 98 [(0, .ref a0), (1, .int i1), (3, .int i3), (4, .int i4), (5, .int i5), (6, .int i6), (7, .int i7), (8, .int i8), (9, .int i9)] [] w := by
  intro g
  induction g with
  | zero =>
    intro a0 i1 i3 i4 i5 i6 i7 i8 i9 w h
    exact absurd (show (none : Option (Int32 × XW)) = some R9 from h) (by simp)
  | succ g ih =>
    intro a0 i1 i3 i4 i5 i6 i7 i8 i9 w h
    rw [fX0_possibleActions_98] at h
    refine x_iload (pc := 98) B 8 dX0_possibleActions_98 rfl ?_
    refine x_iload (pc := 100) B 4 dX0_possibleActions_100 rfl ?_
    rcases xite h with ⟨hc, h⟩ | ⟨hc, h⟩
    · refine x_icmp_gt_t (tgt := 154) (pc := 102) B dX0_possibleActions_102 (by decide) hc ?_
      refine x_sub (L1 := [(0, .ref a0), (1, .int i1), (3, .int i3), (4, .int i4), (5, .int i5), (6, .int i6), (7, .int i7), (8, .int i8)]) [0, 1, 2, 3, 4, 5, 6, 7] rfl ?_
      exact hk154 a0 i1 i3 i4 i5 i6 i7 i8 w h
    · refine x_icmp_gt_f (pc := 102) B 154 dX0_possibleActions_102 (by decide) hc ?_
      refine x_iconst (pc := 105) B dX0_possibleActions_105 xk_iconst_0 ?_
      refine x_istore (L1 := [(10, .int (0 : Int32)), (0, .ref a0), (1, .int i1), (3, .int i3), (4, .int i4), (5, .int i5), (6, .int i6), (7, .int i7), (8, .int i8), (9, .int i9)]) (pc := 106) B dX0_possibleActions_106 (by decide) rfl ?_
      refine x_sub (L1 := [(0, .ref a0), (1, .int i1), (3, .int i3), (4, .int i4), (5, .int i5), (6, .int i6), (7, .int i7), (8, .int i8), (9, .int i9), (10, .int (0 : Int32))]) [1, 2, 3, 4, 5, 6, 7, 8, 9, 0] rfl ?_
      refine pX0_possibleActions_108 B hR ?_ 1000 a0 i1 i3 i4 i5 i6 i7 i8 i9 (0 : Int32) w h
      · intro a0_12 i1_12 i3_12 i4_12 i5_12 i6_12 i7_12 i8_12 i9_12 w_12 h
        refine x_iinc (L1 := [(9, .int (i9_12 + (1 : Int32))), (0, .ref a0_12), (1, .int i1_12), (3, .int i3_12), (4, .int i4_12), (5, .int i5_12), (6, .int i6_12), (7, .int i7_12), (8, .int i8_12)]) (pc := 148) B 8 dX0_possibleActions_148 rfl (congrArg _ xk_iconst_1) (by decide) rfl ?_
        refine x_goto (tgt := 98) (pc := 151) B dX0_possibleActions_151 (by decide) ?_
        refine x_sub (L1 := [(0, .ref a0_12), (1, .int i1_12), (3, .int i3_12), (4, .int i4_12), (5, .int i5_12), (6, .int i6_12), (7, .int i7_12), (8, .int i8_12), (9, .int (i9_12 + (1 : Int32)))]) [1, 2, 3, 4, 5, 6, 7, 8, 0] rfl ?_
        exact ih a0_12 i1_12 i3_12 i4_12 i5_12 i6_12 i7_12 i8_12 (i9_12 + (1 : Int32)) w_12 h
def fX0_possibleActions_88 : Nat → Nat → Int32 → Int32 → Int32 → Int32 → Int32 → Int32 → Int32 → XW → Option (Int32 × XW)
  | 0, _, _, _, _, _, _, _, _, _ => none
  | g + 1, a0, i1, i3, i4, i5, i6, i7, i8, w =>
    if i4 < i8 then
      (xgR w a0 0 1).bind fun v9 =>
      (xsI w v9 i3 i7).bind fun w10 =>
      some (i7, w10)
    else
    fX0_possibleActions_98 (fun a0_13 i1_13 i3_13 i4_13 i5_13 i6_13 i7_13 i8_13 w_13 =>
      fX0_possibleActions_88 g a0_13 i1_13 i3_13 i4_13 i5_13 i6_13 i7_13 (i8_13 + (1 : Int32)) w_13) 1000 a0 i1 i3 i4 i5 i6 i7 i8 (0 : Int32) w
set_option maxRecDepth 20000 in
theorem pX0_possibleActions_88 {K : KX} {cx : CX} {nn : Nat} {R9 : Int32 × XW} (B : XB K cx RX0 cX0_possibleActions 11 nn 3 76) (hR : XR K cx nn (some .int) (some (.int R9.1)) R9.2) : ∀ (g : Nat) (a0 : Nat) (i1 : Int32) (i3 : Int32) (i4 : Int32) (i5 : Int32) (i6 : Int32) (i7 : Int32) (i8 : Int32) (w : XW), fX0_possibleActions_88 g a0 i1 i3 i4 i5 i6 i7 i8 w = some R9 → Wx K cx 11 nn 88 [(0, .ref a0), (1, .int i1), (3, .int i3), (4, .int i4), (5, .int i5), (6, .int i6), (7, .int i7), (8, .int i8)] [] w := by
  intro g
  induction g with
  | zero =>
    intro a0 i1 i3 i4 i5 i6 i7 i8 w h
    exact absurd (show (none : Option (Int32 × XW)) = some R9 from h) (by simp)
  | succ g ih =>
    intro a0 i1 i3 i4 i5 i6 i7 i8 w h
    rw [fX0_possibleActions_88] at h
    refine x_iload (pc := 88) B 7 dX0_possibleActions_88 rfl ?_
    refine x_iload (pc := 90) B 3 dX0_possibleActions_90 rfl ?_
    rcases xite h with ⟨hc, h⟩ | ⟨hc, h⟩
    · refine x_icmp_gt_t (tgt := 160) (pc := 92) B dX0_possibleActions_92 (by decide) hc ?_
      refine x_aload_n (pc := 160) B 0 dX0_possibleActions_160 rfl rfl ?_
      obtain ⟨v9, hv, h⟩ := xbind h
      refine x_getR (k0 := 1) (pc := 161) B dX0_possibleActions_161 rfl xi_0 (by decide) ⟨rfl, rfl, rfl⟩ xt_87 hv ?_
      refine x_iload_n (pc := 164) B 2 dX0_possibleActions_164 rfl rfl ?_
      refine x_iload (pc := 165) B 6 dX0_possibleActions_165 rfl ?_
      obtain ⟨w10, hv, h⟩ := xbind h
      refine x_iast (pc := 167) B dX0_possibleActions_167 hv ?_
      refine x_iload (pc := 168) B 6 dX0_possibleActions_168 rfl ?_
      exact x_iret (pc := 170) B hR dX0_possibleActions_170 (xzI _) h
    · refine x_icmp_gt_f (pc := 92) B 160 dX0_possibleActions_92 (by decide) hc ?_
      refine x_iconst (pc := 95) B dX0_possibleActions_95 xk_iconst_0 ?_
      refine x_istore (L1 := [(9, .int (0 : Int32)), (0, .ref a0), (1, .int i1), (3, .int i3), (4, .int i4), (5, .int i5), (6, .int i6), (7, .int i7), (8, .int i8)]) (pc := 96) B dX0_possibleActions_96 (by decide) rfl ?_
      refine x_sub (L1 := [(0, .ref a0), (1, .int i1), (3, .int i3), (4, .int i4), (5, .int i5), (6, .int i6), (7, .int i7), (8, .int i8), (9, .int (0 : Int32))]) [1, 2, 3, 4, 5, 6, 7, 8, 0] rfl ?_
      refine pX0_possibleActions_98 B hR ?_ 1000 a0 i1 i3 i4 i5 i6 i7 i8 (0 : Int32) w h
      · intro a0_13 i1_13 i3_13 i4_13 i5_13 i6_13 i7_13 i8_13 w_13 h
        refine x_iinc (L1 := [(8, .int (i8_13 + (1 : Int32))), (0, .ref a0_13), (1, .int i1_13), (3, .int i3_13), (4, .int i4_13), (5, .int i5_13), (6, .int i6_13), (7, .int i7_13)]) (pc := 154) B 7 dX0_possibleActions_154 rfl (congrArg _ xk_iconst_1) (by decide) rfl ?_
        refine x_goto (tgt := 88) (pc := 157) B dX0_possibleActions_157 (by decide) ?_
        refine x_sub (L1 := [(0, .ref a0_13), (1, .int i1_13), (3, .int i3_13), (4, .int i4_13), (5, .int i5_13), (6, .int i6_13), (7, .int i7_13), (8, .int (i8_13 + (1 : Int32)))]) [1, 2, 3, 4, 5, 6, 7, 0] rfl ?_
        exact ih a0_13 i1_13 i3_13 i4_13 i5_13 i6_13 i7_13 (i8_13 + (1 : Int32)) w_13 h
def fX0_possibleActions_80 (a0 : Nat) (i1 : Int32) (i3 : Int32) (i4 : Int32) (i5 : Int32) (s0 : Int32) (w : XW) : Option (Int32 × XW) :=
  fX0_possibleActions_88 1000 a0 i1 i3 i4 i5 s0 (0 : Int32) (0 : Int32) w
set_option maxRecDepth 20000 in
theorem pX0_possibleActions_80 {K : KX} {cx : CX} {nn : Nat} {R9 : Int32 × XW} (B : XB K cx RX0 cX0_possibleActions 11 nn 3 76) (hR : XR K cx nn (some .int) (some (.int R9.1)) R9.2) : ∀ (a0 : Nat) (i1 : Int32) (i3 : Int32) (i4 : Int32) (i5 : Int32) (s0 : Int32) (w : XW), fX0_possibleActions_80 a0 i1 i3 i4 i5 s0 w = some R9 → Wx K cx 11 nn 80 [(0, .ref a0), (1, .int i1), (3, .int i3), (4, .int i4), (5, .int i5)] [.int s0] w := by
  intro a0 i1 i3 i4 i5 s0 w h
  rw [fX0_possibleActions_80] at h
  refine x_istore (L1 := [(6, .int s0), (0, .ref a0), (1, .int i1), (3, .int i3), (4, .int i4), (5, .int i5)]) (pc := 80) B dX0_possibleActions_80 (by decide) rfl ?_
  refine x_iconst (pc := 82) B dX0_possibleActions_82 xk_iconst_0 ?_
  refine x_istore (L1 := [(7, .int (0 : Int32)), (6, .int s0), (0, .ref a0), (1, .int i1), (3, .int i3), (4, .int i4), (5, .int i5)]) (pc := 83) B dX0_possibleActions_83 (by decide) rfl ?_
  refine x_iconst (pc := 85) B dX0_possibleActions_85 xk_iconst_0 ?_
  refine x_istore (L1 := [(8, .int (0 : Int32)), (7, .int (0 : Int32)), (6, .int s0), (0, .ref a0), (1, .int i1), (3, .int i3), (4, .int i4), (5, .int i5)]) (pc := 86) B dX0_possibleActions_86 (by decide) rfl ?_
  refine x_sub (L1 := [(0, .ref a0), (1, .int i1), (3, .int i3), (4, .int i4), (5, .int i5), (6, .int s0), (7, .int (0 : Int32)), (8, .int (0 : Int32))]) [3, 4, 5, 6, 7, 2, 1, 0] rfl ?_
  exact pX0_possibleActions_88 B hR 1000 a0 i1 i3 i4 i5 s0 (0 : Int32) (0 : Int32) w h
def fX0_possibleActions_65 (a0 : Nat) (i1 : Int32) (i2 : Int32) (i3 : Int32) (i4 : Int32) (s0 : Int32) (w : XW) : Option (Int32 × XW) :=
  (fX3_has i2 (2 : Int32) w).bind fun q8 =>
  if q8.1 = (0 : Int32) then
    fX0_possibleActions_80 a0 i1 i3 i4 s0 (0 : Int32) q8.2
  else
  fX0_possibleActions_80 a0 i1 i3 i4 s0 (4 : Int32) q8.2
set_option maxRecDepth 20000 in
theorem pX0_possibleActions_65 {K : KX} {cx : CX} {nn : Nat} {R9 : Int32 × XW} (B : XB K cx RX0 cX0_possibleActions 11 nn 3 76) (hR : XR K cx nn (some .int) (some (.int R9.1)) R9.2) : ∀ (a0 : Nat) (i1 : Int32) (i2 : Int32) (i3 : Int32) (i4 : Int32) (s0 : Int32) (w : XW), fX0_possibleActions_65 a0 i1 i2 i3 i4 s0 w = some R9 → Wx K cx 11 nn 65 [(0, .ref a0), (1, .int i1), (2, .int i2), (3, .int i3), (4, .int i4)] [.int s0] w := by
  intro a0 i1 i2 i3 i4 s0 w h
  rw [fX0_possibleActions_65] at h
  refine x_istore (L1 := [(5, .int s0), (0, .ref a0), (1, .int i1), (2, .int i2), (3, .int i3), (4, .int i4)]) (pc := 65) B dX0_possibleActions_65 (by decide) rfl ?_
  refine x_iload_n (pc := 67) B 3 dX0_possibleActions_67 rfl rfl ?_
  refine x_iconst (pc := 68) B dX0_possibleActions_68 xk_iconst_2 ?_
  obtain ⟨q8, hq, h⟩ := xbind h
  refine x_callSN1 (st := []) (pc := 69) B dX0_possibleActions_69 (eX3_has hq) xt_265 xt_53 np_X3_has hy_X3_has (Nat.le_of_ble_eq_true rfl) (Nat.le_of_ble_eq_true rfl) (Nat.le_of_ble_eq_true rfl) xt_264 (List.mem_of_getElem? (i := 1) rfl) rfl ?_
  rcases xite h with ⟨hc, h⟩ | ⟨hc, h⟩
  · refine x_if_eq_t (tgt := 79) (pc := 72) B dX0_possibleActions_72 (by decide) hc ?_
    refine x_iconst (pc := 79) B dX0_possibleActions_79 xk_iconst_0 ?_
    refine x_sub (L1 := [(0, .ref a0), (1, .int i1), (3, .int i3), (4, .int i4), (5, .int s0)]) [1, 2, 4, 5, 0] rfl ?_
    exact pX0_possibleActions_80 B hR a0 i1 i3 i4 s0 (0 : Int32) q8.2 h
  · refine x_if_eq_f (pc := 72) B 79 dX0_possibleActions_72 (by decide) hc ?_
    refine x_iconst (pc := 75) B dX0_possibleActions_75 xk_iconst_4 ?_
    refine x_goto (tgt := 80) (pc := 76) B dX0_possibleActions_76 (by decide) ?_
    refine x_sub (L1 := [(0, .ref a0), (1, .int i1), (3, .int i3), (4, .int i4), (5, .int s0)]) [1, 2, 4, 5, 0] rfl ?_
    exact pX0_possibleActions_80 B hR a0 i1 i3 i4 s0 (4 : Int32) q8.2 h
def fX0_possibleActions_50 (a0 : Nat) (i1 : Int32) (i2 : Int32) (i3 : Int32) (s0 : Int32) (w : XW) : Option (Int32 × XW) :=
  (fX3_has i2 (1 : Int32) w).bind fun q7 =>
  if q7.1 = (0 : Int32) then
    fX0_possibleActions_65 a0 i1 i2 i3 s0 (0 : Int32) q7.2
  else
  fX0_possibleActions_65 a0 i1 i2 i3 s0 (4 : Int32) q7.2
set_option maxRecDepth 20000 in
theorem pX0_possibleActions_50 {K : KX} {cx : CX} {nn : Nat} {R9 : Int32 × XW} (B : XB K cx RX0 cX0_possibleActions 11 nn 3 76) (hR : XR K cx nn (some .int) (some (.int R9.1)) R9.2) : ∀ (a0 : Nat) (i1 : Int32) (i2 : Int32) (i3 : Int32) (s0 : Int32) (w : XW), fX0_possibleActions_50 a0 i1 i2 i3 s0 w = some R9 → Wx K cx 11 nn 50 [(0, .ref a0), (1, .int i1), (2, .int i2), (3, .int i3)] [.int s0] w := by
  intro a0 i1 i2 i3 s0 w h
  rw [fX0_possibleActions_50] at h
  refine x_istore (L1 := [(4, .int s0), (0, .ref a0), (1, .int i1), (2, .int i2), (3, .int i3)]) (pc := 50) B dX0_possibleActions_50 (by decide) rfl ?_
  refine x_iload_n (pc := 52) B 3 dX0_possibleActions_52 rfl rfl ?_
  refine x_iconst (pc := 53) B dX0_possibleActions_53 xk_iconst_1 ?_
  obtain ⟨q7, hq, h⟩ := xbind h
  refine x_callSN1 (st := []) (pc := 54) B dX0_possibleActions_54 (eX3_has hq) xt_265 xt_53 np_X3_has hy_X3_has (Nat.le_of_ble_eq_true rfl) (Nat.le_of_ble_eq_true rfl) (Nat.le_of_ble_eq_true rfl) xt_264 (List.mem_of_getElem? (i := 1) rfl) rfl ?_
  rcases xite h with ⟨hc, h⟩ | ⟨hc, h⟩
  · refine x_if_eq_t (tgt := 64) (pc := 57) B dX0_possibleActions_57 (by decide) hc ?_
    refine x_iconst (pc := 64) B dX0_possibleActions_64 xk_iconst_0 ?_
    refine x_sub (L1 := [(0, .ref a0), (1, .int i1), (2, .int i2), (3, .int i3), (4, .int s0)]) [1, 2, 3, 4, 0] rfl ?_
    exact pX0_possibleActions_65 B hR a0 i1 i2 i3 s0 (0 : Int32) q7.2 h
  · refine x_if_eq_f (pc := 57) B 64 dX0_possibleActions_57 (by decide) hc ?_
    refine x_iconst (pc := 60) B dX0_possibleActions_60 xk_iconst_4 ?_
    refine x_goto (tgt := 65) (pc := 61) B dX0_possibleActions_61 (by decide) ?_
    refine x_sub (L1 := [(0, .ref a0), (1, .int i1), (2, .int i2), (3, .int i3), (4, .int s0)]) [1, 2, 3, 4, 0] rfl ?_
    exact pX0_possibleActions_65 B hR a0 i1 i2 i3 s0 (4 : Int32) q7.2 h
def fX0_possibleActions (a0 : Nat) (i1 : Int32) (i2 : Int32) (w : XW) : Option (Int32 × XW) := if xis w a0 0 = true then
  (xgR w a0 0 1).bind fun v1 =>
  (xaL w v1).bind fun v2 =>
  (fX3_isWithin ((i1 * (8 : Int32)) + i2) v2 w).bind fun q3 =>
  if q3.1 = (0 : Int32) then
    some ((0 : Int32), q3.2)
  else
  (xgR q3.2 a0 0 1).bind fun v4 =>
  (xaI q3.2 v4 ((i1 * (8 : Int32)) + i2)).bind fun v5 =>
  if v5 = (0 : Int32) then
    (fX3_has i2 (0 : Int32) q3.2).bind fun q6 =>
    if q6.1 = (0 : Int32) then
      fX0_possibleActions_50 a0 i1 i2 ((i1 * (8 : Int32)) + i2) (0 : Int32) q6.2
    else
    fX0_possibleActions_50 a0 i1 i2 ((i1 * (8 : Int32)) + i2) (4 : Int32) q6.2
  else
  (xgR q3.2 a0 0 1).bind fun v14 =>
  (xaI q3.2 v14 ((i1 * (8 : Int32)) + i2)).bind fun v15 =>
  some (v15, q3.2)
  else none
theorem iX0_possibleActions {a0 : Nat} {i1 : Int32} {i2 : Int32} {w : XW} {R9 : (Int32 × XW)} (h : fX0_possibleActions a0 i1 i2 w = some R9) : xis w a0 0 = true := by
  unfold fX0_possibleActions at h
  rcases xite h with ⟨hc, h⟩ | ⟨hc, h⟩
  · exact hc
  · exact absurd h (by simp)
theorem np_X0_possibleActions : (parseMethodDescriptor yX0_possibleActions.desc).map (fun d => d.parameters.length) = some 2 := by decide +kernel
theorem hy_X0_possibleActions : yX0_possibleActions.cls ≠ "java/lang/invoke/MethodHandle" ∧ yX0_possibleActions.cls ≠ "java/lang/invoke/VarHandle" := ⟨by decide +kernel, by decide +kernel⟩
set_option maxRecDepth 20000 in
theorem eX0_possibleActions {cx : CX} {a0 : Nat} {i1 : Int32} {i2 : Int32} {w : XW} {R9 : (Int32 × XW)} (h : fX0_possibleActions a0 i1 i2 w = some R9) : Ct yX0_possibleActions cX0_possibleActions 11 (some .int) 3 76 cx [.ref a0, .int i1, .int i2] w (some (.int R9.1)) R9.2 := by
  refine Ct_of (by decide +kernel) (Nat.le_of_ble_eq_true rfl) (fun K B hR => ?_)
  rw [fX0_possibleActions] at h
  show Wx K cx 11 w.length 0 [(0, .ref a0), (1, .int i1), (2, .int i2)] [] w
  rcases xite h with ⟨hc, h⟩ | ⟨hc, h⟩
  · skip
    refine x_iload_n (pc := 0) B 1 dX0_possibleActions_0 rfl rfl ?_
    refine x_bipush (pc := 1) B dX0_possibleActions_1 xk_bipush_8 ?_
    refine x_imul (pc := 3) B dX0_possibleActions_3 ?_
    refine x_iload_n (pc := 4) B 2 dX0_possibleActions_4 rfl rfl ?_
    refine x_iadd (pc := 5) B dX0_possibleActions_5 ?_
    refine x_istore_n (L1 := [(3, .int ((i1 * (8 : Int32)) + i2)), (0, .ref a0), (1, .int i1), (2, .int i2)]) (pc := 6) B dX0_possibleActions_6 rfl (by decide) rfl ?_
    refine x_iload_n (pc := 7) B 0 dX0_possibleActions_7 rfl rfl ?_
    refine x_aload_n (pc := 8) B 1 dX0_possibleActions_8 rfl rfl ?_
    obtain ⟨v1, hv, h⟩ := xbind h
    refine x_getR (k0 := 1) (pc := 9) B dX0_possibleActions_9 rfl xi_0 (by decide) ⟨rfl, rfl, rfl⟩ xt_87 hv ?_
    obtain ⟨v2, hv, h⟩ := xbind h
    refine x_alen (pc := 12) B dX0_possibleActions_12 hv ?_
    obtain ⟨q3, hq, h⟩ := xbind h
    refine x_callSN1 (st := []) (pc := 13) B dX0_possibleActions_13 (eX3_isWithin hq) xt_142 xt_53 np_X3_isWithin hy_X3_isWithin (Nat.le_of_ble_eq_true rfl) (Nat.le_of_ble_eq_true rfl) (Nat.le_of_ble_eq_true rfl) xt_141 (List.mem_of_getElem? (i := 0) rfl) rfl ?_
    rcases xite h with ⟨hc, h⟩ | ⟨hc, h⟩
    · refine x_if_ne_f (pc := 16) B 21 dX0_possibleActions_16 (by decide) hc ?_
      refine x_iconst (pc := 19) B dX0_possibleActions_19 xk_iconst_0 ?_
      exact x_iret (pc := 20) B hR dX0_possibleActions_20 (xzI _) h
    · refine x_if_ne_t (tgt := 21) (pc := 16) B dX0_possibleActions_16 (by decide) hc ?_
      refine x_aload_n (pc := 21) B 1 dX0_possibleActions_21 rfl rfl ?_
      obtain ⟨v4, hv, h⟩ := xbind h
      refine x_getR (k0 := 1) (pc := 22) B dX0_possibleActions_22 rfl xi_0 (by decide) ⟨rfl, rfl, rfl⟩ xt_87 hv ?_
      refine x_iload_n (pc := 25) B 0 dX0_possibleActions_25 rfl rfl ?_
      obtain ⟨v5, hv, h⟩ := xbind h
      refine x_iald (pc := 26) B dX0_possibleActions_26 hv ?_
      rcases xite h with ⟨hc, h⟩ | ⟨hc, h⟩
      · refine x_if_eq_t (tgt := 37) (pc := 27) B dX0_possibleActions_27 (by decide) hc ?_
        refine x_iload_n (pc := 37) B 3 dX0_possibleActions_37 rfl rfl ?_
        refine x_iconst (pc := 38) B dX0_possibleActions_38 xk_iconst_0 ?_
        obtain ⟨q6, hq, h⟩ := xbind h
        refine x_callSN1 (st := []) (pc := 39) B dX0_possibleActions_39 (eX3_has hq) xt_265 xt_53 np_X3_has hy_X3_has (Nat.le_of_ble_eq_true rfl) (Nat.le_of_ble_eq_true rfl) (Nat.le_of_ble_eq_true rfl) xt_264 (List.mem_of_getElem? (i := 1) rfl) rfl ?_
        rcases xite h with ⟨hc, h⟩ | ⟨hc, h⟩
        · refine x_if_eq_t (tgt := 49) (pc := 42) B dX0_possibleActions_42 (by decide) hc ?_
          refine x_iconst (pc := 49) B dX0_possibleActions_49 xk_iconst_0 ?_
          refine x_sub (L1 := [(0, .ref a0), (1, .int i1), (2, .int i2), (3, .int ((i1 * (8 : Int32)) + i2))]) [1, 2, 3, 0] rfl ?_
          exact pX0_possibleActions_50 B hR a0 i1 i2 ((i1 * (8 : Int32)) + i2) (0 : Int32) q6.2 h
        · refine x_if_eq_f (pc := 42) B 49 dX0_possibleActions_42 (by decide) hc ?_
          refine x_iconst (pc := 45) B dX0_possibleActions_45 xk_iconst_4 ?_
          refine x_goto (tgt := 50) (pc := 46) B dX0_possibleActions_46 (by decide) ?_
          refine x_sub (L1 := [(0, .ref a0), (1, .int i1), (2, .int i2), (3, .int ((i1 * (8 : Int32)) + i2))]) [1, 2, 3, 0] rfl ?_
          exact pX0_possibleActions_50 B hR a0 i1 i2 ((i1 * (8 : Int32)) + i2) (4 : Int32) q6.2 h
      · refine x_if_eq_f (pc := 27) B 37 dX0_possibleActions_27 (by decide) hc ?_
        refine x_aload_n (pc := 30) B 1 dX0_possibleActions_30 rfl rfl ?_
        obtain ⟨v14, hv, h⟩ := xbind h
        refine x_getR (k0 := 1) (pc := 31) B dX0_possibleActions_31 rfl xi_0 (by decide) ⟨rfl, rfl, rfl⟩ xt_87 hv ?_
        refine x_iload_n (pc := 34) B 0 dX0_possibleActions_34 rfl rfl ?_
        obtain ⟨v15, hv, h⟩ := xbind h
        refine x_iald (pc := 35) B dX0_possibleActions_35 hv ?_
        exact x_iret (pc := 36) B hR dX0_possibleActions_36 (xzI _) h
  · exact absurd h (by simp)
def fX0_mostByAny_7 : Nat → Nat → Int32 → Int32 → Int32 → Int32 → Int32 → XW → Option (Int32 × XW)
  | 0, _, _, _, _, _, _, _ => none
  | g + 1, a0, i1, i2, i3, i4, i5, w =>
    if (3 : Int32) ≤ i5 then
      some (i4, w)
    else
    (fX3_has i3 i5 w).bind fun q1 =>
    if q1.1 = (0 : Int32) then
      fX0_mostByAny_7 g a0 i1 i2 i3 i4 (i5 + (1 : Int32)) q1.2
    else
    (fX0_payPlace (0 : Int32) i1 i2 i5 q1.2).bind fun q2 =>
    (fX0_cell a0 q2.1 q2.2).bind fun q3 =>
    fX0_mostByAny_7 g a0 i1 i2 i3 (if i4 < q3.1 then q3.1 else i4) (i5 + (1 : Int32)) q3.2
set_option maxRecDepth 20000 in
theorem pX0_mostByAny_7 {K : KX} {cx : CX} {nn : Nat} {R9 : Int32 × XW} (B : XB K cx RX0 cX0_mostByAny 6 nn 1 23) (hR : XR K cx nn (some .int) (some (.int R9.1)) R9.2) : ∀ (g : Nat) (a0 : Nat) (i1 : Int32) (i2 : Int32) (i3 : Int32) (i4 : Int32) (i5 : Int32) (w : XW), fX0_mostByAny_7 g a0 i1 i2 i3 i4 i5 w = some R9 → Wx K cx 6 nn 7 [(0, .ref a0), (1, .int i1), (2, .int i2), (3, .int i3), (4, .int i4), (5, .int i5)] [] w := by
  intro g
  induction g with
  | zero =>
    intro a0 i1 i2 i3 i4 i5 w h
    exact absurd (show (none : Option (Int32 × XW)) = some R9 from h) (by simp)
  | succ g ih =>
    intro a0 i1 i2 i3 i4 i5 w h
    rw [fX0_mostByAny_7] at h
    refine x_iload (pc := 7) B 5 dX0_mostByAny_7 rfl ?_
    refine x_iconst (pc := 9) B dX0_mostByAny_9 xk_iconst_3 ?_
    rcases xite h with ⟨hc, h⟩ | ⟨hc, h⟩
    · refine x_icmp_ge_t (tgt := 47) (pc := 10) B dX0_mostByAny_10 (by decide) hc ?_
      refine x_iload (pc := 47) B 4 dX0_mostByAny_47 rfl ?_
      exact x_iret (pc := 49) B hR dX0_mostByAny_49 (xzI _) h
    · refine x_icmp_ge_f (pc := 10) B 47 dX0_mostByAny_10 (by decide) hc ?_
      refine x_iload_n (pc := 13) B 3 dX0_mostByAny_13 rfl rfl ?_
      refine x_iload (pc := 14) B 5 dX0_mostByAny_14 rfl ?_
      obtain ⟨q1, hq, h⟩ := xbind h
      refine x_callSN1 (st := []) (pc := 16) B dX0_mostByAny_16 (eX3_has hq) xt_265 xt_53 np_X3_has hy_X3_has (Nat.le_of_ble_eq_true rfl) (Nat.le_of_ble_eq_true rfl) (Nat.le_of_ble_eq_true rfl) xt_264 (List.mem_of_getElem? (i := 1) rfl) rfl ?_
      rcases xite h with ⟨hc, h⟩ | ⟨hc, h⟩
      · refine x_if_eq_t (tgt := 41) (pc := 19) B dX0_mostByAny_19 (by decide) hc ?_
        refine x_iinc (L1 := [(5, .int (i5 + (1 : Int32))), (0, .ref a0), (1, .int i1), (2, .int i2), (3, .int i3), (4, .int i4)]) (pc := 41) B 5 dX0_mostByAny_41 rfl (congrArg _ xk_iconst_1) (by decide) rfl ?_
        refine x_goto (tgt := 7) (pc := 44) B dX0_mostByAny_44 (by decide) ?_
        refine x_sub (L1 := [(0, .ref a0), (1, .int i1), (2, .int i2), (3, .int i3), (4, .int i4), (5, .int (i5 + (1 : Int32)))]) [1, 2, 3, 4, 5, 0] rfl ?_
        exact ih a0 i1 i2 i3 i4 (i5 + (1 : Int32)) q1.2 h
      · refine x_if_eq_f (pc := 19) B 41 dX0_mostByAny_19 (by decide) hc ?_
        refine x_iload (pc := 22) B 4 dX0_mostByAny_22 rfl ?_
        refine x_aload_n (pc := 24) B 0 dX0_mostByAny_24 rfl rfl ?_
        refine x_iconst (pc := 25) B dX0_mostByAny_25 xk_iconst_0 ?_
        refine x_iload_n (pc := 26) B 1 dX0_mostByAny_26 rfl rfl ?_
        refine x_iload_n (pc := 27) B 2 dX0_mostByAny_27 rfl rfl ?_
        refine x_iload (pc := 28) B 5 dX0_mostByAny_28 rfl ?_
        obtain ⟨q2, hq, h⟩ := xbind h
        refine x_callS1 (st := [.ref a0, .int i4]) (pc := 30) B dX0_mostByAny_30 (eX0_payPlace hq) xt_186 xt_54 np_X0_payPlace hy_X0_payPlace (Nat.le_of_ble_eq_true rfl) (Nat.le_of_ble_eq_true rfl) (Nat.le_of_ble_eq_true rfl) xt_185 xt_274 rfl ?_
        obtain ⟨q3, hq, h⟩ := xbind h
        refine x_callV1 (st := [.int i4]) (pc := 33) B dX0_mostByAny_33 (eX0_cell hq) xt_153 xt_54 np_X0_cell hy_X0_cell (Nat.le_of_ble_eq_true rfl) (Nat.le_of_ble_eq_true rfl) (Nat.le_of_ble_eq_true rfl) xt_151 xt_152 xt_150 rfl (iX0_cell hq) rfl ?_
        refine x_mmax (pc := 36) B dX0_mostByAny_36 xt_318 (Nat.le_of_ble_eq_true rfl) (Nat.le_of_ble_eq_true rfl) ?_
        refine x_istore (L1 := [(4, .int (if i4 < q3.1 then q3.1 else i4)), (0, .ref a0), (1, .int i1), (2, .int i2), (3, .int i3), (5, .int i5)]) (pc := 39) B dX0_mostByAny_39 (by decide) rfl ?_
        refine x_iinc (L1 := [(5, .int (i5 + (1 : Int32))), (4, .int (if i4 < q3.1 then q3.1 else i4)), (0, .ref a0), (1, .int i1), (2, .int i2), (3, .int i3)]) (pc := 41) B 5 dX0_mostByAny_41 rfl (congrArg _ xk_iconst_1) (by decide) rfl ?_
        refine x_goto (tgt := 7) (pc := 44) B dX0_mostByAny_44 (by decide) ?_
        refine x_sub (L1 := [(0, .ref a0), (1, .int i1), (2, .int i2), (3, .int i3), (4, .int (if i4 < q3.1 then q3.1 else i4)), (5, .int (i5 + (1 : Int32)))]) [2, 3, 4, 5, 1, 0] rfl ?_
        exact ih a0 i1 i2 i3 (if i4 < q3.1 then q3.1 else i4) (i5 + (1 : Int32)) q3.2 h
def fX0_mostByAny (a0 : Nat) (i1 : Int32) (i2 : Int32) (i3 : Int32) (w : XW) : Option (Int32 × XW) := if xis w a0 0 = true then
  fX0_mostByAny_7 1000 a0 i1 i2 i3 (-9 : Int32) (0 : Int32) w
  else none
theorem iX0_mostByAny {a0 : Nat} {i1 : Int32} {i2 : Int32} {i3 : Int32} {w : XW} {R9 : (Int32 × XW)} (h : fX0_mostByAny a0 i1 i2 i3 w = some R9) : xis w a0 0 = true := by
  unfold fX0_mostByAny at h
  rcases xite h with ⟨hc, h⟩ | ⟨hc, h⟩
  · exact hc
  · exact absurd h (by simp)
theorem np_X0_mostByAny : (parseMethodDescriptor yX0_mostByAny.desc).map (fun d => d.parameters.length) = some 3 := by decide +kernel
theorem hy_X0_mostByAny : yX0_mostByAny.cls ≠ "java/lang/invoke/MethodHandle" ∧ yX0_mostByAny.cls ≠ "java/lang/invoke/VarHandle" := ⟨by decide +kernel, by decide +kernel⟩
set_option maxRecDepth 20000 in
theorem eX0_mostByAny {cx : CX} {a0 : Nat} {i1 : Int32} {i2 : Int32} {i3 : Int32} {w : XW} {R9 : (Int32 × XW)} (h : fX0_mostByAny a0 i1 i2 i3 w = some R9) : Ct yX0_mostByAny cX0_mostByAny 6 (some .int) 1 23 cx [.ref a0, .int i1, .int i2, .int i3] w (some (.int R9.1)) R9.2 := by
  refine Ct_of (by decide +kernel) (Nat.le_of_ble_eq_true rfl) (fun K B hR => ?_)
  rw [fX0_mostByAny] at h
  show Wx K cx 6 w.length 0 [(0, .ref a0), (1, .int i1), (2, .int i2), (3, .int i3)] [] w
  rcases xite h with ⟨hc, h⟩ | ⟨hc, h⟩
  · skip
    refine x_bipush (pc := 0) B dX0_mostByAny_0 xk_bipush_m9 ?_
    refine x_istore (L1 := [(4, .int (-9 : Int32)), (0, .ref a0), (1, .int i1), (2, .int i2), (3, .int i3)]) (pc := 2) B dX0_mostByAny_2 (by decide) rfl ?_
    refine x_iconst (pc := 4) B dX0_mostByAny_4 xk_iconst_0 ?_
    refine x_istore (L1 := [(5, .int (0 : Int32)), (4, .int (-9 : Int32)), (0, .ref a0), (1, .int i1), (2, .int i2), (3, .int i3)]) (pc := 5) B dX0_mostByAny_5 (by decide) rfl ?_
    refine x_sub (L1 := [(0, .ref a0), (1, .int i1), (2, .int i2), (3, .int i3), (4, .int (-9 : Int32)), (5, .int (0 : Int32))]) [2, 3, 4, 5, 1, 0] rfl ?_
    exact pX0_mostByAny_7 B hR 1000 a0 i1 i2 i3 (-9 : Int32) (0 : Int32) w h
  · exact absurd h (by simp)
def fX0_neverSenders_28 : Nat → Nat → Int32 → Int32 → Int32 → Int32 → Int32 → XW → Option (Int32 × XW)
  | 0, _, _, _, _, _, _, _ => none
  | g + 1, a0, i1, i2, i3, i4, i5, w =>
    if (3 : Int32) ≤ i5 then
      some (i4, w)
    else
    (fX3_has i2 i5 w).bind fun q4 =>
    if q4.1 = (0 : Int32) then
      fX0_neverSenders_28 g a0 i1 i2 i3 i4 (i5 + (1 : Int32)) q4.2
    else
    (fX0_ownPayoff a0 i5 q4.2).bind fun q5 =>
    (fX0_mostByAny a0 i5 i1 i3 q5.2).bind fun q6 =>
    if q5.1 ≤ q6.1 then
      fX0_neverSenders_28 g a0 i1 i2 i3 i4 (i5 + (1 : Int32)) q6.2
    else
    fX0_neverSenders_28 g a0 i1 i2 i3 (i4 ||| ((1 : Int32) <<< (i5 &&& 31))) (i5 + (1 : Int32)) q6.2
set_option maxRecDepth 20000 in
theorem pX0_neverSenders_28 {K : KX} {cx : CX} {nn : Nat} {R9 : Int32 × XW} (B : XB K cx RX0 cX0_neverSenders 6 nn 4 106) (hR : XR K cx nn (some .int) (some (.int R9.1)) R9.2) : ∀ (g : Nat) (a0 : Nat) (i1 : Int32) (i2 : Int32) (i3 : Int32) (i4 : Int32) (i5 : Int32) (w : XW), fX0_neverSenders_28 g a0 i1 i2 i3 i4 i5 w = some R9 → Wx K cx 6 nn 28 [(0, .ref a0), (1, .int i1), (2, .int i2), (3, .int i3), (4, .int i4), (5, .int i5)] [] w := by
  intro g
  induction g with
  | zero =>
    intro a0 i1 i2 i3 i4 i5 w h
    exact absurd (show (none : Option (Int32 × XW)) = some R9 from h) (by simp)
  | succ g ih =>
    intro a0 i1 i2 i3 i4 i5 w h
    rw [fX0_neverSenders_28] at h
    refine x_iload (pc := 28) B 5 dX0_neverSenders_28 rfl ?_
    refine x_iconst (pc := 30) B dX0_neverSenders_30 xk_iconst_3 ?_
    rcases xite h with ⟨hc, h⟩ | ⟨hc, h⟩
    · refine x_icmp_ge_t (tgt := 75) (pc := 31) B dX0_neverSenders_31 (by decide) hc ?_
      refine x_iload (pc := 75) B 4 dX0_neverSenders_75 rfl ?_
      exact x_iret (pc := 77) B hR dX0_neverSenders_77 (xzI _) h
    · refine x_icmp_ge_f (pc := 31) B 75 dX0_neverSenders_31 (by decide) hc ?_
      refine x_iload_n (pc := 34) B 2 dX0_neverSenders_34 rfl rfl ?_
      refine x_iload (pc := 35) B 5 dX0_neverSenders_35 rfl ?_
      obtain ⟨q4, hq, h⟩ := xbind h
      refine x_callSN1 (st := []) (pc := 37) B dX0_neverSenders_37 (eX3_has hq) xt_265 xt_53 np_X3_has hy_X3_has (Nat.le_of_ble_eq_true rfl) (Nat.le_of_ble_eq_true rfl) (Nat.le_of_ble_eq_true rfl) xt_264 (List.mem_of_getElem? (i := 1) rfl) rfl ?_
      rcases xite h with ⟨hc, h⟩ | ⟨hc, h⟩
      · refine x_if_eq_t (tgt := 69) (pc := 40) B dX0_neverSenders_40 (by decide) hc ?_
        refine x_iinc (L1 := [(5, .int (i5 + (1 : Int32))), (0, .ref a0), (1, .int i1), (2, .int i2), (3, .int i3), (4, .int i4)]) (pc := 69) B 5 dX0_neverSenders_69 rfl (congrArg _ xk_iconst_1) (by decide) rfl ?_
        refine x_goto (tgt := 28) (pc := 72) B dX0_neverSenders_72 (by decide) ?_
        refine x_sub (L1 := [(0, .ref a0), (1, .int i1), (2, .int i2), (3, .int i3), (4, .int i4), (5, .int (i5 + (1 : Int32)))]) [1, 2, 3, 4, 5, 0] rfl ?_
        exact ih a0 i1 i2 i3 i4 (i5 + (1 : Int32)) q4.2 h
      · refine x_if_eq_f (pc := 40) B 69 dX0_neverSenders_40 (by decide) hc ?_
        refine x_aload_n (pc := 43) B 0 dX0_neverSenders_43 rfl rfl ?_
        refine x_iload (pc := 44) B 5 dX0_neverSenders_44 rfl ?_
        obtain ⟨q5, hq, h⟩ := xbind h
        refine x_callV1 (st := []) (pc := 46) B dX0_neverSenders_46 (eX0_ownPayoff hq) xt_292 xt_54 np_X0_ownPayoff hy_X0_ownPayoff (Nat.le_of_ble_eq_true rfl) (Nat.le_of_ble_eq_true rfl) (Nat.le_of_ble_eq_true rfl) xt_290 xt_291 xt_289 rfl (iX0_ownPayoff hq) rfl ?_
        refine x_aload_n (pc := 49) B 0 dX0_neverSenders_49 rfl rfl ?_
        refine x_iload (pc := 50) B 5 dX0_neverSenders_50 rfl ?_
        refine x_iload_n (pc := 52) B 1 dX0_neverSenders_52 rfl rfl ?_
        refine x_iload_n (pc := 53) B 3 dX0_neverSenders_53 rfl rfl ?_
        obtain ⟨q6, hq, h⟩ := xbind h
        refine x_callV1 (st := [.int q5.1]) (pc := 54) B dX0_neverSenders_54 (eX0_mostByAny hq) xt_317 xt_54 np_X0_mostByAny hy_X0_mostByAny (Nat.le_of_ble_eq_true rfl) (Nat.le_of_ble_eq_true rfl) (Nat.le_of_ble_eq_true rfl) xt_316 xt_8 xt_314 rfl (iX0_mostByAny hq) rfl ?_
        rcases xite h with ⟨hc, h⟩ | ⟨hc, h⟩
        · refine x_icmp_le_t (tgt := 69) (pc := 57) B dX0_neverSenders_57 (by decide) hc ?_
          refine x_iinc (L1 := [(5, .int (i5 + (1 : Int32))), (0, .ref a0), (1, .int i1), (2, .int i2), (3, .int i3), (4, .int i4)]) (pc := 69) B 5 dX0_neverSenders_69 rfl (congrArg _ xk_iconst_1) (by decide) rfl ?_
          refine x_goto (tgt := 28) (pc := 72) B dX0_neverSenders_72 (by decide) ?_
          refine x_sub (L1 := [(0, .ref a0), (1, .int i1), (2, .int i2), (3, .int i3), (4, .int i4), (5, .int (i5 + (1 : Int32)))]) [1, 2, 3, 4, 5, 0] rfl ?_
          exact ih a0 i1 i2 i3 i4 (i5 + (1 : Int32)) q6.2 h
        · refine x_icmp_le_f (pc := 57) B 69 dX0_neverSenders_57 (by decide) hc ?_
          refine x_iload (pc := 60) B 4 dX0_neverSenders_60 rfl ?_
          refine x_iconst (pc := 62) B dX0_neverSenders_62 xk_iconst_1 ?_
          refine x_iload (pc := 63) B 5 dX0_neverSenders_63 rfl ?_
          refine x_ishl (pc := 65) B dX0_neverSenders_65 ?_
          refine x_ior (pc := 66) B dX0_neverSenders_66 ?_
          refine x_istore (L1 := [(4, .int (i4 ||| ((1 : Int32) <<< (i5 &&& 31)))), (0, .ref a0), (1, .int i1), (2, .int i2), (3, .int i3), (5, .int i5)]) (pc := 67) B dX0_neverSenders_67 (by decide) rfl ?_
          refine x_iinc (L1 := [(5, .int (i5 + (1 : Int32))), (4, .int (i4 ||| ((1 : Int32) <<< (i5 &&& 31)))), (0, .ref a0), (1, .int i1), (2, .int i2), (3, .int i3)]) (pc := 69) B 5 dX0_neverSenders_69 rfl (congrArg _ xk_iconst_1) (by decide) rfl ?_
          refine x_goto (tgt := 28) (pc := 72) B dX0_neverSenders_72 (by decide) ?_
          refine x_sub (L1 := [(0, .ref a0), (1, .int i1), (2, .int i2), (3, .int i3), (4, .int (i4 ||| ((1 : Int32) <<< (i5 &&& 31)))), (5, .int (i5 + (1 : Int32)))]) [2, 3, 4, 5, 1, 0] rfl ?_
          exact ih a0 i1 i2 i3 (i4 ||| ((1 : Int32) <<< (i5 &&& 31))) (i5 + (1 : Int32)) q6.2 h
def fX0_neverSenders (a0 : Nat) (i1 : Int32) (w : XW) : Option (Int32 × XW) := if xis w a0 0 = true then
  (fX0_sendersOf a0 i1 w).bind fun q1 =>
  if q1.1 = (0 : Int32) then
    (fX0_typesThere a0 q1.2).bind fun q2 =>
    (fX0_possibleActions a0 i1 q2.1 q2.2).bind fun q3 =>
    fX0_neverSenders_28 1000 a0 i1 q2.1 q3.1 (0 : Int32) (0 : Int32) q3.2
  else
  some ((0 : Int32), q1.2)
  else none
theorem iX0_neverSenders {a0 : Nat} {i1 : Int32} {w : XW} {R9 : (Int32 × XW)} (h : fX0_neverSenders a0 i1 w = some R9) : xis w a0 0 = true := by
  unfold fX0_neverSenders at h
  rcases xite h with ⟨hc, h⟩ | ⟨hc, h⟩
  · exact hc
  · exact absurd h (by simp)
theorem np_X0_neverSenders : (parseMethodDescriptor yX0_neverSenders.desc).map (fun d => d.parameters.length) = some 1 := by decide +kernel
theorem hy_X0_neverSenders : yX0_neverSenders.cls ≠ "java/lang/invoke/MethodHandle" ∧ yX0_neverSenders.cls ≠ "java/lang/invoke/VarHandle" := ⟨by decide +kernel, by decide +kernel⟩
set_option maxRecDepth 20000 in
theorem eX0_neverSenders {cx : CX} {a0 : Nat} {i1 : Int32} {w : XW} {R9 : (Int32 × XW)} (h : fX0_neverSenders a0 i1 w = some R9) : Ct yX0_neverSenders cX0_neverSenders 6 (some .int) 4 106 cx [.ref a0, .int i1] w (some (.int R9.1)) R9.2 := by
  refine Ct_of (by decide +kernel) (Nat.le_of_ble_eq_true rfl) (fun K B hR => ?_)
  rw [fX0_neverSenders] at h
  show Wx K cx 6 w.length 0 [(0, .ref a0), (1, .int i1)] [] w
  rcases xite h with ⟨hc, h⟩ | ⟨hc, h⟩
  · skip
    refine x_aload_n (pc := 0) B 0 dX0_neverSenders_0 rfl rfl ?_
    refine x_iload_n (pc := 1) B 1 dX0_neverSenders_1 rfl rfl ?_
    obtain ⟨q1, hq, h⟩ := xbind h
    refine x_callV1 (st := []) (pc := 2) B dX0_neverSenders_2 (eX0_sendersOf hq) xt_261 xt_54 np_X0_sendersOf hy_X0_sendersOf (Nat.le_of_ble_eq_true rfl) (Nat.le_of_ble_eq_true rfl) (Nat.le_of_ble_eq_true rfl) xt_259 xt_260 xt_258 rfl (iX0_sendersOf hq) rfl ?_
    rcases xite h with ⟨hc, h⟩ | ⟨hc, h⟩
    · refine x_if_eq_t (tgt := 10) (pc := 5) B dX0_neverSenders_5 (by decide) hc ?_
      refine x_aload_n (pc := 10) B 0 dX0_neverSenders_10 rfl rfl ?_
      obtain ⟨q2, hq, h⟩ := xbind h
      refine x_callV1 (st := []) (pc := 11) B dX0_neverSenders_11 (eX0_typesThere hq) xt_305 xt_54 np_X0_typesThere hy_X0_typesThere (Nat.le_of_ble_eq_true rfl) (Nat.le_of_ble_eq_true rfl) (Nat.le_of_ble_eq_true rfl) xt_303 xt_304 xt_302 rfl (iX0_typesThere hq) rfl ?_
      refine x_istore_n (L1 := [(2, .int q2.1), (0, .ref a0), (1, .int i1)]) (pc := 14) B dX0_neverSenders_14 rfl (by decide) rfl ?_
      refine x_aload_n (pc := 15) B 1 dX0_neverSenders_15 rfl rfl ?_
      refine x_iload_n (pc := 16) B 2 dX0_neverSenders_16 rfl rfl ?_
      refine x_iload_n (pc := 17) B 0 dX0_neverSenders_17 rfl rfl ?_
      obtain ⟨q3, hq, h⟩ := xbind h
      refine x_callV1 (st := []) (pc := 18) B dX0_neverSenders_18 (eX0_possibleActions hq) xt_313 xt_54 np_X0_possibleActions hy_X0_possibleActions (Nat.le_of_ble_eq_true rfl) (Nat.le_of_ble_eq_true rfl) (Nat.le_of_ble_eq_true rfl) xt_311 xt_312 xt_310 rfl (iX0_possibleActions hq) rfl ?_
      refine x_istore_n (L1 := [(3, .int q3.1), (2, .int q2.1), (0, .ref a0), (1, .int i1)]) (pc := 21) B dX0_neverSenders_21 rfl (by decide) rfl ?_
      refine x_iconst (pc := 22) B dX0_neverSenders_22 xk_iconst_0 ?_
      refine x_istore (L1 := [(4, .int (0 : Int32)), (3, .int q3.1), (2, .int q2.1), (0, .ref a0), (1, .int i1)]) (pc := 23) B dX0_neverSenders_23 (by decide) rfl ?_
      refine x_iconst (pc := 25) B dX0_neverSenders_25 xk_iconst_0 ?_
      refine x_istore (L1 := [(5, .int (0 : Int32)), (4, .int (0 : Int32)), (3, .int q3.1), (2, .int q2.1), (0, .ref a0), (1, .int i1)]) (pc := 26) B dX0_neverSenders_26 (by decide) rfl ?_
      refine x_sub (L1 := [(0, .ref a0), (1, .int i1), (2, .int q2.1), (3, .int q3.1), (4, .int (0 : Int32)), (5, .int (0 : Int32))]) [4, 5, 3, 2, 1, 0] rfl ?_
      exact pX0_neverSenders_28 B hR 1000 a0 i1 q2.1 q3.1 (0 : Int32) (0 : Int32) q3.2 h
    · refine x_if_eq_f (pc := 5) B 10 dX0_neverSenders_5 (by decide) hc ?_
      refine x_iconst (pc := 8) B dX0_neverSenders_8 xk_iconst_0 ?_
      exact x_iret (pc := 9) B hR dX0_neverSenders_9 (xzI _) h
  · exact absurd h (by simp)
def fX0_leastByAny_7 : Nat → Nat → Int32 → Int32 → Int32 → Int32 → Int32 → XW → Option (Int32 × XW)
  | 0, _, _, _, _, _, _, _ => none
  | g + 1, a0, i1, i2, i3, i4, i5, w =>
    if (3 : Int32) ≤ i5 then
      some (i4, w)
    else
    (fX3_has i3 i5 w).bind fun q1 =>
    if q1.1 = (0 : Int32) then
      fX0_leastByAny_7 g a0 i1 i2 i3 i4 (i5 + (1 : Int32)) q1.2
    else
    (fX0_payPlace (0 : Int32) i1 i2 i5 q1.2).bind fun q2 =>
    (fX0_cell a0 q2.1 q2.2).bind fun q3 =>
    fX0_leastByAny_7 g a0 i1 i2 i3 (if q3.1 < i4 then q3.1 else i4) (i5 + (1 : Int32)) q3.2
set_option maxRecDepth 20000 in
theorem pX0_leastByAny_7 {K : KX} {cx : CX} {nn : Nat} {R9 : Int32 × XW} (B : XB K cx RX0 cX0_leastByAny 6 nn 1 23) (hR : XR K cx nn (some .int) (some (.int R9.1)) R9.2) : ∀ (g : Nat) (a0 : Nat) (i1 : Int32) (i2 : Int32) (i3 : Int32) (i4 : Int32) (i5 : Int32) (w : XW), fX0_leastByAny_7 g a0 i1 i2 i3 i4 i5 w = some R9 → Wx K cx 6 nn 7 [(0, .ref a0), (1, .int i1), (2, .int i2), (3, .int i3), (4, .int i4), (5, .int i5)] [] w := by
  intro g
  induction g with
  | zero =>
    intro a0 i1 i2 i3 i4 i5 w h
    exact absurd (show (none : Option (Int32 × XW)) = some R9 from h) (by simp)
  | succ g ih =>
    intro a0 i1 i2 i3 i4 i5 w h
    rw [fX0_leastByAny_7] at h
    refine x_iload (pc := 7) B 5 dX0_leastByAny_7 rfl ?_
    refine x_iconst (pc := 9) B dX0_leastByAny_9 xk_iconst_3 ?_
    rcases xite h with ⟨hc, h⟩ | ⟨hc, h⟩
    · refine x_icmp_ge_t (tgt := 47) (pc := 10) B dX0_leastByAny_10 (by decide) hc ?_
      refine x_iload (pc := 47) B 4 dX0_leastByAny_47 rfl ?_
      exact x_iret (pc := 49) B hR dX0_leastByAny_49 (xzI _) h
    · refine x_icmp_ge_f (pc := 10) B 47 dX0_leastByAny_10 (by decide) hc ?_
      refine x_iload_n (pc := 13) B 3 dX0_leastByAny_13 rfl rfl ?_
      refine x_iload (pc := 14) B 5 dX0_leastByAny_14 rfl ?_
      obtain ⟨q1, hq, h⟩ := xbind h
      refine x_callSN1 (st := []) (pc := 16) B dX0_leastByAny_16 (eX3_has hq) xt_265 xt_53 np_X3_has hy_X3_has (Nat.le_of_ble_eq_true rfl) (Nat.le_of_ble_eq_true rfl) (Nat.le_of_ble_eq_true rfl) xt_264 (List.mem_of_getElem? (i := 1) rfl) rfl ?_
      rcases xite h with ⟨hc, h⟩ | ⟨hc, h⟩
      · refine x_if_eq_t (tgt := 41) (pc := 19) B dX0_leastByAny_19 (by decide) hc ?_
        refine x_iinc (L1 := [(5, .int (i5 + (1 : Int32))), (0, .ref a0), (1, .int i1), (2, .int i2), (3, .int i3), (4, .int i4)]) (pc := 41) B 5 dX0_leastByAny_41 rfl (congrArg _ xk_iconst_1) (by decide) rfl ?_
        refine x_goto (tgt := 7) (pc := 44) B dX0_leastByAny_44 (by decide) ?_
        refine x_sub (L1 := [(0, .ref a0), (1, .int i1), (2, .int i2), (3, .int i3), (4, .int i4), (5, .int (i5 + (1 : Int32)))]) [1, 2, 3, 4, 5, 0] rfl ?_
        exact ih a0 i1 i2 i3 i4 (i5 + (1 : Int32)) q1.2 h
      · refine x_if_eq_f (pc := 19) B 41 dX0_leastByAny_19 (by decide) hc ?_
        refine x_iload (pc := 22) B 4 dX0_leastByAny_22 rfl ?_
        refine x_aload_n (pc := 24) B 0 dX0_leastByAny_24 rfl rfl ?_
        refine x_iconst (pc := 25) B dX0_leastByAny_25 xk_iconst_0 ?_
        refine x_iload_n (pc := 26) B 1 dX0_leastByAny_26 rfl rfl ?_
        refine x_iload_n (pc := 27) B 2 dX0_leastByAny_27 rfl rfl ?_
        refine x_iload (pc := 28) B 5 dX0_leastByAny_28 rfl ?_
        obtain ⟨q2, hq, h⟩ := xbind h
        refine x_callS1 (st := [.ref a0, .int i4]) (pc := 30) B dX0_leastByAny_30 (eX0_payPlace hq) xt_186 xt_54 np_X0_payPlace hy_X0_payPlace (Nat.le_of_ble_eq_true rfl) (Nat.le_of_ble_eq_true rfl) (Nat.le_of_ble_eq_true rfl) xt_185 xt_274 rfl ?_
        obtain ⟨q3, hq, h⟩ := xbind h
        refine x_callV1 (st := [.int i4]) (pc := 33) B dX0_leastByAny_33 (eX0_cell hq) xt_153 xt_54 np_X0_cell hy_X0_cell (Nat.le_of_ble_eq_true rfl) (Nat.le_of_ble_eq_true rfl) (Nat.le_of_ble_eq_true rfl) xt_151 xt_152 xt_150 rfl (iX0_cell hq) rfl ?_
        refine x_mmin (pc := 36) B dX0_leastByAny_36 xt_325 (Nat.le_of_ble_eq_true rfl) (Nat.le_of_ble_eq_true rfl) ?_
        refine x_istore (L1 := [(4, .int (if q3.1 < i4 then q3.1 else i4)), (0, .ref a0), (1, .int i1), (2, .int i2), (3, .int i3), (5, .int i5)]) (pc := 39) B dX0_leastByAny_39 (by decide) rfl ?_
        refine x_iinc (L1 := [(5, .int (i5 + (1 : Int32))), (4, .int (if q3.1 < i4 then q3.1 else i4)), (0, .ref a0), (1, .int i1), (2, .int i2), (3, .int i3)]) (pc := 41) B 5 dX0_leastByAny_41 rfl (congrArg _ xk_iconst_1) (by decide) rfl ?_
        refine x_goto (tgt := 7) (pc := 44) B dX0_leastByAny_44 (by decide) ?_
        refine x_sub (L1 := [(0, .ref a0), (1, .int i1), (2, .int i2), (3, .int i3), (4, .int (if q3.1 < i4 then q3.1 else i4)), (5, .int (i5 + (1 : Int32)))]) [2, 3, 4, 5, 1, 0] rfl ?_
        exact ih a0 i1 i2 i3 (if q3.1 < i4 then q3.1 else i4) (i5 + (1 : Int32)) q3.2 h
def fX0_leastByAny (a0 : Nat) (i1 : Int32) (i2 : Int32) (i3 : Int32) (w : XW) : Option (Int32 × XW) := if xis w a0 0 = true then
  fX0_leastByAny_7 1000 a0 i1 i2 i3 (9 : Int32) (0 : Int32) w
  else none
theorem iX0_leastByAny {a0 : Nat} {i1 : Int32} {i2 : Int32} {i3 : Int32} {w : XW} {R9 : (Int32 × XW)} (h : fX0_leastByAny a0 i1 i2 i3 w = some R9) : xis w a0 0 = true := by
  unfold fX0_leastByAny at h
  rcases xite h with ⟨hc, h⟩ | ⟨hc, h⟩
  · exact hc
  · exact absurd h (by simp)
theorem np_X0_leastByAny : (parseMethodDescriptor yX0_leastByAny.desc).map (fun d => d.parameters.length) = some 3 := by decide +kernel
theorem hy_X0_leastByAny : yX0_leastByAny.cls ≠ "java/lang/invoke/MethodHandle" ∧ yX0_leastByAny.cls ≠ "java/lang/invoke/VarHandle" := ⟨by decide +kernel, by decide +kernel⟩
set_option maxRecDepth 20000 in
theorem eX0_leastByAny {cx : CX} {a0 : Nat} {i1 : Int32} {i2 : Int32} {i3 : Int32} {w : XW} {R9 : (Int32 × XW)} (h : fX0_leastByAny a0 i1 i2 i3 w = some R9) : Ct yX0_leastByAny cX0_leastByAny 6 (some .int) 1 23 cx [.ref a0, .int i1, .int i2, .int i3] w (some (.int R9.1)) R9.2 := by
  refine Ct_of (by decide +kernel) (Nat.le_of_ble_eq_true rfl) (fun K B hR => ?_)
  rw [fX0_leastByAny] at h
  show Wx K cx 6 w.length 0 [(0, .ref a0), (1, .int i1), (2, .int i2), (3, .int i3)] [] w
  rcases xite h with ⟨hc, h⟩ | ⟨hc, h⟩
  · skip
    refine x_bipush (pc := 0) B dX0_leastByAny_0 xk_bipush_9 ?_
    refine x_istore (L1 := [(4, .int (9 : Int32)), (0, .ref a0), (1, .int i1), (2, .int i2), (3, .int i3)]) (pc := 2) B dX0_leastByAny_2 (by decide) rfl ?_
    refine x_iconst (pc := 4) B dX0_leastByAny_4 xk_iconst_0 ?_
    refine x_istore (L1 := [(5, .int (0 : Int32)), (4, .int (9 : Int32)), (0, .ref a0), (1, .int i1), (2, .int i2), (3, .int i3)]) (pc := 5) B dX0_leastByAny_5 (by decide) rfl ?_
    refine x_sub (L1 := [(0, .ref a0), (1, .int i1), (2, .int i2), (3, .int i3), (4, .int (9 : Int32)), (5, .int (0 : Int32))]) [2, 3, 4, 5, 1, 0] rfl ?_
    exact pX0_leastByAny_7 B hR 1000 a0 i1 i2 i3 (9 : Int32) (0 : Int32) w h
  · exact absurd h (by simp)
def fX0_isUntempted_41 (k81 : Nat → Int32 → XW → Option (Int32 × XW)) (k73 : XW → Option (Int32 × XW)) : Nat → Nat → Int32 → Int32 → Int32 → Int32 → XW → Option (Int32 × XW)
  | 0, _, _, _, _, _, _ => none
  | g + 1, a0, i1, i2, i3, i4, w =>
    if (3 : Int32) ≤ i4 then
      k81 a0 i1 w
    else
    (fX3_has i2 i4 w).bind fun q5 =>
    if q5.1 = (0 : Int32) then
      fX0_isUntempted_41 k81 k73 g a0 i1 i2 i3 (i4 + (1 : Int32)) q5.2
    else
    (fX0_ownPayoff a0 i4 q5.2).bind fun q6 =>
    (fX0_leastByAny a0 i4 i1 i3 q6.2).bind fun q7 =>
    if q7.1 ≤ q6.1 then
      fX0_isUntempted_41 k81 k73 g a0 i1 i2 i3 (i4 + (1 : Int32)) q7.2
    else
    k73 q7.2
set_option maxRecDepth 20000 in
theorem pX0_isUntempted_41 {K : KX} {cx : CX} {nn : Nat} {R9 : Int32 × XW} (B : XB K cx RX0 cX0_isUntempted 5 nn 5 131) (hR : XR K cx nn (some .boolean) (some (.int R9.1)) R9.2) {k81 : Nat → Int32 → XW → Option (Int32 × XW)} (hk81 : ∀ (a0 : Nat) (i1 : Int32) (w : XW), k81 a0 i1 w = some R9 → Wx K cx 5 nn 81 [(0, .ref a0), (1, .int i1)] [] w) {k73 : XW → Option (Int32 × XW)} (hk73 : ∀ (w : XW), k73 w = some R9 → Wx K cx 5 nn 73 [] [] w) : ∀ (g : Nat) (a0 : Nat) (i1 : Int32) (i2 : Int32) (i3 : Int32) (i4 : Int32) (w : XW), fX0_isUntempted_41 k81 k73 g a0 i1 i2 i3 i4 w = some R9 → Wx K cx 5 nn 41 [(0, .ref a0), (1, .int i1), (2, .int i2), (3, .int i3), (4, .int i4)] [] w := by
  intro g
  induction g with
  | zero =>
    intro a0 i1 i2 i3 i4 w h
    exact absurd (show (none : Option (Int32 × XW)) = some R9 from h) (by simp)
  | succ g ih =>
    intro a0 i1 i2 i3 i4 w h
    rw [fX0_isUntempted_41] at h
    refine x_iload (pc := 41) B 4 dX0_isUntempted_41 rfl ?_
    refine x_iconst (pc := 43) B dX0_isUntempted_43 xk_iconst_3 ?_
    rcases xite h with ⟨hc, h⟩ | ⟨hc, h⟩
    · refine x_icmp_ge_t (tgt := 81) (pc := 44) B dX0_isUntempted_44 (by decide) hc ?_
      refine x_sub (L1 := [(0, .ref a0), (1, .int i1)]) [0, 1] rfl ?_
      exact hk81 a0 i1 w h
    · refine x_icmp_ge_f (pc := 44) B 81 dX0_isUntempted_44 (by decide) hc ?_
      refine x_iload_n (pc := 47) B 2 dX0_isUntempted_47 rfl rfl ?_
      refine x_iload (pc := 48) B 4 dX0_isUntempted_48 rfl ?_
      obtain ⟨q5, hq, h⟩ := xbind h
      refine x_callSN1 (st := []) (pc := 50) B dX0_isUntempted_50 (eX3_has hq) xt_265 xt_53 np_X3_has hy_X3_has (Nat.le_of_ble_eq_true rfl) (Nat.le_of_ble_eq_true rfl) (Nat.le_of_ble_eq_true rfl) xt_264 (List.mem_of_getElem? (i := 1) rfl) rfl ?_
      rcases xite h with ⟨hc, h⟩ | ⟨hc, h⟩
      · refine x_if_eq_t (tgt := 75) (pc := 53) B dX0_isUntempted_53 (by decide) hc ?_
        refine x_iinc (L1 := [(4, .int (i4 + (1 : Int32))), (0, .ref a0), (1, .int i1), (2, .int i2), (3, .int i3)]) (pc := 75) B 4 dX0_isUntempted_75 rfl (congrArg _ xk_iconst_1) (by decide) rfl ?_
        refine x_goto (tgt := 41) (pc := 78) B dX0_isUntempted_78 (by decide) ?_
        refine x_sub (L1 := [(0, .ref a0), (1, .int i1), (2, .int i2), (3, .int i3), (4, .int (i4 + (1 : Int32)))]) [1, 2, 3, 4, 0] rfl ?_
        exact ih a0 i1 i2 i3 (i4 + (1 : Int32)) q5.2 h
      · refine x_if_eq_f (pc := 53) B 75 dX0_isUntempted_53 (by decide) hc ?_
        refine x_aload_n (pc := 56) B 0 dX0_isUntempted_56 rfl rfl ?_
        refine x_iload (pc := 57) B 4 dX0_isUntempted_57 rfl ?_
        obtain ⟨q6, hq, h⟩ := xbind h
        refine x_callV1 (st := []) (pc := 59) B dX0_isUntempted_59 (eX0_ownPayoff hq) xt_292 xt_54 np_X0_ownPayoff hy_X0_ownPayoff (Nat.le_of_ble_eq_true rfl) (Nat.le_of_ble_eq_true rfl) (Nat.le_of_ble_eq_true rfl) xt_290 xt_291 xt_289 rfl (iX0_ownPayoff hq) rfl ?_
        refine x_aload_n (pc := 62) B 0 dX0_isUntempted_62 rfl rfl ?_
        refine x_iload (pc := 63) B 4 dX0_isUntempted_63 rfl ?_
        refine x_iload_n (pc := 65) B 1 dX0_isUntempted_65 rfl rfl ?_
        refine x_iload_n (pc := 66) B 3 dX0_isUntempted_66 rfl rfl ?_
        obtain ⟨q7, hq, h⟩ := xbind h
        refine x_callV1 (st := [.int q6.1]) (pc := 67) B dX0_isUntempted_67 (eX0_leastByAny hq) xt_324 xt_54 np_X0_leastByAny hy_X0_leastByAny (Nat.le_of_ble_eq_true rfl) (Nat.le_of_ble_eq_true rfl) (Nat.le_of_ble_eq_true rfl) xt_323 xt_9 xt_321 rfl (iX0_leastByAny hq) rfl ?_
        rcases xite h with ⟨hc, h⟩ | ⟨hc, h⟩
        · refine x_icmp_ge_t (tgt := 75) (pc := 70) B dX0_isUntempted_70 (by decide) hc ?_
          refine x_iinc (L1 := [(4, .int (i4 + (1 : Int32))), (0, .ref a0), (1, .int i1), (2, .int i2), (3, .int i3)]) (pc := 75) B 4 dX0_isUntempted_75 rfl (congrArg _ xk_iconst_1) (by decide) rfl ?_
          refine x_goto (tgt := 41) (pc := 78) B dX0_isUntempted_78 (by decide) ?_
          refine x_sub (L1 := [(0, .ref a0), (1, .int i1), (2, .int i2), (3, .int i3), (4, .int (i4 + (1 : Int32)))]) [1, 2, 3, 4, 0] rfl ?_
          exact ih a0 i1 i2 i3 (i4 + (1 : Int32)) q7.2 h
        · refine x_icmp_ge_f (pc := 70) B 75 dX0_isUntempted_70 (by decide) hc ?_
          refine x_sub (L1 := []) [] rfl ?_
          exact hk73 q7.2 h
def fX0_isUntempted_2 : Nat → Nat → Int32 → XW → Option (Int32 × XW)
  | 0, _, _, _ => none
  | g + 1, a0, i1, w =>
    if (3 : Int32) ≤ i1 then
      some ((1 : Int32), w)
    else
    (fX0_sendersOf a0 i1 w).bind fun q1 =>
    if q1.1 = (0 : Int32) then
      (fX0_typesThere a0 q1.2).bind fun q2 =>
      (fX0_neverSenders a0 i1 q2.2).bind fun q3 =>
      (fX0_possibleActions a0 i1 (q2.1 &&& (q3.1 ^^^ (-1 : Int32))) q3.2).bind fun q4 =>
      fX0_isUntempted_41 (fun a0_8 i1_8 w_8 =>
        fX0_isUntempted_2 g a0_8 (i1_8 + (1 : Int32)) w_8) (fun (w_9 : XW) =>
        some ((0 : Int32), w_9)) 1000 a0 i1 (q2.1 &&& (q3.1 ^^^ (-1 : Int32))) q4.1 (0 : Int32) q4.2
    else
    fX0_isUntempted_2 g a0 (i1 + (1 : Int32)) q1.2
set_option maxRecDepth 20000 in
theorem pX0_isUntempted_2 {K : KX} {cx : CX} {nn : Nat} {R9 : Int32 × XW} (B : XB K cx RX0 cX0_isUntempted 5 nn 5 131) (hR : XR K cx nn (some .boolean) (some (.int R9.1)) R9.2) : ∀ (g : Nat) (a0 : Nat) (i1 : Int32) (w : XW), fX0_isUntempted_2 g a0 i1 w = some R9 → Wx K cx 5 nn 2 [(0, .ref a0), (1, .int i1)] [] w := by
  intro g
  induction g with
  | zero =>
    intro a0 i1 w h
    exact absurd (show (none : Option (Int32 × XW)) = some R9 from h) (by simp)
  | succ g ih =>
    intro a0 i1 w h
    rw [fX0_isUntempted_2] at h
    refine x_iload_n (pc := 2) B 1 dX0_isUntempted_2 rfl rfl ?_
    refine x_iconst (pc := 3) B dX0_isUntempted_3 xk_iconst_3 ?_
    rcases xite h with ⟨hc, h⟩ | ⟨hc, h⟩
    · refine x_icmp_ge_t (tgt := 87) (pc := 4) B dX0_isUntempted_4 (by decide) hc ?_
      refine x_iconst (pc := 87) B dX0_isUntempted_87 xk_iconst_1 ?_
      exact x_iret (pc := 88) B hR dX0_isUntempted_88 xz1 h
    · refine x_icmp_ge_f (pc := 4) B 87 dX0_isUntempted_4 (by decide) hc ?_
      refine x_aload_n (pc := 7) B 0 dX0_isUntempted_7 rfl rfl ?_
      refine x_iload_n (pc := 8) B 1 dX0_isUntempted_8 rfl rfl ?_
      obtain ⟨q1, hq, h⟩ := xbind h
      refine x_callV1 (st := []) (pc := 9) B dX0_isUntempted_9 (eX0_sendersOf hq) xt_261 xt_54 np_X0_sendersOf hy_X0_sendersOf (Nat.le_of_ble_eq_true rfl) (Nat.le_of_ble_eq_true rfl) (Nat.le_of_ble_eq_true rfl) xt_259 xt_260 xt_258 rfl (iX0_sendersOf hq) rfl ?_
      rcases xite h with ⟨hc, h⟩ | ⟨hc, h⟩
      · refine x_if_eq_t (tgt := 18) (pc := 12) B dX0_isUntempted_12 (by decide) hc ?_
        refine x_aload_n (pc := 18) B 0 dX0_isUntempted_18 rfl rfl ?_
        obtain ⟨q2, hq, h⟩ := xbind h
        refine x_callV1 (st := []) (pc := 19) B dX0_isUntempted_19 (eX0_typesThere hq) xt_305 xt_54 np_X0_typesThere hy_X0_typesThere (Nat.le_of_ble_eq_true rfl) (Nat.le_of_ble_eq_true rfl) (Nat.le_of_ble_eq_true rfl) xt_303 xt_304 xt_302 rfl (iX0_typesThere hq) rfl ?_
        refine x_aload_n (pc := 22) B 0 dX0_isUntempted_22 rfl rfl ?_
        refine x_iload_n (pc := 23) B 1 dX0_isUntempted_23 rfl rfl ?_
        obtain ⟨q3, hq, h⟩ := xbind h
        refine x_callV1 (st := [.int q2.1]) (pc := 24) B dX0_isUntempted_24 (eX0_neverSenders hq) xt_309 xt_54 np_X0_neverSenders hy_X0_neverSenders (Nat.le_of_ble_eq_true rfl) (Nat.le_of_ble_eq_true rfl) (Nat.le_of_ble_eq_true rfl) xt_307 xt_308 xt_306 rfl (iX0_neverSenders hq) rfl ?_
        refine x_iconst (pc := 27) B dX0_isUntempted_27 xk_iconst_m1 ?_
        refine x_ixor (pc := 28) B dX0_isUntempted_28 ?_
        refine x_iand (pc := 29) B dX0_isUntempted_29 ?_
        refine x_istore_n (L1 := [(2, .int (q2.1 &&& (q3.1 ^^^ (-1 : Int32)))), (0, .ref a0), (1, .int i1)]) (pc := 30) B dX0_isUntempted_30 rfl (by decide) rfl ?_
        refine x_aload_n (pc := 31) B 1 dX0_isUntempted_31 rfl rfl ?_
        refine x_iload_n (pc := 32) B 2 dX0_isUntempted_32 rfl rfl ?_
        refine x_iload_n (pc := 33) B 0 dX0_isUntempted_33 rfl rfl ?_
        obtain ⟨q4, hq, h⟩ := xbind h
        refine x_callV1 (st := []) (pc := 34) B dX0_isUntempted_34 (eX0_possibleActions hq) xt_313 xt_54 np_X0_possibleActions hy_X0_possibleActions (Nat.le_of_ble_eq_true rfl) (Nat.le_of_ble_eq_true rfl) (Nat.le_of_ble_eq_true rfl) xt_311 xt_312 xt_310 rfl (iX0_possibleActions hq) rfl ?_
        refine x_istore_n (L1 := [(3, .int q4.1), (2, .int (q2.1 &&& (q3.1 ^^^ (-1 : Int32)))), (0, .ref a0), (1, .int i1)]) (pc := 37) B dX0_isUntempted_37 rfl (by decide) rfl ?_
        refine x_iconst (pc := 38) B dX0_isUntempted_38 xk_iconst_0 ?_
        refine x_istore (L1 := [(4, .int (0 : Int32)), (3, .int q4.1), (2, .int (q2.1 &&& (q3.1 ^^^ (-1 : Int32)))), (0, .ref a0), (1, .int i1)]) (pc := 39) B dX0_isUntempted_39 (by decide) rfl ?_
        refine x_sub (L1 := [(0, .ref a0), (1, .int i1), (2, .int (q2.1 &&& (q3.1 ^^^ (-1 : Int32)))), (3, .int q4.1), (4, .int (0 : Int32))]) [3, 4, 2, 1, 0] rfl ?_
        refine pX0_isUntempted_41 B hR ?_ ?_ 1000 a0 i1 (q2.1 &&& (q3.1 ^^^ (-1 : Int32))) q4.1 (0 : Int32) q4.2 h
        · intro a0_8 i1_8 w_8 h
          refine x_iinc (L1 := [(1, .int (i1_8 + (1 : Int32))), (0, .ref a0_8)]) (pc := 81) B 1 dX0_isUntempted_81 rfl (congrArg _ xk_iconst_1) (by decide) rfl ?_
          refine x_goto (tgt := 2) (pc := 84) B dX0_isUntempted_84 (by decide) ?_
          refine x_sub (L1 := [(0, .ref a0_8), (1, .int (i1_8 + (1 : Int32)))]) [1, 0] rfl ?_
          exact ih a0_8 (i1_8 + (1 : Int32)) w_8 h
        · intro w_9 h
          refine x_iconst (pc := 73) B dX0_isUntempted_73 xk_iconst_0 ?_
          exact x_iret (pc := 74) B hR dX0_isUntempted_74 xz0 h
      · refine x_if_eq_f (pc := 12) B 18 dX0_isUntempted_12 (by decide) hc ?_
        refine x_goto (tgt := 81) (pc := 15) B dX0_isUntempted_15 (by decide) ?_
        refine x_iinc (L1 := [(1, .int (i1 + (1 : Int32))), (0, .ref a0)]) (pc := 81) B 1 dX0_isUntempted_81 rfl (congrArg _ xk_iconst_1) (by decide) rfl ?_
        refine x_goto (tgt := 2) (pc := 84) B dX0_isUntempted_84 (by decide) ?_
        refine x_sub (L1 := [(0, .ref a0), (1, .int (i1 + (1 : Int32)))]) [1, 0] rfl ?_
        exact ih a0 (i1 + (1 : Int32)) q1.2 h
def fX0_isUntempted (a0 : Nat) (w : XW) : Option (Int32 × XW) := if xis w a0 0 = true then
  fX0_isUntempted_2 1000 a0 (0 : Int32) w
  else none
theorem iX0_isUntempted {a0 : Nat} {w : XW} {R9 : (Int32 × XW)} (h : fX0_isUntempted a0 w = some R9) : xis w a0 0 = true := by
  unfold fX0_isUntempted at h
  rcases xite h with ⟨hc, h⟩ | ⟨hc, h⟩
  · exact hc
  · exact absurd h (by simp)
theorem np_X0_isUntempted : (parseMethodDescriptor yX0_isUntempted.desc).map (fun d => d.parameters.length) = some 0 := by decide +kernel
theorem hy_X0_isUntempted : yX0_isUntempted.cls ≠ "java/lang/invoke/MethodHandle" ∧ yX0_isUntempted.cls ≠ "java/lang/invoke/VarHandle" := ⟨by decide +kernel, by decide +kernel⟩
set_option maxRecDepth 20000 in
theorem eX0_isUntempted {cx : CX} {a0 : Nat} {w : XW} {R9 : (Int32 × XW)} (h : fX0_isUntempted a0 w = some R9) : Ct yX0_isUntempted cX0_isUntempted 5 (some .boolean) 5 131 cx [.ref a0] w (some (.int R9.1)) R9.2 := by
  refine Ct_of (by decide +kernel) (Nat.le_of_ble_eq_true rfl) (fun K B hR => ?_)
  rw [fX0_isUntempted] at h
  show Wx K cx 5 w.length 0 [(0, .ref a0)] [] w
  rcases xite h with ⟨hc, h⟩ | ⟨hc, h⟩
  · skip
    refine x_iconst (pc := 0) B dX0_isUntempted_0 xk_iconst_0 ?_
    refine x_istore_n (L1 := [(1, .int (0 : Int32)), (0, .ref a0)]) (pc := 1) B dX0_isUntempted_1 rfl (by decide) rfl ?_
    refine x_sub (L1 := [(0, .ref a0), (1, .int (0 : Int32))]) [1, 0] rfl ?_
    exact pX0_isUntempted_2 B hR 1000 a0 (0 : Int32) w h
  · exact absurd h (by simp)
def fX0_messagesSent_4 : Nat → Nat → Int32 → Int32 → XW → Option (Int32 × XW)
  | 0, _, _, _, _ => none
  | g + 1, a0, i1, i2, w =>
    if (3 : Int32) ≤ i2 then
      some (i1, w)
    else
    (fX0_sendersOf a0 i2 w).bind fun q1 =>
    if q1.1 = (0 : Int32) then
      fX0_messagesSent_4 g a0 i1 (i2 + (1 : Int32)) q1.2
    else
    fX0_messagesSent_4 g a0 (i1 ||| ((1 : Int32) <<< (i2 &&& 31))) (i2 + (1 : Int32)) q1.2
set_option maxRecDepth 20000 in
theorem pX0_messagesSent_4 {K : KX} {cx : CX} {nn : Nat} {R9 : Int32 × XW} (B : XB K cx RX0 cX0_messagesSent 3 nn 2 44) (hR : XR K cx nn (some .int) (some (.int R9.1)) R9.2) : ∀ (g : Nat) (a0 : Nat) (i1 : Int32) (i2 : Int32) (w : XW), fX0_messagesSent_4 g a0 i1 i2 w = some R9 → Wx K cx 3 nn 4 [(0, .ref a0), (1, .int i1), (2, .int i2)] [] w := by
  intro g
  induction g with
  | zero =>
    intro a0 i1 i2 w h
    exact absurd (show (none : Option (Int32 × XW)) = some R9 from h) (by simp)
  | succ g ih =>
    intro a0 i1 i2 w h
    rw [fX0_messagesSent_4] at h
    refine x_iload_n (pc := 4) B 2 dX0_messagesSent_4 rfl rfl ?_
    refine x_iconst (pc := 5) B dX0_messagesSent_5 xk_iconst_3 ?_
    rcases xite h with ⟨hc, h⟩ | ⟨hc, h⟩
    · refine x_icmp_ge_t (tgt := 29) (pc := 6) B dX0_messagesSent_6 (by decide) hc ?_
      refine x_iload_n (pc := 29) B 1 dX0_messagesSent_29 rfl rfl ?_
      exact x_iret (pc := 30) B hR dX0_messagesSent_30 (xzI _) h
    · refine x_icmp_ge_f (pc := 6) B 29 dX0_messagesSent_6 (by decide) hc ?_
      refine x_aload_n (pc := 9) B 0 dX0_messagesSent_9 rfl rfl ?_
      refine x_iload_n (pc := 10) B 2 dX0_messagesSent_10 rfl rfl ?_
      obtain ⟨q1, hq, h⟩ := xbind h
      refine x_callV1 (st := []) (pc := 11) B dX0_messagesSent_11 (eX0_sendersOf hq) xt_261 xt_54 np_X0_sendersOf hy_X0_sendersOf (Nat.le_of_ble_eq_true rfl) (Nat.le_of_ble_eq_true rfl) (Nat.le_of_ble_eq_true rfl) xt_259 xt_260 xt_258 rfl (iX0_sendersOf hq) rfl ?_
      rcases xite h with ⟨hc, h⟩ | ⟨hc, h⟩
      · refine x_if_eq_t (tgt := 23) (pc := 14) B dX0_messagesSent_14 (by decide) hc ?_
        refine x_iinc (L1 := [(2, .int (i2 + (1 : Int32))), (0, .ref a0), (1, .int i1)]) (pc := 23) B 2 dX0_messagesSent_23 rfl (congrArg _ xk_iconst_1) (by decide) rfl ?_
        refine x_goto (tgt := 4) (pc := 26) B dX0_messagesSent_26 (by decide) ?_
        refine x_sub (L1 := [(0, .ref a0), (1, .int i1), (2, .int (i2 + (1 : Int32)))]) [1, 2, 0] rfl ?_
        exact ih a0 i1 (i2 + (1 : Int32)) q1.2 h
      · refine x_if_eq_f (pc := 14) B 23 dX0_messagesSent_14 (by decide) hc ?_
        refine x_iload_n (pc := 17) B 1 dX0_messagesSent_17 rfl rfl ?_
        refine x_iconst (pc := 18) B dX0_messagesSent_18 xk_iconst_1 ?_
        refine x_iload_n (pc := 19) B 2 dX0_messagesSent_19 rfl rfl ?_
        refine x_ishl (pc := 20) B dX0_messagesSent_20 ?_
        refine x_ior (pc := 21) B dX0_messagesSent_21 ?_
        refine x_istore_n (L1 := [(1, .int (i1 ||| ((1 : Int32) <<< (i2 &&& 31)))), (0, .ref a0), (2, .int i2)]) (pc := 22) B dX0_messagesSent_22 rfl (by decide) rfl ?_
        refine x_iinc (L1 := [(2, .int (i2 + (1 : Int32))), (1, .int (i1 ||| ((1 : Int32) <<< (i2 &&& 31)))), (0, .ref a0)]) (pc := 23) B 2 dX0_messagesSent_23 rfl (congrArg _ xk_iconst_1) (by decide) rfl ?_
        refine x_goto (tgt := 4) (pc := 26) B dX0_messagesSent_26 (by decide) ?_
        refine x_sub (L1 := [(0, .ref a0), (1, .int (i1 ||| ((1 : Int32) <<< (i2 &&& 31)))), (2, .int (i2 + (1 : Int32)))]) [2, 1, 0] rfl ?_
        exact ih a0 (i1 ||| ((1 : Int32) <<< (i2 &&& 31))) (i2 + (1 : Int32)) q1.2 h
def fX0_messagesSent (a0 : Nat) (w : XW) : Option (Int32 × XW) := if xis w a0 0 = true then
  fX0_messagesSent_4 1000 a0 (0 : Int32) (0 : Int32) w
  else none
theorem iX0_messagesSent {a0 : Nat} {w : XW} {R9 : (Int32 × XW)} (h : fX0_messagesSent a0 w = some R9) : xis w a0 0 = true := by
  unfold fX0_messagesSent at h
  rcases xite h with ⟨hc, h⟩ | ⟨hc, h⟩
  · exact hc
  · exact absurd h (by simp)
theorem np_X0_messagesSent : (parseMethodDescriptor yX0_messagesSent.desc).map (fun d => d.parameters.length) = some 0 := by decide +kernel
theorem hy_X0_messagesSent : yX0_messagesSent.cls ≠ "java/lang/invoke/MethodHandle" ∧ yX0_messagesSent.cls ≠ "java/lang/invoke/VarHandle" := ⟨by decide +kernel, by decide +kernel⟩
set_option maxRecDepth 20000 in
theorem eX0_messagesSent {cx : CX} {a0 : Nat} {w : XW} {R9 : (Int32 × XW)} (h : fX0_messagesSent a0 w = some R9) : Ct yX0_messagesSent cX0_messagesSent 3 (some .int) 2 44 cx [.ref a0] w (some (.int R9.1)) R9.2 := by
  refine Ct_of (by decide +kernel) (Nat.le_of_ble_eq_true rfl) (fun K B hR => ?_)
  rw [fX0_messagesSent] at h
  show Wx K cx 3 w.length 0 [(0, .ref a0)] [] w
  rcases xite h with ⟨hc, h⟩ | ⟨hc, h⟩
  · skip
    refine x_iconst (pc := 0) B dX0_messagesSent_0 xk_iconst_0 ?_
    refine x_istore_n (L1 := [(1, .int (0 : Int32)), (0, .ref a0)]) (pc := 1) B dX0_messagesSent_1 rfl (by decide) rfl ?_
    refine x_iconst (pc := 2) B dX0_messagesSent_2 xk_iconst_0 ?_
    refine x_istore_n (L1 := [(2, .int (0 : Int32)), (1, .int (0 : Int32)), (0, .ref a0)]) (pc := 3) B dX0_messagesSent_3 rfl (by decide) rfl ?_
    refine x_sub (L1 := [(0, .ref a0), (1, .int (0 : Int32)), (2, .int (0 : Int32))]) [2, 1, 0] rfl ?_
    exact pX0_messagesSent_4 B hR 1000 a0 (0 : Int32) (0 : Int32) w h
  · exact absurd h (by simp)
def fX0_kind (a0 : Nat) (w : XW) : Option (Int32 × XW) := if xis w a0 0 = true then
  (fX0_messagesSent a0 w).bind fun q1 =>
  (fJ6_bitCount_0f7a4 q1.1 q1.2).bind fun q2 =>
  if q2.1 = (1 : Int32) then
    some ((0 : Int32), q2.2)
  else
  (fX0_typesThere a0 q2.2).bind fun q3 =>
  (fJ6_bitCount_0f7a4 q3.1 q3.2).bind fun q4 =>
  if q2.1 = q4.1 then
    some ((1 : Int32), q4.2)
  else
  some ((2 : Int32), q4.2)
  else none
theorem iX0_kind {a0 : Nat} {w : XW} {R9 : (Int32 × XW)} (h : fX0_kind a0 w = some R9) : xis w a0 0 = true := by
  unfold fX0_kind at h
  rcases xite h with ⟨hc, h⟩ | ⟨hc, h⟩
  · exact hc
  · exact absurd h (by simp)
theorem np_X0_kind : (parseMethodDescriptor yX0_kind.desc).map (fun d => d.parameters.length) = some 0 := by decide +kernel
theorem hy_X0_kind : yX0_kind.cls ≠ "java/lang/invoke/MethodHandle" ∧ yX0_kind.cls ≠ "java/lang/invoke/VarHandle" := ⟨by decide +kernel, by decide +kernel⟩
set_option maxRecDepth 20000 in
theorem eX0_kind {cx : CX} {a0 : Nat} {w : XW} {R9 : (Int32 × XW)} (h : fX0_kind a0 w = some R9) : Ct yX0_kind cX0_kind 2 (some .int) 3 66 cx [.ref a0] w (some (.int R9.1)) R9.2 := by
  refine Ct_of (by decide +kernel) (Nat.le_of_ble_eq_true rfl) (fun K B hR => ?_)
  rw [fX0_kind] at h
  show Wx K cx 2 w.length 0 [(0, .ref a0)] [] w
  rcases xite h with ⟨hc, h⟩ | ⟨hc, h⟩
  · skip
    refine x_aload_n (pc := 0) B 0 dX0_kind_0 rfl rfl ?_
    obtain ⟨q1, hq, h⟩ := xbind h
    refine x_callV1 (st := []) (pc := 1) B dX0_kind_1 (eX0_messagesSent hq) xt_335 xt_54 np_X0_messagesSent hy_X0_messagesSent (Nat.le_of_ble_eq_true rfl) (Nat.le_of_ble_eq_true rfl) (Nat.le_of_ble_eq_true rfl) xt_333 xt_334 xt_332 rfl (iX0_messagesSent hq) rfl ?_
    obtain ⟨q2, hq, h⟩ := xbind h
    refine x_callS1 (st := []) (pc := 4) B dX0_kind_4 (eJ6_bitCount_0f7a4 hq) xt_338 xt_61 np_J6_bitCount_0f7a4 hy_J6_bitCount_0f7a4 (Nat.le_of_ble_eq_true rfl) (Nat.le_of_ble_eq_true rfl) (Nat.le_of_ble_eq_true rfl) xt_337 xt_336 rfl ?_
    refine x_istore_n (L1 := [(1, .int q2.1), (0, .ref a0)]) (pc := 7) B dX0_kind_7 rfl (by decide) rfl ?_
    refine x_iload_n (pc := 8) B 0 dX0_kind_8 rfl rfl ?_
    refine x_iconst (pc := 9) B dX0_kind_9 xk_iconst_1 ?_
    rcases xite h with ⟨hc, h⟩ | ⟨hc, h⟩
    · refine x_icmp_ne_f (pc := 10) B 15 dX0_kind_10 (by decide) hc ?_
      refine x_iconst (pc := 13) B dX0_kind_13 xk_iconst_0 ?_
      exact x_iret (pc := 14) B hR dX0_kind_14 (xzI _) h
    · refine x_icmp_ne_t (tgt := 15) (pc := 10) B dX0_kind_10 (by decide) hc ?_
      refine x_iload_n (pc := 15) B 0 dX0_kind_15 rfl rfl ?_
      refine x_aload_n (pc := 16) B 1 dX0_kind_16 rfl rfl ?_
      obtain ⟨q3, hq, h⟩ := xbind h
      refine x_callV1 (st := [.int q2.1]) (pc := 17) B dX0_kind_17 (eX0_typesThere hq) xt_305 xt_54 np_X0_typesThere hy_X0_typesThere (Nat.le_of_ble_eq_true rfl) (Nat.le_of_ble_eq_true rfl) (Nat.le_of_ble_eq_true rfl) xt_303 xt_304 xt_302 rfl (iX0_typesThere hq) rfl ?_
      obtain ⟨q4, hq, h⟩ := xbind h
      refine x_callS1 (st := [.int q2.1]) (pc := 20) B dX0_kind_20 (eJ6_bitCount_0f7a4 hq) xt_338 xt_61 np_J6_bitCount_0f7a4 hy_J6_bitCount_0f7a4 (Nat.le_of_ble_eq_true rfl) (Nat.le_of_ble_eq_true rfl) (Nat.le_of_ble_eq_true rfl) xt_337 xt_336 rfl ?_
      rcases xite h with ⟨hc, h⟩ | ⟨hc, h⟩
      · refine x_icmp_ne_f (pc := 23) B 30 dX0_kind_23 (by decide) hc ?_
        refine x_iconst (pc := 26) B dX0_kind_26 xk_iconst_1 ?_
        refine x_goto (tgt := 31) (pc := 27) B dX0_kind_27 (by decide) ?_
        exact x_iret (pc := 31) B hR dX0_kind_31 (xzI _) h
      · refine x_icmp_ne_t (tgt := 30) (pc := 23) B dX0_kind_23 (by decide) hc ?_
        refine x_iconst (pc := 30) B dX0_kind_30 xk_iconst_2 ?_
        exact x_iret (pc := 31) B hR dX0_kind_31 (xzI _) h
  · exact absurd h (by simp)
def fX0_beliefSum_4 : Nat → Nat → Int32 → Int32 → Int32 → XW → Option (Int32 × XW)
  | 0, _, _, _, _, _ => none
  | g + 1, a0, i1, i2, i3, w =>
    if (3 : Int32) ≤ i3 then
      some (i2, w)
    else
    (fX0_beliefWeight a0 i1 i3 w).bind fun q1 =>
    fX0_beliefSum_4 g a0 i1 (i2 + q1.1) (i3 + (1 : Int32)) q1.2
set_option maxRecDepth 20000 in
theorem pX0_beliefSum_4 {K : KX} {cx : CX} {nn : Nat} {R9 : Int32 × XW} (B : XB K cx RX0 cX0_beliefSum 4 nn 3 67) (hR : XR K cx nn (some .int) (some (.int R9.1)) R9.2) : ∀ (g : Nat) (a0 : Nat) (i1 : Int32) (i2 : Int32) (i3 : Int32) (w : XW), fX0_beliefSum_4 g a0 i1 i2 i3 w = some R9 → Wx K cx 4 nn 4 [(0, .ref a0), (1, .int i1), (2, .int i2), (3, .int i3)] [] w := by
  intro g
  induction g with
  | zero =>
    intro a0 i1 i2 i3 w h
    exact absurd (show (none : Option (Int32 × XW)) = some R9 from h) (by simp)
  | succ g ih =>
    intro a0 i1 i2 i3 w h
    rw [fX0_beliefSum_4] at h
    refine x_iload_n (pc := 4) B 3 dX0_beliefSum_4 rfl rfl ?_
    refine x_iconst (pc := 5) B dX0_beliefSum_5 xk_iconst_3 ?_
    rcases xite h with ⟨hc, h⟩ | ⟨hc, h⟩
    · refine x_icmp_ge_t (tgt := 24) (pc := 6) B dX0_beliefSum_6 (by decide) hc ?_
      refine x_iload_n (pc := 24) B 2 dX0_beliefSum_24 rfl rfl ?_
      exact x_iret (pc := 25) B hR dX0_beliefSum_25 (xzI _) h
    · refine x_icmp_ge_f (pc := 6) B 24 dX0_beliefSum_6 (by decide) hc ?_
      refine x_iload_n (pc := 9) B 2 dX0_beliefSum_9 rfl rfl ?_
      refine x_aload_n (pc := 10) B 0 dX0_beliefSum_10 rfl rfl ?_
      refine x_iload_n (pc := 11) B 1 dX0_beliefSum_11 rfl rfl ?_
      refine x_iload_n (pc := 12) B 3 dX0_beliefSum_12 rfl rfl ?_
      obtain ⟨q1, hq, h⟩ := xbind h
      refine x_callV1 (st := [.int i2]) (pc := 13) B dX0_beliefSum_13 (eX0_beliefWeight hq) xt_257 xt_54 np_X0_beliefWeight hy_X0_beliefWeight (Nat.le_of_ble_eq_true rfl) (Nat.le_of_ble_eq_true rfl) (Nat.le_of_ble_eq_true rfl) xt_255 xt_256 xt_254 rfl (iX0_beliefWeight hq) rfl ?_
      refine x_iadd (pc := 16) B dX0_beliefSum_16 ?_
      refine x_istore_n (L1 := [(2, .int (i2 + q1.1)), (0, .ref a0), (1, .int i1), (3, .int i3)]) (pc := 17) B dX0_beliefSum_17 rfl (by decide) rfl ?_
      refine x_iinc (L1 := [(3, .int (i3 + (1 : Int32))), (2, .int (i2 + q1.1)), (0, .ref a0), (1, .int i1)]) (pc := 18) B 3 dX0_beliefSum_18 rfl (congrArg _ xk_iconst_1) (by decide) rfl ?_
      refine x_goto (tgt := 4) (pc := 21) B dX0_beliefSum_21 (by decide) ?_
      refine x_sub (L1 := [(0, .ref a0), (1, .int i1), (2, .int (i2 + q1.1)), (3, .int (i3 + (1 : Int32)))]) [2, 3, 1, 0] rfl ?_
      exact ih a0 i1 (i2 + q1.1) (i3 + (1 : Int32)) q1.2 h
def fX0_beliefSum (a0 : Nat) (i1 : Int32) (w : XW) : Option (Int32 × XW) := if xis w a0 0 = true then
  fX0_beliefSum_4 1000 a0 i1 (0 : Int32) (0 : Int32) w
  else none
theorem iX0_beliefSum {a0 : Nat} {i1 : Int32} {w : XW} {R9 : (Int32 × XW)} (h : fX0_beliefSum a0 i1 w = some R9) : xis w a0 0 = true := by
  unfold fX0_beliefSum at h
  rcases xite h with ⟨hc, h⟩ | ⟨hc, h⟩
  · exact hc
  · exact absurd h (by simp)
theorem np_X0_beliefSum : (parseMethodDescriptor yX0_beliefSum.desc).map (fun d => d.parameters.length) = some 1 := by decide +kernel
theorem hy_X0_beliefSum : yX0_beliefSum.cls ≠ "java/lang/invoke/MethodHandle" ∧ yX0_beliefSum.cls ≠ "java/lang/invoke/VarHandle" := ⟨by decide +kernel, by decide +kernel⟩
set_option maxRecDepth 20000 in
theorem eX0_beliefSum {cx : CX} {a0 : Nat} {i1 : Int32} {w : XW} {R9 : (Int32 × XW)} (h : fX0_beliefSum a0 i1 w = some R9) : Ct yX0_beliefSum cX0_beliefSum 4 (some .int) 3 67 cx [.ref a0, .int i1] w (some (.int R9.1)) R9.2 := by
  refine Ct_of (by decide +kernel) (Nat.le_of_ble_eq_true rfl) (fun K B hR => ?_)
  rw [fX0_beliefSum] at h
  show Wx K cx 4 w.length 0 [(0, .ref a0), (1, .int i1)] [] w
  rcases xite h with ⟨hc, h⟩ | ⟨hc, h⟩
  · skip
    refine x_iconst (pc := 0) B dX0_beliefSum_0 xk_iconst_0 ?_
    refine x_istore_n (L1 := [(2, .int (0 : Int32)), (0, .ref a0), (1, .int i1)]) (pc := 1) B dX0_beliefSum_1 rfl (by decide) rfl ?_
    refine x_iconst (pc := 2) B dX0_beliefSum_2 xk_iconst_0 ?_
    refine x_istore_n (L1 := [(3, .int (0 : Int32)), (2, .int (0 : Int32)), (0, .ref a0), (1, .int i1)]) (pc := 3) B dX0_beliefSum_3 rfl (by decide) rfl ?_
    refine x_sub (L1 := [(0, .ref a0), (1, .int i1), (2, .int (0 : Int32)), (3, .int (0 : Int32))]) [2, 3, 1, 0] rfl ?_
    exact pX0_beliefSum_4 B hR 1000 a0 i1 (0 : Int32) (0 : Int32) w h
  · exact absurd h (by simp)
def fX0_worthOf (a0 : Nat) (i1 : Int32) (i2 : Int32) (w : XW) : Option (Int32 × XW) := if xis w a0 0 = true then
  (fX0_beliefWeight a0 i1 (0 : Int32) w).bind fun q1 =>
  (fX0_beliefWeight a0 i1 (1 : Int32) q1.2).bind fun q2 =>
  (fX0_beliefWeight a0 i1 (2 : Int32) q2.2).bind fun q3 =>
  (fX0_worthBy a0 i1 i2 q1.1 q2.1 q3.1 q3.2).bind fun q4 =>
  some (q4.1, q4.2)
  else none
theorem iX0_worthOf {a0 : Nat} {i1 : Int32} {i2 : Int32} {w : XW} {R9 : (Int32 × XW)} (h : fX0_worthOf a0 i1 i2 w = some R9) : xis w a0 0 = true := by
  unfold fX0_worthOf at h
  rcases xite h with ⟨hc, h⟩ | ⟨hc, h⟩
  · exact hc
  · exact absurd h (by simp)
theorem np_X0_worthOf : (parseMethodDescriptor yX0_worthOf.desc).map (fun d => d.parameters.length) = some 2 := by decide +kernel
theorem hy_X0_worthOf : yX0_worthOf.cls ≠ "java/lang/invoke/MethodHandle" ∧ yX0_worthOf.cls ≠ "java/lang/invoke/VarHandle" := ⟨by decide +kernel, by decide +kernel⟩
set_option maxRecDepth 20000 in
theorem eX0_worthOf {cx : CX} {a0 : Nat} {i1 : Int32} {i2 : Int32} {w : XW} {R9 : (Int32 × XW)} (h : fX0_worthOf a0 i1 i2 w = some R9) : Ct yX0_worthOf cX0_worthOf 6 (some .int) 3 67 cx [.ref a0, .int i1, .int i2] w (some (.int R9.1)) R9.2 := by
  refine Ct_of (by decide +kernel) (Nat.le_of_ble_eq_true rfl) (fun K B hR => ?_)
  rw [fX0_worthOf] at h
  show Wx K cx 6 w.length 0 [(0, .ref a0), (1, .int i1), (2, .int i2)] [] w
  rcases xite h with ⟨hc, h⟩ | ⟨hc, h⟩
  · skip
    refine x_aload_n (pc := 0) B 0 dX0_worthOf_0 rfl rfl ?_
    refine x_iload_n (pc := 1) B 1 dX0_worthOf_1 rfl rfl ?_
    refine x_iconst (pc := 2) B dX0_worthOf_2 xk_iconst_0 ?_
    obtain ⟨q1, hq, h⟩ := xbind h
    refine x_callV1 (st := []) (pc := 3) B dX0_worthOf_3 (eX0_beliefWeight hq) xt_257 xt_54 np_X0_beliefWeight hy_X0_beliefWeight (Nat.le_of_ble_eq_true rfl) (Nat.le_of_ble_eq_true rfl) (Nat.le_of_ble_eq_true rfl) xt_255 xt_256 xt_254 rfl (iX0_beliefWeight hq) rfl ?_
    refine x_istore_n (L1 := [(3, .int q1.1), (0, .ref a0), (1, .int i1), (2, .int i2)]) (pc := 6) B dX0_worthOf_6 rfl (by decide) rfl ?_
    refine x_aload_n (pc := 7) B 1 dX0_worthOf_7 rfl rfl ?_
    refine x_iload_n (pc := 8) B 2 dX0_worthOf_8 rfl rfl ?_
    refine x_iconst (pc := 9) B dX0_worthOf_9 xk_iconst_1 ?_
    obtain ⟨q2, hq, h⟩ := xbind h
    refine x_callV1 (st := []) (pc := 10) B dX0_worthOf_10 (eX0_beliefWeight hq) xt_257 xt_54 np_X0_beliefWeight hy_X0_beliefWeight (Nat.le_of_ble_eq_true rfl) (Nat.le_of_ble_eq_true rfl) (Nat.le_of_ble_eq_true rfl) xt_255 xt_256 xt_254 rfl (iX0_beliefWeight hq) rfl ?_
    refine x_istore (L1 := [(4, .int q2.1), (3, .int q1.1), (0, .ref a0), (1, .int i1), (2, .int i2)]) (pc := 13) B dX0_worthOf_13 (by decide) rfl ?_
    refine x_aload_n (pc := 15) B 2 dX0_worthOf_15 rfl rfl ?_
    refine x_iload_n (pc := 16) B 3 dX0_worthOf_16 rfl rfl ?_
    refine x_iconst (pc := 17) B dX0_worthOf_17 xk_iconst_2 ?_
    obtain ⟨q3, hq, h⟩ := xbind h
    refine x_callV1 (st := []) (pc := 18) B dX0_worthOf_18 (eX0_beliefWeight hq) xt_257 xt_54 np_X0_beliefWeight hy_X0_beliefWeight (Nat.le_of_ble_eq_true rfl) (Nat.le_of_ble_eq_true rfl) (Nat.le_of_ble_eq_true rfl) xt_255 xt_256 xt_254 rfl (iX0_beliefWeight hq) rfl ?_
    refine x_istore (L1 := [(5, .int q3.1), (4, .int q2.1), (3, .int q1.1), (0, .ref a0), (1, .int i1), (2, .int i2)]) (pc := 21) B dX0_worthOf_21 (by decide) rfl ?_
    refine x_aload_n (pc := 23) B 3 dX0_worthOf_23 rfl rfl ?_
    refine x_iload_n (pc := 24) B 4 dX0_worthOf_24 rfl rfl ?_
    refine x_iload_n (pc := 25) B 5 dX0_worthOf_25 rfl rfl ?_
    refine x_iload_n (pc := 26) B 2 dX0_worthOf_26 rfl rfl ?_
    refine x_iload (pc := 27) B 1 dX0_worthOf_27 rfl ?_
    refine x_iload (pc := 29) B 0 dX0_worthOf_29 rfl ?_
    obtain ⟨q4, hq, h⟩ := xbind h
    refine x_callV1 (st := []) (pc := 31) B dX0_worthOf_31 (eX0_worthBy hq) xt_273 xt_54 np_X0_worthBy hy_X0_worthBy (Nat.le_of_ble_eq_true rfl) (Nat.le_of_ble_eq_true rfl) (Nat.le_of_ble_eq_true rfl) xt_272 xt_7 xt_270 rfl (iX0_worthBy hq) rfl ?_
    exact x_iret (pc := 34) B hR dX0_worthOf_34 (xzI _) h
  · exact absurd h (by simp)
def fX0_lowestWrongMessage_2 : Nat → Nat → Int32 → XW → Option (Int32 × XW)
  | 0, _, _, _ => none
  | g + 1, a0, i1, w =>
    if (3 : Int32) ≤ i1 then
      some ((-6 : Int32), w)
    else
    (fX0_bestActions a0 i1 w).bind fun q1 =>
    (fX0_answerPlace i1 q1.2).bind fun q2 =>
    (fX0_cell a0 q2.1 q2.2).bind fun q3 =>
    (fX3_has q1.1 q3.1 q3.2).bind fun q4 =>
    if q4.1 = (0 : Int32) then
      some (i1, q4.2)
    else
    fX0_lowestWrongMessage_2 g a0 (i1 + (1 : Int32)) q4.2
set_option maxRecDepth 20000 in
theorem pX0_lowestWrongMessage_2 {K : KX} {cx : CX} {nn : Nat} {R9 : Int32 × XW} (B : XB K cx RX0 cX0_lowestWrongMessage 2 nn 4 100) (hR : XR K cx nn (some .int) (some (.int R9.1)) R9.2) : ∀ (g : Nat) (a0 : Nat) (i1 : Int32) (w : XW), fX0_lowestWrongMessage_2 g a0 i1 w = some R9 → Wx K cx 2 nn 2 [(0, .ref a0), (1, .int i1)] [] w := by
  intro g
  induction g with
  | zero =>
    intro a0 i1 w h
    exact absurd (show (none : Option (Int32 × XW)) = some R9 from h) (by simp)
  | succ g ih =>
    intro a0 i1 w h
    rw [fX0_lowestWrongMessage_2] at h
    refine x_iload_n (pc := 2) B 1 dX0_lowestWrongMessage_2 rfl rfl ?_
    refine x_iconst (pc := 3) B dX0_lowestWrongMessage_3 xk_iconst_3 ?_
    rcases xite h with ⟨hc, h⟩ | ⟨hc, h⟩
    · refine x_icmp_ge_t (tgt := 34) (pc := 4) B dX0_lowestWrongMessage_4 (by decide) hc ?_
      refine x_bipush (pc := 34) B dX0_lowestWrongMessage_34 xk_bipush_m6 ?_
      exact x_iret (pc := 36) B hR dX0_lowestWrongMessage_36 (xzI _) h
    · refine x_icmp_ge_f (pc := 4) B 34 dX0_lowestWrongMessage_4 (by decide) hc ?_
      refine x_aload_n (pc := 7) B 0 dX0_lowestWrongMessage_7 rfl rfl ?_
      refine x_iload_n (pc := 8) B 1 dX0_lowestWrongMessage_8 rfl rfl ?_
      obtain ⟨q1, hq, h⟩ := xbind h
      refine x_callV1 (st := []) (pc := 9) B dX0_lowestWrongMessage_9 (eX0_bestActions hq) xt_253 xt_54 np_X0_bestActions hy_X0_bestActions (Nat.le_of_ble_eq_true rfl) (Nat.le_of_ble_eq_true rfl) (Nat.le_of_ble_eq_true rfl) xt_251 xt_252 xt_396 rfl (iX0_bestActions hq) rfl ?_
      refine x_aload_n (pc := 12) B 0 dX0_lowestWrongMessage_12 rfl rfl ?_
      refine x_iload_n (pc := 13) B 1 dX0_lowestWrongMessage_13 rfl rfl ?_
      obtain ⟨q2, hq, h⟩ := xbind h
      refine x_callS1 (st := [.ref a0, .int q1.1]) (pc := 14) B dX0_lowestWrongMessage_14 (eX0_answerPlace hq) xt_216 xt_54 np_X0_answerPlace hy_X0_answerPlace (Nat.le_of_ble_eq_true rfl) (Nat.le_of_ble_eq_true rfl) (Nat.le_of_ble_eq_true rfl) xt_215 xt_288 rfl ?_
      obtain ⟨q3, hq, h⟩ := xbind h
      refine x_callV1 (st := [.int q1.1]) (pc := 17) B dX0_lowestWrongMessage_17 (eX0_cell hq) xt_153 xt_54 np_X0_cell hy_X0_cell (Nat.le_of_ble_eq_true rfl) (Nat.le_of_ble_eq_true rfl) (Nat.le_of_ble_eq_true rfl) xt_151 xt_152 xt_150 rfl (iX0_cell hq) rfl ?_
      obtain ⟨q4, hq, h⟩ := xbind h
      refine x_callSN1 (st := []) (pc := 20) B dX0_lowestWrongMessage_20 (eX3_has hq) xt_265 xt_53 np_X3_has hy_X3_has (Nat.le_of_ble_eq_true rfl) (Nat.le_of_ble_eq_true rfl) (Nat.le_of_ble_eq_true rfl) xt_264 (List.mem_of_getElem? (i := 1) rfl) rfl ?_
      rcases xite h with ⟨hc, h⟩ | ⟨hc, h⟩
      · refine x_if_ne_f (pc := 23) B 28 dX0_lowestWrongMessage_23 (by decide) hc ?_
        refine x_iload_n (pc := 26) B 1 dX0_lowestWrongMessage_26 rfl rfl ?_
        exact x_iret (pc := 27) B hR dX0_lowestWrongMessage_27 (xzI _) h
      · refine x_if_ne_t (tgt := 28) (pc := 23) B dX0_lowestWrongMessage_23 (by decide) hc ?_
        refine x_iinc (L1 := [(1, .int (i1 + (1 : Int32))), (0, .ref a0)]) (pc := 28) B 1 dX0_lowestWrongMessage_28 rfl (congrArg _ xk_iconst_1) (by decide) rfl ?_
        refine x_goto (tgt := 2) (pc := 31) B dX0_lowestWrongMessage_31 (by decide) ?_
        refine x_sub (L1 := [(0, .ref a0), (1, .int (i1 + (1 : Int32)))]) [1, 0] rfl ?_
        exact ih a0 (i1 + (1 : Int32)) q4.2 h
def fX0_lowestWrongMessage (a0 : Nat) (w : XW) : Option (Int32 × XW) := if xis w a0 0 = true then
  fX0_lowestWrongMessage_2 1000 a0 (0 : Int32) w
  else none
theorem iX0_lowestWrongMessage {a0 : Nat} {w : XW} {R9 : (Int32 × XW)} (h : fX0_lowestWrongMessage a0 w = some R9) : xis w a0 0 = true := by
  unfold fX0_lowestWrongMessage at h
  rcases xite h with ⟨hc, h⟩ | ⟨hc, h⟩
  · exact hc
  · exact absurd h (by simp)
theorem np_X0_lowestWrongMessage : (parseMethodDescriptor yX0_lowestWrongMessage.desc).map (fun d => d.parameters.length) = some 0 := by decide +kernel
theorem hy_X0_lowestWrongMessage : yX0_lowestWrongMessage.cls ≠ "java/lang/invoke/MethodHandle" ∧ yX0_lowestWrongMessage.cls ≠ "java/lang/invoke/VarHandle" := ⟨by decide +kernel, by decide +kernel⟩
set_option maxRecDepth 20000 in
theorem eX0_lowestWrongMessage {cx : CX} {a0 : Nat} {w : XW} {R9 : (Int32 × XW)} (h : fX0_lowestWrongMessage a0 w = some R9) : Ct yX0_lowestWrongMessage cX0_lowestWrongMessage 2 (some .int) 4 100 cx [.ref a0] w (some (.int R9.1)) R9.2 := by
  refine Ct_of (by decide +kernel) (Nat.le_of_ble_eq_true rfl) (fun K B hR => ?_)
  rw [fX0_lowestWrongMessage] at h
  show Wx K cx 2 w.length 0 [(0, .ref a0)] [] w
  rcases xite h with ⟨hc, h⟩ | ⟨hc, h⟩
  · skip
    refine x_iconst (pc := 0) B dX0_lowestWrongMessage_0 xk_iconst_0 ?_
    refine x_istore_n (L1 := [(1, .int (0 : Int32)), (0, .ref a0)]) (pc := 1) B dX0_lowestWrongMessage_1 rfl (by decide) rfl ?_
    refine x_sub (L1 := [(0, .ref a0), (1, .int (0 : Int32))]) [1, 0] rfl ?_
    exact pX0_lowestWrongMessage_2 B hR 1000 a0 (0 : Int32) w h
  · exact absurd h (by simp)
def fX0_isHolding (a0 : Nat) (w : XW) : Option (Int32 × XW) := if xis w a0 0 = true then
  (fX0_lowestBetterType a0 w).bind fun q1 =>
  if q1.1 = (-6 : Int32) then
    (fX0_lowestWrongMessage a0 q1.2).bind fun q2 =>
    if q2.1 = (-6 : Int32) then
      some ((1 : Int32), q2.2)
    else
    some ((0 : Int32), q2.2)
  else
  some ((0 : Int32), q1.2)
  else none
theorem iX0_isHolding {a0 : Nat} {w : XW} {R9 : (Int32 × XW)} (h : fX0_isHolding a0 w = some R9) : xis w a0 0 = true := by
  unfold fX0_isHolding at h
  rcases xite h with ⟨hc, h⟩ | ⟨hc, h⟩
  · exact hc
  · exact absurd h (by simp)
theorem np_X0_isHolding : (parseMethodDescriptor yX0_isHolding.desc).map (fun d => d.parameters.length) = some 0 := by decide +kernel
theorem hy_X0_isHolding : yX0_isHolding.cls ≠ "java/lang/invoke/MethodHandle" ∧ yX0_isHolding.cls ≠ "java/lang/invoke/VarHandle" := ⟨by decide +kernel, by decide +kernel⟩
set_option maxRecDepth 20000 in
theorem eX0_isHolding {cx : CX} {a0 : Nat} {w : XW} {R9 : (Int32 × XW)} (h : fX0_isHolding a0 w = some R9) : Ct yX0_isHolding cX0_isHolding 1 (some .boolean) 5 121 cx [.ref a0] w (some (.int R9.1)) R9.2 := by
  refine Ct_of (by decide +kernel) (Nat.le_of_ble_eq_true rfl) (fun K B hR => ?_)
  rw [fX0_isHolding] at h
  show Wx K cx 1 w.length 0 [(0, .ref a0)] [] w
  rcases xite h with ⟨hc, h⟩ | ⟨hc, h⟩
  · skip
    refine x_aload_n (pc := 0) B 0 dX0_isHolding_0 rfl rfl ?_
    obtain ⟨q1, hq, h⟩ := xbind h
    refine x_callV1 (st := []) (pc := 1) B dX0_isHolding_1 (eX0_lowestBetterType hq) xt_279 xt_54 np_X0_lowestBetterType hy_X0_lowestBetterType (Nat.le_of_ble_eq_true rfl) (Nat.le_of_ble_eq_true rfl) (Nat.le_of_ble_eq_true rfl) xt_277 xt_278 xt_405 rfl (iX0_lowestBetterType hq) rfl ?_
    refine x_bipush (pc := 4) B dX0_isHolding_4 xk_bipush_m6 ?_
    rcases xite h with ⟨hc, h⟩ | ⟨hc, h⟩
    · refine x_icmp_ne_f (pc := 6) B 22 dX0_isHolding_6 (by decide) hc ?_
      refine x_aload_n (pc := 9) B 0 dX0_isHolding_9 rfl rfl ?_
      obtain ⟨q2, hq, h⟩ := xbind h
      refine x_callV1 (st := []) (pc := 10) B dX0_isHolding_10 (eX0_lowestWrongMessage hq) xt_395 xt_54 np_X0_lowestWrongMessage hy_X0_lowestWrongMessage (Nat.le_of_ble_eq_true rfl) (Nat.le_of_ble_eq_true rfl) (Nat.le_of_ble_eq_true rfl) xt_393 xt_394 xt_406 rfl (iX0_lowestWrongMessage hq) rfl ?_
      refine x_bipush (pc := 13) B dX0_isHolding_13 xk_bipush_m6 ?_
      rcases xite h with ⟨hc, h⟩ | ⟨hc, h⟩
      · refine x_icmp_ne_f (pc := 15) B 22 dX0_isHolding_15 (by decide) hc ?_
        refine x_iconst (pc := 18) B dX0_isHolding_18 xk_iconst_1 ?_
        refine x_goto (tgt := 23) (pc := 19) B dX0_isHolding_19 (by decide) ?_
        exact x_iret (pc := 23) B hR dX0_isHolding_23 xz1 h
      · refine x_icmp_ne_t (tgt := 22) (pc := 15) B dX0_isHolding_15 (by decide) hc ?_
        refine x_iconst (pc := 22) B dX0_isHolding_22 xk_iconst_0 ?_
        exact x_iret (pc := 23) B hR dX0_isHolding_23 xz0 h
    · refine x_icmp_ne_t (tgt := 22) (pc := 6) B dX0_isHolding_6 (by decide) hc ?_
      refine x_iconst (pc := 22) B dX0_isHolding_22 xk_iconst_0 ?_
      exact x_iret (pc := 23) B hR dX0_isHolding_23 xz0 h
  · exact absurd h (by simp)
def fX0_code_5 : Nat → Nat → Int32 → Int32 → XW → Option (Int32 × XW)
  | 0, _, _, _, _ => none
  | g + 1, a0, i1, i2, w =>
    if (72 : Int32) ≤ i2 then
      some (i1, w)
    else
    (xgR w a0 0 0).bind fun v1 =>
    (xaI w v1 i2).bind fun v2 =>
    fX0_code_5 g a0 ((i1 * (3 : Int32)) + v2) (i2 + (1 : Int32)) w
set_option maxRecDepth 20000 in
theorem pX0_code_5 {K : KX} {cx : CX} {nn : Nat} {R9 : Int32 × XW} (B : XB K cx RX0 cX0_code 3 nn 0 0) (hR : XR K cx nn (some .int) (some (.int R9.1)) R9.2) : ∀ (g : Nat) (a0 : Nat) (i1 : Int32) (i2 : Int32) (w : XW), fX0_code_5 g a0 i1 i2 w = some R9 → Wx K cx 3 nn 5 [(0, .ref a0), (1, .int i1), (2, .int i2)] [] w := by
  intro g
  induction g with
  | zero =>
    intro a0 i1 i2 w h
    exact absurd (show (none : Option (Int32 × XW)) = some R9 from h) (by simp)
  | succ g ih =>
    intro a0 i1 i2 w h
    rw [fX0_code_5] at h
    refine x_iload_n (pc := 5) B 2 dX0_code_5 rfl rfl ?_
    refine x_bipush (pc := 6) B dX0_code_6 xk_bipush_72 ?_
    rcases xite h with ⟨hc, h⟩ | ⟨hc, h⟩
    · refine x_icmp_ge_t (tgt := 28) (pc := 8) B dX0_code_8 (by decide) hc ?_
      refine x_iload_n (pc := 28) B 1 dX0_code_28 rfl rfl ?_
      exact x_iret (pc := 29) B hR dX0_code_29 (xzI _) h
    · refine x_icmp_ge_f (pc := 8) B 28 dX0_code_8 (by decide) hc ?_
      refine x_iload_n (pc := 11) B 1 dX0_code_11 rfl rfl ?_
      refine x_iconst (pc := 12) B dX0_code_12 xk_iconst_3 ?_
      refine x_imul (pc := 13) B dX0_code_13 ?_
      refine x_aload_n (pc := 14) B 0 dX0_code_14 rfl rfl ?_
      obtain ⟨v1, hv, h⟩ := xbind h
      refine x_getR (k0 := 0) (pc := 15) B dX0_code_15 rfl xi_0 (by decide) ⟨rfl, rfl, rfl⟩ xt_86 hv ?_
      refine x_iload_n (pc := 18) B 2 dX0_code_18 rfl rfl ?_
      obtain ⟨v2, hv, h⟩ := xbind h
      refine x_iald (pc := 19) B dX0_code_19 hv ?_
      refine x_iadd (pc := 20) B dX0_code_20 ?_
      refine x_istore_n (L1 := [(1, .int ((i1 * (3 : Int32)) + v2)), (0, .ref a0), (2, .int i2)]) (pc := 21) B dX0_code_21 rfl (by decide) rfl ?_
      refine x_iinc (L1 := [(2, .int (i2 + (1 : Int32))), (1, .int ((i1 * (3 : Int32)) + v2)), (0, .ref a0)]) (pc := 22) B 2 dX0_code_22 rfl (congrArg _ xk_iconst_1) (by decide) rfl ?_
      refine x_goto (tgt := 5) (pc := 25) B dX0_code_25 (by decide) ?_
      refine x_sub (L1 := [(0, .ref a0), (1, .int ((i1 * (3 : Int32)) + v2)), (2, .int (i2 + (1 : Int32)))]) [2, 1, 0] rfl ?_
      exact ih a0 ((i1 * (3 : Int32)) + v2) (i2 + (1 : Int32)) w h
def fX0_code (a0 : Nat) (w : XW) : Option (Int32 × XW) := if xis w a0 0 = true then
  fX0_code_5 1000 a0 (0 : Int32) (66 : Int32) w
  else none
theorem iX0_code {a0 : Nat} {w : XW} {R9 : (Int32 × XW)} (h : fX0_code a0 w = some R9) : xis w a0 0 = true := by
  unfold fX0_code at h
  rcases xite h with ⟨hc, h⟩ | ⟨hc, h⟩
  · exact hc
  · exact absurd h (by simp)
theorem np_X0_code : (parseMethodDescriptor yX0_code.desc).map (fun d => d.parameters.length) = some 0 := by decide +kernel
theorem hy_X0_code : yX0_code.cls ≠ "java/lang/invoke/MethodHandle" ∧ yX0_code.cls ≠ "java/lang/invoke/VarHandle" := ⟨by decide +kernel, by decide +kernel⟩
set_option maxRecDepth 20000 in
theorem eX0_code {cx : CX} {a0 : Nat} {w : XW} {R9 : (Int32 × XW)} (h : fX0_code a0 w = some R9) : Ct yX0_code cX0_code 3 (some .int) 0 0 cx [.ref a0] w (some (.int R9.1)) R9.2 := by
  refine Ct_of (by decide +kernel) (Nat.le_of_ble_eq_true rfl) (fun K B hR => ?_)
  rw [fX0_code] at h
  show Wx K cx 3 w.length 0 [(0, .ref a0)] [] w
  rcases xite h with ⟨hc, h⟩ | ⟨hc, h⟩
  · skip
    refine x_iconst (pc := 0) B dX0_code_0 xk_iconst_0 ?_
    refine x_istore_n (L1 := [(1, .int (0 : Int32)), (0, .ref a0)]) (pc := 1) B dX0_code_1 rfl (by decide) rfl ?_
    refine x_bipush (pc := 2) B dX0_code_2 xk_bipush_66 ?_
    refine x_istore_n (L1 := [(2, .int (66 : Int32)), (1, .int (0 : Int32)), (0, .ref a0)]) (pc := 4) B dX0_code_4 rfl (by decide) rfl ?_
    refine x_sub (L1 := [(0, .ref a0), (1, .int (0 : Int32)), (2, .int (66 : Int32))]) [2, 1, 0] rfl ?_
    exact pX0_code_5 B hR 1000 a0 (0 : Int32) (66 : Int32) w h
  · exact absurd h (by simp)
def fX0_receiverSum_4 : Nat → Nat → Int32 → Int32 → XW → Option (Int32 × XW)
  | 0, _, _, _, _ => none
  | g + 1, a0, i1, i2, w =>
    if (3 : Int32) ≤ i2 then
      some (i1, w)
    else
    (fX0_messagePlace i2 w).bind fun q1 =>
    (fX0_cell a0 q1.1 q1.2).bind fun q2 =>
    (fX0_answerPlace q2.1 q2.2).bind fun q3 =>
    (fX0_cell a0 q3.1 q3.2).bind fun q4 =>
    (fX0_weightPlace i2 q4.2).bind fun q5 =>
    (fX0_cell a0 q5.1 q5.2).bind fun q6 =>
    (fX0_payPlace (1 : Int32) i2 q2.1 q4.1 q6.2).bind fun q7 =>
    (fX0_cell a0 q7.1 q7.2).bind fun q8 =>
    fX0_receiverSum_4 g a0 (i1 + (q6.1 * q8.1)) (i2 + (1 : Int32)) q8.2
set_option maxRecDepth 20000 in
theorem pX0_receiverSum_4 {K : KX} {cx : CX} {nn : Nat} {R9 : Int32 × XW} (B : XB K cx RX0 cX0_receiverSum 5 nn 1 23) (hR : XR K cx nn (some .int) (some (.int R9.1)) R9.2) : ∀ (g : Nat) (a0 : Nat) (i1 : Int32) (i2 : Int32) (w : XW), fX0_receiverSum_4 g a0 i1 i2 w = some R9 → Wx K cx 5 nn 4 [(0, .ref a0), (1, .int i1), (2, .int i2)] [] w := by
  intro g
  induction g with
  | zero =>
    intro a0 i1 i2 w h
    exact absurd (show (none : Option (Int32 × XW)) = some R9 from h) (by simp)
  | succ g ih =>
    intro a0 i1 i2 w h
    rw [fX0_receiverSum_4] at h
    refine x_iload_n (pc := 4) B 2 dX0_receiverSum_4 rfl rfl ?_
    refine x_iconst (pc := 5) B dX0_receiverSum_5 xk_iconst_3 ?_
    rcases xite h with ⟨hc, h⟩ | ⟨hc, h⟩
    · refine x_icmp_ge_t (tgt := 58) (pc := 6) B dX0_receiverSum_6 (by decide) hc ?_
      refine x_iload_n (pc := 58) B 1 dX0_receiverSum_58 rfl rfl ?_
      exact x_iret (pc := 59) B hR dX0_receiverSum_59 (xzI _) h
    · refine x_icmp_ge_f (pc := 6) B 58 dX0_receiverSum_6 (by decide) hc ?_
      refine x_aload_n (pc := 9) B 0 dX0_receiverSum_9 rfl rfl ?_
      refine x_iload_n (pc := 10) B 2 dX0_receiverSum_10 rfl rfl ?_
      obtain ⟨q1, hq, h⟩ := xbind h
      refine x_callS1 (st := [.ref a0]) (pc := 11) B dX0_receiverSum_11 (eX0_messagePlace hq) xt_209 xt_54 np_X0_messagePlace hy_X0_messagePlace (Nat.le_of_ble_eq_true rfl) (Nat.le_of_ble_eq_true rfl) (Nat.le_of_ble_eq_true rfl) xt_208 xt_262 rfl ?_
      obtain ⟨q2, hq, h⟩ := xbind h
      refine x_callV1 (st := []) (pc := 14) B dX0_receiverSum_14 (eX0_cell hq) xt_153 xt_54 np_X0_cell hy_X0_cell (Nat.le_of_ble_eq_true rfl) (Nat.le_of_ble_eq_true rfl) (Nat.le_of_ble_eq_true rfl) xt_151 xt_152 xt_150 rfl (iX0_cell hq) rfl ?_
      refine x_istore_n (L1 := [(3, .int q2.1), (0, .ref a0), (1, .int i1), (2, .int i2)]) (pc := 17) B dX0_receiverSum_17 rfl (by decide) rfl ?_
      refine x_aload_n (pc := 18) B 1 dX0_receiverSum_18 rfl rfl ?_
      refine x_iload_n (pc := 19) B 0 dX0_receiverSum_19 rfl rfl ?_
      obtain ⟨q3, hq, h⟩ := xbind h
      refine x_callS1 (st := [.ref a0]) (pc := 20) B dX0_receiverSum_20 (eX0_answerPlace hq) xt_216 xt_54 np_X0_answerPlace hy_X0_answerPlace (Nat.le_of_ble_eq_true rfl) (Nat.le_of_ble_eq_true rfl) (Nat.le_of_ble_eq_true rfl) xt_215 xt_288 rfl ?_
      obtain ⟨q4, hq, h⟩ := xbind h
      refine x_callV1 (st := []) (pc := 23) B dX0_receiverSum_23 (eX0_cell hq) xt_153 xt_54 np_X0_cell hy_X0_cell (Nat.le_of_ble_eq_true rfl) (Nat.le_of_ble_eq_true rfl) (Nat.le_of_ble_eq_true rfl) xt_151 xt_152 xt_150 rfl (iX0_cell hq) rfl ?_
      refine x_istore (L1 := [(4, .int q4.1), (3, .int q2.1), (0, .ref a0), (1, .int i1), (2, .int i2)]) (pc := 26) B dX0_receiverSum_26 (by decide) rfl ?_
      refine x_iload_n (pc := 28) B 3 dX0_receiverSum_28 rfl rfl ?_
      refine x_aload_n (pc := 29) B 2 dX0_receiverSum_29 rfl rfl ?_
      refine x_iload_n (pc := 30) B 4 dX0_receiverSum_30 rfl rfl ?_
      obtain ⟨q5, hq, h⟩ := xbind h
      refine x_callS1 (st := [.ref a0, .int i1]) (pc := 31) B dX0_receiverSum_31 (eX0_weightPlace hq) xt_149 xt_54 np_X0_weightPlace hy_X0_weightPlace (Nat.le_of_ble_eq_true rfl) (Nat.le_of_ble_eq_true rfl) (Nat.le_of_ble_eq_true rfl) xt_148 xt_147 rfl ?_
      obtain ⟨q6, hq, h⟩ := xbind h
      refine x_callV1 (st := [.int i1]) (pc := 34) B dX0_receiverSum_34 (eX0_cell hq) xt_153 xt_54 np_X0_cell hy_X0_cell (Nat.le_of_ble_eq_true rfl) (Nat.le_of_ble_eq_true rfl) (Nat.le_of_ble_eq_true rfl) xt_151 xt_152 xt_150 rfl (iX0_cell hq) rfl ?_
      refine x_aload_n (pc := 37) B 2 dX0_receiverSum_37 rfl rfl ?_
      refine x_iconst (pc := 38) B dX0_receiverSum_38 xk_iconst_1 ?_
      refine x_iload_n (pc := 39) B 4 dX0_receiverSum_39 rfl rfl ?_
      refine x_iload_n (pc := 40) B 1 dX0_receiverSum_40 rfl rfl ?_
      refine x_iload (pc := 41) B 0 dX0_receiverSum_41 rfl ?_
      obtain ⟨q7, hq, h⟩ := xbind h
      refine x_callS1 (st := [.ref a0, .int q6.1, .int i1]) (pc := 43) B dX0_receiverSum_43 (eX0_payPlace hq) xt_186 xt_54 np_X0_payPlace hy_X0_payPlace (Nat.le_of_ble_eq_true rfl) (Nat.le_of_ble_eq_true rfl) (Nat.le_of_ble_eq_true rfl) xt_185 xt_274 rfl ?_
      obtain ⟨q8, hq, h⟩ := xbind h
      refine x_callV1 (st := [.int q6.1, .int i1]) (pc := 46) B dX0_receiverSum_46 (eX0_cell hq) xt_153 xt_54 np_X0_cell hy_X0_cell (Nat.le_of_ble_eq_true rfl) (Nat.le_of_ble_eq_true rfl) (Nat.le_of_ble_eq_true rfl) xt_151 xt_152 xt_150 rfl (iX0_cell hq) rfl ?_
      refine x_imul (pc := 49) B dX0_receiverSum_49 ?_
      refine x_iadd (pc := 50) B dX0_receiverSum_50 ?_
      refine x_istore_n (L1 := [(1, .int (i1 + (q6.1 * q8.1))), (4, .int q4.1), (3, .int q2.1), (0, .ref a0), (2, .int i2)]) (pc := 51) B dX0_receiverSum_51 rfl (by decide) rfl ?_
      refine x_iinc (L1 := [(2, .int (i2 + (1 : Int32))), (1, .int (i1 + (q6.1 * q8.1))), (4, .int q4.1), (3, .int q2.1), (0, .ref a0)]) (pc := 52) B 4 dX0_receiverSum_52 rfl (congrArg _ xk_iconst_1) (by decide) rfl ?_
      refine x_goto (tgt := 4) (pc := 55) B dX0_receiverSum_55 (by decide) ?_
      refine x_sub (L1 := [(0, .ref a0), (1, .int (i1 + (q6.1 * q8.1))), (2, .int (i2 + (1 : Int32)))]) [4, 1, 0] rfl ?_
      exact ih a0 (i1 + (q6.1 * q8.1)) (i2 + (1 : Int32)) q8.2 h
def fX0_receiverSum (a0 : Nat) (w : XW) : Option (Int32 × XW) := if xis w a0 0 = true then
  fX0_receiverSum_4 1000 a0 (0 : Int32) (0 : Int32) w
  else none
theorem iX0_receiverSum {a0 : Nat} {w : XW} {R9 : (Int32 × XW)} (h : fX0_receiverSum a0 w = some R9) : xis w a0 0 = true := by
  unfold fX0_receiverSum at h
  rcases xite h with ⟨hc, h⟩ | ⟨hc, h⟩
  · exact hc
  · exact absurd h (by simp)
theorem np_X0_receiverSum : (parseMethodDescriptor yX0_receiverSum.desc).map (fun d => d.parameters.length) = some 0 := by decide +kernel
theorem hy_X0_receiverSum : yX0_receiverSum.cls ≠ "java/lang/invoke/MethodHandle" ∧ yX0_receiverSum.cls ≠ "java/lang/invoke/VarHandle" := ⟨by decide +kernel, by decide +kernel⟩
set_option maxRecDepth 20000 in
theorem eX0_receiverSum {cx : CX} {a0 : Nat} {w : XW} {R9 : (Int32 × XW)} (h : fX0_receiverSum a0 w = some R9) : Ct yX0_receiverSum cX0_receiverSum 5 (some .int) 1 23 cx [.ref a0] w (some (.int R9.1)) R9.2 := by
  refine Ct_of (by decide +kernel) (Nat.le_of_ble_eq_true rfl) (fun K B hR => ?_)
  rw [fX0_receiverSum] at h
  show Wx K cx 5 w.length 0 [(0, .ref a0)] [] w
  rcases xite h with ⟨hc, h⟩ | ⟨hc, h⟩
  · skip
    refine x_iconst (pc := 0) B dX0_receiverSum_0 xk_iconst_0 ?_
    refine x_istore_n (L1 := [(1, .int (0 : Int32)), (0, .ref a0)]) (pc := 1) B dX0_receiverSum_1 rfl (by decide) rfl ?_
    refine x_iconst (pc := 2) B dX0_receiverSum_2 xk_iconst_0 ?_
    refine x_istore_n (L1 := [(2, .int (0 : Int32)), (1, .int (0 : Int32)), (0, .ref a0)]) (pc := 3) B dX0_receiverSum_3 rfl (by decide) rfl ?_
    refine x_sub (L1 := [(0, .ref a0), (1, .int (0 : Int32)), (2, .int (0 : Int32))]) [2, 1, 0] rfl ?_
    exact pX0_receiverSum_4 B hR 1000 a0 (0 : Int32) (0 : Int32) w h
  · exact absurd h (by simp)
